section
variable {g : Nat → Nat} {R : Option Value → cc_C → Prop} {X : String → cc_C → Prop}
def pSt (f i : Nat) : Prop := f = 880 ∧ i = 26
theorem pSt_no : ∀ i, i < 20 → ¬ pSt 880 i := fun i h q => by
  have := q.2
  omega
end
