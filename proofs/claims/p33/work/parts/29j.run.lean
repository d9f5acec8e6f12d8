section
variable {g : Nat → Nat} {R : Option Value → cc_C → Prop} {X : String → cc_C → Prop}
theorem okM_le {n : Nat} {m m' : Nat → Nat} (h : okM n m) (hl : ∀ k, m' k ≤ m k) (he : eE m' n = false) : okM n m' := ⟨eE_no he, fun i hi => Nat.lt_of_le_of_lt (hl i) (h.2 i hi)⟩
end
