section
variable {g : Nat → Nat} {R : Option Value → cc_C → Prop} {X : String → cc_C → Prop}
/-- the outcome of a proof in the reference: 3, 1 or 2 -/
def outN (m : Nat → Nat) (n : Nat) : Nat := if eE m n = true then 3 else if wE m n = true then 1 else 2
def ltr (o : Nat) : Int32 := if o = 0 then 45 else if o = 1 then 119 else if o = 2 then 110 else 102
theorem outS_ltr (m : Nat → Nat) (n : Nat) : outS m n = ltr (outN m n) := by
  unfold outS outN
  by_cases h1 : eE m n = true
  · rw [if_pos h1, if_pos h1]; rfl
  · rw [if_neg h1, if_neg h1]
    by_cases h2 : wE m n = true
    · rw [if_pos h2, if_pos h2]; rfl
    · rw [if_neg h2, if_neg h2]; rfl
def pPn (f i : Nat) : Prop := f = 874 ∧ i = 0 ∨ f = 880 ∧ (i = 25 ∨ i = 3 ∨ i = 4 ∨ i = 10 ∨ i = 11 ∨ i = 12)
theorem clM_row {c d : cc_C} {r : Nat} (h : fr pPn c d) : clM d r = clM c r := by
  unfold clM
  funext e
  have hh : ∀ i, 6 ≤ i ∧ i ≤ 9 → cS d 880 i = cS c 880 i := fun i hi => h.row (fun q => by rcases q with q | q <;> omega)
  rw [hh 6 (by omega), hh 7 (by omega), hh 8 (by omega), hh 9 (by omega)]
end
