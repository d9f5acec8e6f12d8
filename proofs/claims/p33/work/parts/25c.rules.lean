section
variable {g : Nat → Nat} {R : Option Value → cc_C → Prop} {X : String → cc_C → Prop}
theorem hi_is {y : Nat} (h : y < 64) (h0 : y ≠ 0) : lo6 ((-1 : Int32) <<< (hiG y 7 &&& 31)) = 63 - loN y := by
  have k : ∀ y, y < 64 → (y ≠ 0 → lo6 ((-1 : Int32) <<< (hiG y 7 &&& 31)) = 63 - loN y) := by decide +kernel
  exact k y h h0
theorem lo_is {y : Nat} (h : y < 64) (h0 : y ≠ 0) : lo6 (((2 : Int32) <<< (nI (lowG y 6 0) &&& 31)) - (1)) = 63 - riN y := by
  have k : ∀ y, y < 64 → (y ≠ 0 → lo6 (((2 : Int32) <<< (nI (lowG y 6 0) &&& 31)) - (1)) = 63 - riN y) := by decide +kernel
  exact k y h h0
theorem meR_at {c : cc_C} {n p : Nat} {m : Nat → Nat} (h : meR c n m) (hp : p < n) : cS c 880 25 (nI p).toNatClampNeg = nI (m p) := by
  rw [nI_clamp (by have := h.1; omega)]
  exact h.2.1 p hp
/-- the riddle that is being proved -/
def nwR (c : cc_C) (r n : Nat) : Prop := r < 20 ∧ cS c 874 0 0 = nI r ∧ cS c 880 0 r = nI n
theorem nwR_fr {P : Nat → Nat → Prop} {c d : cc_C} {r n : Nat} (h : fr P c d) (h1 : ¬ P 874 0) (h2 : ¬ P 880 0) (hs : nwR c r n) : nwR d r n := by
  unfold nwR
  rw [h.row h1, h.row h2]
  exact hs
theorem may_no1 : ¬ pMay 874 0 := fun q => by
  have := q.1
  omega
theorem may_no2 : ¬ pMay 880 0 := fun q => by
  have := q.2
  omega
end
