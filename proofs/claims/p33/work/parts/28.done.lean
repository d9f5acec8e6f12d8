/-! the reference makes a step -/
/-- nobody is empty, nobody has more than n places -/
def okM (n : Nat) (m : Nat → Nat) : Prop := (∀ i, i < n → m i ≠ 0) ∧ ∀ i, i < n → m i < 2 ^ n
def pPm (f i : Nat) : Prop := f = 880 ∧ (i = 25 ∨ i = 4 ∨ i = 10 ∨ i = 11 ∨ i = 12)
section
variable {g : Nat → Nat} {R : Option Value → cc_C → Prop} {X : String → cc_C → Prop}
theorem stM_fr {P : Nat → Nat → Prop} {c d : cc_C} {r k : Nat} {S : cc_St} (h : fr P c d) (hp : ∀ i, i = 4 ∨ i = 10 ∨ i = 11 ∨ i = 12 → ¬ P 880 i) (hs : stM c r k S) : stM d r k S := by
  unfold stM
  rw [h.row (hp 4 (by omega)), h.row (hp 10 (by omega)), h.row (hp 11 (by omega)), h.row (hp 12 (by omega))]
  exact hs
theorem meR_fr {P : Nat → Nat → Prop} {c d : cc_C} {n : Nat} {m : Nat → Nat} (h : fr P c d) (hp : ¬ P 880 25) (hs : meR c n m) : meR d n m := by
  unfold meR
  rw [h.row hp]
  exact hs
theorem may_st : ∀ i, i = 4 ∨ i = 10 ∨ i = 11 ∨ i = 12 → ¬ pMay 880 i := by
  intro i h q
  have := q.2
  omega
theorem pPm_no1 : ¬ pPm 874 0 := fun q => by
  have := q.1
  omega
theorem pPm_no2 : ¬ pPm 880 0 := fun q => by
  have := q.2
  omega
theorem may_Pm : ∀ f i, pMay f i → pPm f i := fun f i h => ⟨h.1, Or.inl h.2⟩
/-- the reference's clues and riddle, while it proves -/
def prM (c : cc_C) (r n nc : Nat) : Prop := nwR c r n ∧ 3 ≤ n ∧ n ≤ 6 ∧ cS c 880 1 r = nI nc ∧ nc ≤ 8 ∧ ∀ e, e < nc → KvK n (clM c r) e
theorem prM_fr {P : Nat → Nat → Prop} {c d : cc_C} {r n nc : Nat} (h : fr P c d) (hP : ∀ i, i = 0 ∨ i = 1 ∨ i = 6 ∨ i = 7 ∨ i = 8 ∨ i = 9 → ¬ P 880 i) (h874 : ¬ P 874 0) (o : prM c r n nc) : prM d r n nc ∧ clM d r = clM c r := by
  have eK : clM d r = clM c r := by
    funext e
    unfold clM
    rw [h.row (hP 6 (by omega)), h.row (hP 7 (by omega)), h.row (hP 8 (by omega)), h.row (hP 9 (by omega))]
  obtain ⟨o1, o2, o3, o4, o5, o6⟩ := o
  refine ⟨⟨nwR_fr h h874 (hP 0 (by omega)) o1, o2, o3, by rw [h.row (hP 1 (by omega))]; exact o4, o5, fun e he => ?_⟩, eK⟩
  rw [eK]
  exact o6 e he
theorem pPm_no : ∀ i, i = 0 ∨ i = 1 ∨ i = 6 ∨ i = 7 ∨ i = 8 ∨ i = 9 → ¬ pPm 880 i := by
  intro i h q
  have := q.2
  omega
end
