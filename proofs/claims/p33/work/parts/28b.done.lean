section
variable {g : Nat → Nat} {R : Option Value → cc_C → Prop} {X : String → cc_C → Prop}
/-- the reference's own rules -/
def owM (c : cc_C) (nO : Nat) (O : cc_O) : Prop := cS c 871 0 0 = nI nO ∧ nO ≤ 6 ∧ ∀ u, u < nO → OvM c u (O u).1 (O u).2.2.1 (O u).2.1 (O u).2.2.2.1 ∧ cS c 880 17 u = (if (O u).2.2.2.2 then 0 else 1)
theorem owM_fr {P : Nat → Nat → Prop} {c d : cc_C} {nO : Nat} {O : cc_O} (h : fr P c d) (hP : ∀ i, 13 ≤ i ∧ i ≤ 17 → ¬ P 880 i) (h871 : ¬ P 871 0) (o : owM c nO O) : owM d nO O := by
  obtain ⟨o1, o2, o3⟩ := o
  refine ⟨by rw [h.row h871]; exact o1, o2, fun u hu => ?_⟩
  unfold OvM
  rw [h.row (hP 13 (by omega)), h.row (hP 14 (by omega)), h.row (hP 15 (by omega)), h.row (hP 16 (by omega)), h.row (hP 17 (by omega))]
  exact o3 u hu
theorem pPm_no3 : ∀ i, 13 ≤ i ∧ i ≤ 17 → ¬ pPm 880 i := by
  intro i h q
  have := q.2
  omega
theorem pPm_no4 : ¬ pPm 871 0 := fun q => by
  have := q.1
  omega
end
