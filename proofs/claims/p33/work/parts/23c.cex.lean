section
variable {g : Nat → Nat} {R : Option Value → cc_C → Prop} {X : String → cc_C → Prop}
theorem far_is {pl n w : Nat} (h1 : pl < 6) (h2 : n < 7) (h3 : w < 6) : (nI pl < nI n - nI w ↔ ¬ n ≤ pl + w) := by
  have key : ∀ pl, pl < 6 → ∀ n, n < 7 → ∀ w, w < 6 → decide (nI pl < nI n - nI w) = decide (¬ n ≤ pl + w) := by decide +kernel
  have := key pl h1 n h2 w h3
  exact ⟨fun h => of_decide_eq_true (this ▸ decide_eq_true h), fun h => of_decide_eq_true (this.symm ▸ decide_eq_true h)⟩
/-- rule number u of the reference -/
def OvM (c : cc_C) (u : Nat) (k fz : Int32) (j w : Nat) : Prop := u < 6 ∧ cS c 880 13 u = k ∧ cS c 880 15 u = fz ∧ cS c 880 16 u = nI w ∧ Ov k (cS c 880 14 u) fz (nI w) j w
theorem OvM_fr {P : Nat → Nat → Prop} {c d : cc_C} {u j w : Nat} {k fz : Int32} (h : fr P c d) (hP : ∀ i, i < 20 → ¬ P 880 i) (o : OvM c u k fz j w) : OvM d u k fz j w := by
  unfold OvM
  rw [h.row (hP 13 (by omega)), h.row (hP 14 (by omega)), h.row (hP 15 (by omega)), h.row (hP 16 (by omega))]
  exact o
end
