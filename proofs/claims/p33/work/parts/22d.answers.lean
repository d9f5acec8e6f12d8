section
variable {g : Nat → Nat} {R : Option Value → cc_C → Prop} {X : String → cc_C → Prop}
def ansOkM (c : cc_C) (r n nc : Nat) : Prop := r < 20 ∧ cS c 880 0 r = nI n ∧ n ≤ 6 ∧ 3 ≤ n ∧ cS c 880 1 r = nI nc ∧ nc ≤ 8 ∧ ∀ e, e < nc → KvK n (clM c r) e
def pAM (f i : Nat) : Prop := ((f = 874 ∨ f = 875) ∧ i = 0) ∨ (f = 880 ∧ (i = 26 ∨ i = 27))
theorem clM_fr {P : Nat → Nat → Prop} {c d : cc_C} {r : Nat} (h : fr P c d) (hP : ∀ i, i < 20 → ¬ P 880 i) : clM d r = clM c r := by
  funext e
  unfold clM
  rw [h.row (hP 6 (by omega)), h.row (hP 7 (by omega)), h.row (hP 8 (by omega)), h.row (hP 9 (by omega))]
theorem ansOkM_fr {P : Nat → Nat → Prop} {c d : cc_C} {r n nc : Nat} (h : fr P c d) (hP : ∀ i, i < 20 → ¬ P 880 i) (o : ansOkM c r n nc) : ansOkM d r n nc := by
  obtain ⟨o1, o2, o3, o4, o5, o6, o7⟩ := o
  refine ⟨o1, by rw [h.row (hP 0 (by omega))]; exact o2, o3, o4, by rw [h.row (hP 1 (by omega))]; exact o5, o6, fun e he => ?_⟩
  rw [clM_fr h hP]
  exact o7 e he
theorem pAM_no : ∀ i, i < 20 → ¬ pAM 880 i := by
  intro i h hp
  unfold pAM at hp
  omega
end
