section
variable {g : Nat → Nat} {R : Option Value → cc_C → Prop} {X : String → cc_C → Prop}
theorem m_fill17 {c0 : cc_C} {r n e : Nat} {x1 : Int32} {o3 o4 : Option Value} (s : sl c0 21 0 0 e) (nw : nwR c0 r n) (h6 : n ≤ 6) (H : ∀ d, fr pMay c0 d → meR d n (fullM n) → ec g tb_X9_proves 48 [some (.ref e), some (.int x1), some (.int (0)), o3, o4] [] 0 0 d R X) : ∀ (w i : Nat) (c : cc_C), i + w = n → fr pMay c0 c → Rp i (fullM n) (cS c 880 25) → ec g tb_X9_proves 17 [some (.ref e), some (.int x1), some (.int (nI i)), o3, o4] [] 0 0 c R X := by
  have full : ∀ n, n < 7 → ((1 : Int32) <<< ((nI n) &&& 31)) - (1) = nI (2 ^ n - 1) := by decide +kernel
  have lt64 : ∀ n, n < 7 → 2 ^ n - 1 < 64 := by decide
  intro w
  induction w with
  | zero =>
    intro i c hi hf hr
    obtain rfl : i = n := by omega
    obtain ⟨w1, w2, w3⟩ := nwR_fr hf may_no1 may_no2 nw
    refine mk_X9_proves_17 (hf.sl s) ?_
    rw [w2, nI_clamp (by omega), w3]
    exact ⟨vp_in_nI w1 (by omega), fun _ => H c hf ⟨h6, hr, fun _ => lt64 i (by omega)⟩, fun y => absurd (nI_le (Nat.le_refl i) (by omega)) y⟩
  | succ w ih =>
    intro i c hi hf hr
    obtain ⟨w1, w2, w3⟩ := nwR_fr hf may_no1 may_no2 nw
    refine mk_X9_proves_17 (hf.sl s) ?_
    rw [w2, nI_clamp (by omega), w3, nI_1]
    refine ⟨vp_in_nI w1 (by omega), fun y => absurd y (nI_ge (by omega) (by omega)), fun _ => mk_X9_all_0 (hf.sl s) ?_⟩
    rw [w2, nI_clamp (show r < 2 ^ 31 by omega), w3, nI_clamp (show i < 2 ^ 31 by omega), full n (by omega)]
    refine ⟨vp_in_nI w1 (by omega), _, rfl, vp_in_nI (by omega) (by omega), ih (i + 1) _ (by omega) (hf.set ⟨rfl, rfl⟩) ?_⟩
    rw [cS_row]
    intro k hk
    unfold upd
    by_cases hki : k = i
    · rw [if_pos hki]
      rfl
    · rw [if_neg hki]
      exact hr k (by omega)
end
