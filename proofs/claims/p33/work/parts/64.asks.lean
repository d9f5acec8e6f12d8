/-! asks: what they answer, of a model that is well formed -/
section
variable {g : Nat → Nat} {c : cc_C} {M : cc_M} {R : Option Value → cc_C → Prop} {X : String → cc_C → Prop} {a t r i q u : Nat}
theorem q_state (s : sl c 0 0 0 a) (hC : CL c M) (w : wfM M t) (hr : r < mR M) (H : ∀ d, pS a M d → R (some (.int (rdZ (mX M r)))) d) : wc g (wp_L_state g) c [.ref a, .int (nI r)] R X := by
  have e : spState M (nI r) = (0, rdZ (mX M r), M) := by
    unfold spState
    rw [ixo_at (by have := w.1.1; omega) hr]
    rfl
  refine lX_state s hC w (fun d hd => ?_)
  rw [e] at hd ⊢
  exact H d hd
def lnV (M : cc_M) (r u : Nat) : Int32 := if u < 10 + mW M then bI (rdLn (mX M r) u) else -77
theorem ixo_ge {n j : Nat} (hj : j < 2 ^ 31) (h : n ≤ j) : ixo n (nI j) = none := ixo_no (Or.inr (nI_le h hj))
theorem q_leans (s : sl c 0 0 0 a) (hC : CL c M) (w : wfM M t) (hr : r < mR M) (hu : u < 1000) (H : ∀ d, pS a M d → R (some (.int (lnV M r u))) d) : wc g (wp_L_leansOn g) c [.ref a, .int (nI r), .int (nI u)] R X := by
  have h6 := w.2.1.1
  refine lX_leansOn s hC w (fun d hd => ?_)
  unfold lnV at H
  by_cases h : u < 10 + mW M
  · have e : spLeans M (nI r) (nI u) = (0, bI (rdLn (mX M r) u), M) := by
      unfold spLeans
      rw [ixo_at (by have := w.1.1; omega) hr, ixo_at (by omega) h]
      rfl
    rw [e] at hd ⊢
    rw [if_pos h] at H
    exact H d hd
  · have e : spLeans M (nI r) (nI u) = (1, 0, M) := by
      unfold spLeans
      rw [ixo_at (by have := w.1.1; omega) hr, ixo_ge (by omega) (by omega)]
      rfl
    rw [e] at hd ⊢
    rw [if_neg h] at H
    exact H d hd
theorem q_stands (s : sl c 0 0 0 a) (hC : CL c M) (w : wfM M t) (hu : u < 10 + mW M) (H : ∀ d, pS a M d → R (some (.int (bI (decide (u < 10) || (mO M (u - 10)).2.2.2.2)))) d) : wc g (wp_L_stands g) c [.ref a, .int (nI u)] R X := by
  have h6 := w.2.1.1
  have e : spStands M (nI u) = (0, bI (decide (u < 10) || (mO M (u - 10)).2.2.2.2), M) := by
    unfold spStands
    rw [ixo_at (by omega) hu]
    rfl
  refine lX_stands s hC w (fun d hd => ?_)
  rw [e] at hd ⊢
  exact H d hd
theorem q_stands_no (s : sl c 0 0 0 a) (hC : CL c M) (w : wfM M t) (hu : 10 + mW M ≤ u) (h1 : u < 1000) (H : ∀ d, pS a M d → R (some (.int (-77))) d) : wc g (wp_L_stands g) c [.ref a, .int (nI u)] R X := by
  have e : spStands M (nI u) = (1, 0, M) := by
    unfold spStands
    rw [ixo_ge (by omega) hu]
    rfl
  refine lX_stands s hC w (fun d hd => ?_)
  rw [e] at hd ⊢
  exact H d hd
def stV (x : cc_Rd) : Int32 := if rdO x = 0 then -75 else nI (rdk x)
theorem q_steps (s : sl c 0 0 0 a) (hC : CL c M) (w : wfM M t) (hr : r < mR M) (H : ∀ d, pS a M d → R (some (.int (stV (mX M r)))) d) : wc g (wp_L_steps g) c [.ref a, .int (nI r)] R X := by
  refine lX_steps s hC w (fun d hd => ?_)
  unfold stV at H
  by_cases h : rdO (mX M r) = 0
  · have e : spSteps M (nI r) = (2, 0, M) := by
      unfold spSteps
      rw [ixo_at (by have := w.1.1; omega) hr]
      exact if_pos h
    rw [e] at hd ⊢
    rw [if_pos h] at H
    exact H d hd
  · have e : spSteps M (nI r) = (0, nI (rdk (mX M r)), M) := by
      unfold spSteps
      rw [ixo_at (by have := w.1.1; omega) hr]
      exact if_neg h
    rw [e] at hd ⊢
    rw [if_neg h] at H
    exact H d hd
theorem at_in {F : Nat × Nat × Nat → Nat} (w : wfM M t) (hr : r < mR M) (hi : i < rdk (mX M r)) : spAt F M (nI r) (nI i) = (0, nI (F (rdS (mX M r) i)), M) := by
  have h36 := (w.1.2 r hr).2.2.1.2.2.1
  unfold spAt
  rw [ixo_at (by have := w.1.1; omega) hr]
  show (match ixo (rdk (mX M r)) (nI i) with
    | none => _
    | some i => _) = _
  rw [ixo_at (by omega) hi]
theorem at_out {F : Nat × Nat × Nat → Nat} (w : wfM M t) (hr : r < mR M) (hi : rdk (mX M r) ≤ i) (h : i < 1000) : spAt F M (nI r) (nI i) = (2, 0, M) := by
  unfold spAt
  rw [ixo_at (by have := w.1.1; omega) hr]
  show (match ixo (rdk (mX M r)) (nI i) with
    | none => _
    | some i => _) = _
  rw [ixo_ge (by omega) hi]
theorem q_ruleAt (s : sl c 0 0 0 a) (hC : CL c M) (w : wfM M t) (hr : r < mR M) (hi : i < rdk (mX M r)) (H : ∀ d, pS a M d → R (some (.int (nI (rdS (mX M r) i).1))) d) : wc g (wp_L_ruleAt g) c [.ref a, .int (nI r), .int (nI i)] R X := by
  refine lX_ruleAt s hC w (fun d hd => ?_)
  rw [at_in w hr hi] at hd ⊢
  exact H d hd
theorem q_ruleAt_no (s : sl c 0 0 0 a) (hC : CL c M) (w : wfM M t) (hr : r < mR M) (hi : rdk (mX M r) ≤ i) (h : i < 1000) (H : ∀ d, pS a M d → R (some (.int (-75))) d) : wc g (wp_L_ruleAt g) c [.ref a, .int (nI r), .int (nI i)] R X := by
  refine lX_ruleAt s hC w (fun d hd => ?_)
  rw [at_out w hr hi h] at hd ⊢
  exact H d hd
theorem q_causeAt (s : sl c 0 0 0 a) (hC : CL c M) (w : wfM M t) (hr : r < mR M) (hi : i < rdk (mX M r)) (H : ∀ d, pS a M d → R (some (.int (nI (rdS (mX M r) i).2.1))) d) : wc g (wp_L_causeAt g) c [.ref a, .int (nI r), .int (nI i)] R X := by
  refine lX_causeAt s hC w (fun d hd => ?_)
  rw [at_in w hr hi] at hd ⊢
  exact H d hd
theorem q_takenAt (s : sl c 0 0 0 a) (hC : CL c M) (w : wfM M t) (hr : r < mR M) (hi : i < rdk (mX M r)) (H : ∀ d, pS a M d → R (some (.int (nI (rdS (mX M r) i).2.2))) d) : wc g (wp_L_takenAt g) c [.ref a, .int (nI r), .int (nI i)] R X := by
  refine lX_takenAt s hC w (fun d hd => ?_)
  rw [at_in w hr hi] at hd ⊢
  exact H d hd
theorem q_answers (s : sl c 0 0 0 a) (hC : CL c M) (w : wfM M t) (hr : r < mR M) (H : ∀ d, pS a M d → R (some (.int (nI (rdA (mX M r))))) d) : wc g (wp_L_answers g) c [.ref a, .int (nI r)] R X := by
  have e : spAnsw M (nI r) = (0, nI (rdA (mX M r)), M) := by
    unfold spAnsw
    rw [ixo_at (by have := w.1.1; omega) hr]
    rfl
  refine lX_answers s hC w (fun d hd => ?_)
  rw [e] at hd ⊢
  exact H d hd
theorem q_credits (s : sl c 0 0 0 a) (hC : CL c M) (w : wfM M t) (hq : q < mU M) (H : ∀ d, pS a M d → R (some (.int (nI (mV M q).1))) d) : wc g (wp_L_credits g) c [.ref a, .int (nI q)] R X := by
  have e : spCred M (nI q) = (0, nI (mV M q).1, M) := by
    unfold spCred
    rw [ixo_at (by have := w.2.2.2.1.1; omega) hq]
    rfl
  refine lX_credits s hC w (fun d hd => ?_)
  rw [e] at hd ⊢
  exact H d hd
def isV (M : cc_M) (i : Nat) : Int32 := if i < mI M then (mJ M i).1 else -77
theorem q_issueState (s : sl c 0 0 0 a) (hC : CL c M) (w : wfM M t) (hi : i < 1000) (H : ∀ d, pS a M d → R (some (.int (isV M i))) d) : wc g (wp_L_issueState g) c [.ref a, .int (nI i)] R X := by
  have h12 := w.2.2.1.1
  refine lX_issueState s hC w (fun d hd => ?_)
  unfold isV at H
  by_cases h : i < mI M
  · have e : spIst M (nI i) = (0, (mJ M i).1, M) := by
      unfold spIst
      rw [ixo_at (by omega) h]
      rfl
    rw [e] at hd ⊢
    rw [if_pos h] at H
    exact H d hd
  · have e : spIst M (nI i) = (1, 0, M) := by
      unfold spIst
      rw [ixo_ge (by omega) (by omega)]
      rfl
    rw [e] at hd ⊢
    rw [if_neg h] at H
    exact H d hd
def haV (M : cc_M) (q i : Nat) : Int32 := if i < mI M then bI ((mV M q).2.2 i) else -77
theorem q_has (s : sl c 0 0 0 a) (hC : CL c M) (w : wfM M t) (hq : q < mU M) (hi : i < 1000) (H : ∀ d, pS a M d → R (some (.int (haV M q i))) d) : wc g (wp_L_has g) c [.ref a, .int (nI q), .int (nI i)] R X := by
  have h12 := w.2.2.1.1
  refine lX_has s hC w (fun d hd => ?_)
  unfold haV at H
  by_cases h : i < mI M
  · have e : spHas M (nI q) (nI i) = (0, bI ((mV M q).2.2 i), M) := by
      unfold spHas
      rw [ixo_at (by have := w.2.2.2.1.1; omega) hq, ixo_at (by omega) h]
      rfl
    rw [e] at hd ⊢
    rw [if_pos h] at H
    exact H d hd
  · have e : spHas M (nI q) (nI i) = (1, 0, M) := by
      unfold spHas
      rw [ixo_at (by have := w.2.2.2.1.1; omega) hq, ixo_ge (by omega) (by omega)]
      rfl
    rw [e] at hd ⊢
    rw [if_neg h] at H
    exact H d hd
theorem q_indexed (s : sl c 0 0 0 a) (hC : CL c M) (w : wfM M t) (hu : u < 10 + mW M) (H : ∀ d, pS a M d → R (some (.int (nI (ixC M u (mI M))))) d) : wc g (wp_L_indexed g) c [.ref a, .int (nI u)] R X := by
  have h6 := w.2.1.1
  have e : spIdx M (nI u) = (0, nI (ixC M u (mI M)), M) := by
    unfold spIdx
    rw [ixo_at (by omega) hu]
    rfl
  refine lX_indexed s hC w (fun d hd => ?_)
  rw [e] at hd ⊢
  exact H d hd
def cxV (M : cc_M) (u : Nat) : Int32 := if u < mW M then (if cexO (mO M u) = 0 then -75 else nI (cexO (mO M u))) else -77
theorem ixw_ge {n j : Nat} (hj : j < 1000) (h : n ≤ j) : ixw n (nI (10 + j)) = none := ixw_no (Or.inr (nI_le (by omega) (by omega)))
theorem q_cex (s : sl c 0 0 0 a) (hC : CL c M) (w : wfM M t) (hu : u < 900) (H : ∀ d, pS a M d → R (some (.int (cxV M u))) d) : wc g (wp_L_counterexample g) c [.ref a, .int (nI (10 + u))] R X := by
  have h6 := w.2.1.1
  refine lX_counterexample s hC w (fun d hd => ?_)
  unfold cxV at H
  by_cases h : u < mW M
  · rw [if_pos h] at H
    by_cases h0 : cexO (mO M u) = 0
    · have e : spCex M (nI (10 + u)) = (2, 0, M) := by
        unfold spCex
        rw [ixw_at (by omega) h]
        exact if_pos h0
      rw [e] at hd ⊢
      rw [if_pos h0] at H
      exact H d hd
    · have e : spCex M (nI (10 + u)) = (0, nI (cexO (mO M u)), M) := by
        unfold spCex
        rw [ixw_at (by omega) h]
        exact if_neg h0
      rw [e] at hd ⊢
      rw [if_neg h0] at H
      exact H d hd
  · have e : spCex M (nI (10 + u)) = (1, 0, M) := by
      unfold spCex
      rw [ixw_ge (by omega) (by omega)]
      rfl
    rw [e] at hd ⊢
    rw [if_neg h] at H
    exact H d hd
end
