/-! the other calls of the law, and its loop -/
theorem dsh {a b : Nat} (ha : a < 21) (hb : b < 21) (h0 : b ≠ 0) : vf_n64 (FP.f2d (FP.fdiv (FP.i2f (nI a)) (FP.i2f (nI b)))) ∧ Op.cmpValue (FP.dcmp (FP.f2d (FP.fdiv (FP.i2f (nI a)) (FP.i2f (nI b)))) (FP.f2d (FP.fdiv (FP.i2f (nI a)) (FP.i2f (nI b))))) .l = 0 := by
  have key : ∀ b, b < 21 → ∀ a, a < 21 → (b ≠ 0 → (FP.f2d (FP.fdiv (FP.i2f (nI a)) (FP.i2f (nI b)))) &&& 0x7fffffffffffffff ≤ 0x7ff0000000000000 ∧ Op.cmpValue (FP.dcmp (FP.f2d (FP.fdiv (FP.i2f (nI a)) (FP.i2f (nI b)))) (FP.f2d (FP.fdiv (FP.i2f (nI a)) (FP.i2f (nI b))))) .l = 0) := by decide +kernel
  exact key b hb a ha h0
theorem cle_set {c : cc_C} {f i j : Nat} {x : Int32} : cle c (cset c f i j x) := fun _ _ _ _ h => ⟨h, rfl⟩
theorem cle_dset {c : cc_C} {f : Nat} {x : UInt64} : cle c (cdset c f x) := fun _ _ _ _ h => ⟨h, rfl⟩
theorem CL_d {c : cc_C} {M : cc_M} {f : Nat} {x : UInt64} (h : CL c M) : CL (cdset c f x) M := h
theorem RF_d {c : cc_C} {M : cc_M} {f : Nat} {x : UInt64} (h : RF c M) : RF (cdset c f x) M := h
theorem CL_869 {c : cc_C} {M : cc_M} {x : Int32} (h : CL c M) : CL (cset c 869 0 0 x) M := CL_kM (kM_869 kM_rfl) h
theorem cD_at (c : cc_C) (x : UInt64) : cD (cdset c 0 x) 0 = x := by
  show vf_upd (cD c) 0 x 0 = x
  unfold vf_upd
  rw [if_pos rfl]
section
variable {b Ls : Nat} {xs : Nat → Int32} {g : Nat → Nat} {a1 a2 a3 a4 : Nat} {i : Int32} {c : cc_C} {M : cc_M} {t k n : Nat} {o6 o7 o8 : Option Value} {R : Option Value → cc_C → Prop} {X : String → cc_C → Prop}
set_option maxHeartbeats 1000000 in
theorem lc_rule (s1 : sl c 0 0 0 a1) (s2 : sl c 21 0 0 a2) (s3 : sl c 23 0 0 a3) (s4 : sl c 24 0 0 a4) (hC : CL c M) (hR : RF c M) (w : wfM M t) (ht : t < 512) (v1 : vp_in (i + (1 : Int32)) Ls) (v2 : vp_in (i + (2 : Int32)) Ls) (v3 : vp_in (i + (3 : Int32)) Ls) (v4 : vp_in (i + (4 : Int32)) Ls) (v5 : vp_in (i + (5 : Int32)) Ls) (hk : k ≤ 30000) (hn : n ≤ 200000) (nx : LT b Ls xs g a1 a2 a3 a4 i c t k n R X) : ec g (tb_L_law b Ls xs) 913 [some (.ref b), some (.ref a1), some (.ref a2), some (.ref a3), some (.ref a4), some (.int i), o6, o7, o8] [] k n c R X := by
  obtain ⟨q, hq, eq⟩ := i2c_nI (xs (i + (1 : Int32)).toNatClampNeg)
  obtain ⟨p, hp, ep⟩ := i2c_nI (xs (i + (2 : Int32)).toNatClampNeg)
  refine mk_L_law_913 s1 s2 s3 s4 ?_
  rw [eq, ep]
  refine ⟨v1, v2, v3, fun hz => ⟨v4, ⟨by omega, by omega⟩, ?_⟩, fun hz => ⟨v4, ⟨by omega, by omega⟩, ?_⟩⟩
  · have lw : wc g (wp_L_rule g) c [.ref a1, .int (nI q), .int (nI p), .int (bI false), .int (xs (i + (4 : Int32)).toNatClampNeg), .ref a3] (LW (spRule M (nI q) (nI p) false (xs (i + (4 : Int32)).toNatClampNeg)) tL M) (fun _ _ => False) := mk_L_rule_0 s1 s3 (l_int (l := xAS) (by decide) (c_rule (b := false) hq hp s1 hC w) hR)
    refine wc_mono (wc_le lw) (fun v c1 h1 => ?_) (fun _ _ f => f.2)
    obtain ⟨le1, hv, h4, ho, hC1, hR1⟩ := h1
    refine ⟨_, hv, v1, v2, v3, fun _ => ⟨v4, ⟨by omega, by omega⟩, wc_mono (wc_le (m_rule (b := false) (X := fun _ _ => False) (s2.mono le1) hR1 w)) (fun v2 c6 h2 => ?_) (fun _ _ f => f.2)⟩, fun q => absurd hz q⟩
    obtain ⟨le2, b2, hb, h9, hbv, km, hR2⟩ := h2
    exact ⟨b2, hb, ⟨by omega, by omega⟩, law_fin ((s2.mono le1).mono le2) (cle.trans le1 le2) h4 ho hC1 h9 hbv km hR2 (w_rule w ht) nx (by omega) (by omega)⟩
  · have lw : wc g (wp_L_rule g) c [.ref a1, .int (nI q), .int (nI p), .int (bI true), .int (xs (i + (4 : Int32)).toNatClampNeg), .ref a3] (LW (spRule M (nI q) (nI p) true (xs (i + (4 : Int32)).toNatClampNeg)) tL M) (fun _ _ => False) := mk_L_rule_0 s1 s3 (l_int (l := xAS) (by decide) (c_rule (b := true) hq hp s1 hC w) hR)
    refine wc_mono (wc_le lw) (fun v c1 h1 => ?_) (fun _ _ f => f.2)
    obtain ⟨le1, hv, h4, ho, hC1, hR1⟩ := h1
    refine ⟨_, hv, v1, v2, v3, fun q => absurd q hz, fun _ => ⟨v4, ⟨by omega, by omega⟩, wc_mono (wc_le (m_rule (b := true) (X := fun _ _ => False) (s2.mono le1) hR1 w)) (fun v2 c6 h2 => ?_) (fun _ _ f => f.2)⟩⟩
    obtain ⟨le2, b2, hb, h9, hbv, km, hR2⟩ := h2
    exact ⟨b2, hb, ⟨by omega, by omega⟩, law_fin ((s2.mono le1).mono le2) (cle.trans le1 le2) h4 ho hC1 h9 hbv km hR2 (w_rule w ht) nx (by omega) (by omega)⟩
theorem lc_press (s1 : sl c 0 0 0 a1) (s2 : sl c 21 0 0 a2) (s3 : sl c 23 0 0 a3) (s4 : sl c 24 0 0 a4) (hC : CL c M) (hR : RF c M) (w : wfM M t) (ht : t < 512) (v1 : vp_in (i + (1 : Int32)) Ls) (v2 : vp_in (i + (2 : Int32)) Ls) (v3 : vp_in (i + (3 : Int32)) Ls) (v4 : vp_in (i + (4 : Int32)) Ls) (v5 : vp_in (i + (5 : Int32)) Ls) (hk : k ≤ 30000) (hn : n ≤ 200000) (nx : LT b Ls xs g a1 a2 a3 a4 i c t k n R X) : ec g (tb_L_law b Ls xs) 1871 [some (.ref b), some (.ref a1), some (.ref a2), some (.ref a3), some (.ref a4), some (.int i), o6, o7, o8] [] k n c R X := mk_L_law_1871 s1 s2 s3 s4 ⟨⟨by omega, by omega⟩, c_press s1 hC ⟨_, rfl, ⟨by omega, by omega⟩, m_press s2 hR ⟨_, rfl, fun _ => nx _ M o6 o7 o8 k n (CL_869 hC) (RF_869 hR) (wf_s w ht) cle_set (by omega) (by omega), fun q => q (lg_self _)⟩⟩⟩
theorem lc_isClean (s1 : sl c 0 0 0 a1) (s2 : sl c 21 0 0 a2) (s3 : sl c 23 0 0 a3) (s4 : sl c 24 0 0 a4) (hC : CL c M) (hR : RF c M) (w : wfM M t) (ht : t < 512) (v1 : vp_in (i + (1 : Int32)) Ls) (v2 : vp_in (i + (2 : Int32)) Ls) (v3 : vp_in (i + (3 : Int32)) Ls) (v4 : vp_in (i + (4 : Int32)) Ls) (v5 : vp_in (i + (5 : Int32)) Ls) (hk : k ≤ 30000) (hn : n ≤ 200000) (nx : LT b Ls xs g a1 a2 a3 a4 i c t k n R X) : ec g (tb_L_law b Ls xs) 1885 [some (.ref b), some (.ref a1), some (.ref a2), some (.ref a3), some (.ref a4), some (.int i), o6, o7, o8] [] k n c R X := by
  refine mk_L_law_1885 s1 s2 s3 s4 ⟨⟨by omega, by omega⟩, wc_mono (wc_le (c_isClean s1 hC w)) (fun v c1 h1 => ?_) (fun E d h => ?_)⟩
  · obtain ⟨le1, h0, hv, h3, hC1⟩ := h1
    have hR1 := RF_le le1 h3 hR
    refine ⟨_, hv, ⟨by omega, by omega⟩, wc_mono (wc_le (m_isClean (X := fun _ _ => False) (s2.mono le1) hR1 w)) (fun v2 c6 h2 => ?_) (fun _ _ f => f.2)⟩
    obtain ⟨le2, b2, hb, h9, hbv, km, hR2⟩ := h2
    exact ⟨b2, hb, fun _ => nx c6 M o6 o7 o8 _ _ (CL_kM km hC1) hR2 (wf_s w ht) (cle.trans le1 le2) (by omega) (by omega), fun q => q (hbv rfl).symm⟩
  · obtain ⟨-, k, -, h2, -⟩ := h
    cases h2
set_option maxHeartbeats 1000000 in
theorem lc_provedShare (s1 : sl c 0 0 0 a1) (s2 : sl c 21 0 0 a2) (s3 : sl c 23 0 0 a3) (s4 : sl c 24 0 0 a4) (hC : CL c M) (hR : RF c M) (w : wfM M t) (ht : t < 512) (v1 : vp_in (i + (1 : Int32)) Ls) (v2 : vp_in (i + (2 : Int32)) Ls) (v3 : vp_in (i + (3 : Int32)) Ls) (v4 : vp_in (i + (4 : Int32)) Ls) (v5 : vp_in (i + (5 : Int32)) Ls) (hk : k ≤ 30000) (hn : n ≤ 200000) (nx : LT b Ls xs g a1 a2 a3 a4 i c t k n R X) : ec g (tb_L_law b Ls xs) 1898 [some (.ref b), some (.ref a1), some (.ref a2), some (.ref a3), some (.ref a4), some (.int i), o6, o7, o8] [] k n c R X := by
  refine mk_L_law_1898 s1 s2 s3 s4 ⟨⟨by omega, by omega⟩, ?_⟩
  by_cases h0 : mR M = 0
  · refine mk_L_provedShare_0 s1 s4 (c_provedShare s1 hC w (fun _ => Or.inl ⟨rfl, _, rfl, ⟨by omega, by omega⟩, ?_⟩) (fun q => absurd h0 q))
    refine m_provedShare s2 hR w (fun _ v => ⟨v, rfl, ⟨by omega, by omega⟩, ?_⟩) (fun q => absurd h0 q)
    exact mk_X9_thrown_0 (s2.mono cle_set) ⟨_, rfl, fun _ => ⟨fun q => absurd q (by decide), fun _ => nx _ M _ _ _ _ _ (CL_869 hC) (RF_869 hR) (wf_s w ht) cle_set (by omega) (by omega)⟩, fun q => q (cS_at _ _ _ _ _)⟩
  · obtain ⟨y1, y2⟩ := dsh (a := cwE M (mR M)) (b := mR M) (by have := cwE_le (M := M) (mR M); have := w.1.1; omega) (by have := w.1.1; omega) h0
    refine mk_L_provedShare_0 s1 s4 (c_provedShare s1 hC w (fun q => absurd q h0) (fun _ _ => ⟨_, rfl, y1, _, rfl, ⟨by omega, by omega⟩, ?_⟩))
    refine m_provedShare (s2.mono cle_dset) (RF_d hR) w (fun q => absurd q h0) (fun _ => ⟨_, rfl, ⟨by omega, by omega⟩, ?_⟩)
    have N := fun p6 p7 p8 => nx (cset (cdset c 0 (FP.f2d (shV M))) 869 0 0 0) M p6 p7 p8 (k + 1) (n + 6) (CL_869 (CL_d hC)) (RF_869 (RF_d hR)) (wf_s w ht) (cle.trans cle_dset cle_set) (by omega) (by omega)
    exact mk_X9_thrown_0 ((s2.mono cle_dset).mono cle_set) ⟨_, rfl, fun _ => ⟨fun _ => ⟨y1, fun _ => N _ _ _, fun q => absurd ((congrArg (fun z => Op.cmpValue (FP.dcmp z (FP.f2d (shV M))) .l) (cD_at c (FP.f2d (shV M)))).trans y2) q⟩, fun _ => N _ _ _⟩, fun q => q (cS_at _ _ _ _ _)⟩
set_option maxHeartbeats 1000000 in
theorem lc_meanSteps (s1 : sl c 0 0 0 a1) (s2 : sl c 21 0 0 a2) (s3 : sl c 23 0 0 a3) (s4 : sl c 24 0 0 a4) (hC : CL c M) (hR : RF c M) (w : wfM M t) (ht : t < 512) (v1 : vp_in (i + (1 : Int32)) Ls) (v2 : vp_in (i + (2 : Int32)) Ls) (v3 : vp_in (i + (3 : Int32)) Ls) (v4 : vp_in (i + (4 : Int32)) Ls) (v5 : vp_in (i + (5 : Int32)) Ls) (hk : k ≤ 30000) (hn : n ≤ 200000) (nx : LT b Ls xs g a1 a2 a3 a4 i c t k n R X) : ec g (tb_L_law b Ls xs) 1964 [some (.ref b), some (.ref a1), some (.ref a2), some (.ref a3), some (.ref a4), some (.int i), o6, o7, o8] [] k n c R X := by
  refine mk_L_law_1964 s1 s2 s3 s4 ⟨⟨by omega, by omega⟩, ?_⟩
  by_cases h0 : cwE M (mR M) = 0
  · refine mk_L_meanSteps_0 s1 s4 (c_meanSteps s1 hC w (fun _ => Or.inl ⟨rfl, _, rfl, ⟨by omega, by omega⟩, ?_⟩) (fun q => absurd h0 q))
    refine m_meanSteps s2 hR w (fun _ v => ⟨v, rfl, ⟨by omega, by omega⟩, ?_⟩) (fun q => absurd h0 q)
    exact mk_X9_thrown_0 (s2.mono cle_set) ⟨_, rfl, fun _ => ⟨fun q => absurd q (by decide), fun _ => nx _ M _ _ _ _ _ (CL_869 hC) (RF_869 hR) (wf_s w ht) cle_set (by omega) (by omega)⟩, fun q => q (cS_at _ _ _ _ _)⟩
  · refine mk_L_meanSteps_0 s1 s4 (c_meanSteps s1 hC w (fun q => absurd q h0) (fun _ _ => ⟨_, rfl, _, rfl, ⟨by omega, by omega⟩, ?_⟩))
    refine m_meanSteps (s2.mono cle_dset) (RF_d hR) w (fun q => absurd q h0) (fun _ => ⟨_, rfl, ⟨by omega, by omega⟩, ?_⟩)
    have N := fun p6 p7 p8 => nx (cset (cdset c 0 (mnV M)) 869 0 0 0) M p6 p7 p8 (k + 1) (n + 6) (CL_869 (CL_d hC)) (RF_869 (RF_d hR)) (wf_s w ht) (cle.trans cle_dset cle_set) (by omega) (by omega)
    have e : cD (cset (cdset c 0 (mnV M)) 869 0 0 0) ((0 : Int32)).toNatClampNeg = mnV M := cD_at c (mnV M)
    refine mk_X9_thrown_0 ((s2.mono cle_dset).mono cle_set) ⟨_, rfl, fun _ => ⟨fun _ => ⟨fun _ => N _ _ _, fun q => ⟨fun hB => ?_, fun _ => ⟨fun hB => ?_, fun _ => N _ _ _⟩⟩⟩, fun _ => N _ _ _⟩, fun q => q (cS_at _ _ _ _ _)⟩
    · rw [e] at hB q
      exact q hB
    · rw [e] at q
      exact q hB
theorem lc_all {s0 : Int32} (s1 : sl c 0 0 0 a1) (s2 : sl c 21 0 0 a2) (s3 : sl c 23 0 0 a3) (s4 : sl c 24 0 0 a4) (hC : CL c M) (hR : RF c M) (w : wfM M t) (ht : t < 512) (v1 : vp_in (i + (1 : Int32)) Ls) (v2 : vp_in (i + (2 : Int32)) Ls) (v3 : vp_in (i + (3 : Int32)) Ls) (v4 : vp_in (i + (4 : Int32)) Ls) (v5 : vp_in (i + (5 : Int32)) Ls) (hk : k ≤ 30000) (hn : n ≤ 200000) (nx : LT b Ls xs g a1 a2 a3 a4 i c t k n R X) : ec g (tb_L_law b Ls xs) 45 [some (.ref b), some (.ref a1), some (.ref a2), some (.ref a3), some (.ref a4), some (.int i), o6, o7, o8] [.int s0] k n c R X :=
  mk_L_law_45 s1 s2 s3 s4 ⟨fun _ => lc_riddle s1 s2 s3 s4 hC hR w ht v1 v2 v3 v4 v5 hk hn nx, fun _ => ⟨fun _ => lc_clue s1 s2 s3 s4 hC hR w ht v1 v2 v3 v4 v5 hk hn nx, fun _ => ⟨fun _ => lc_answers s1 s2 s3 s4 hC hR w ht v1 v2 v3 v4 v5 hk hn nx, fun _ => ⟨fun _ => lc_answer s1 s2 s3 s4 hC hR w ht v1 v2 v3 v4 v5 hk hn nx, fun _ => ⟨fun _ => lc_prove s1 s2 s3 s4 hC hR w ht v1 v2 v3 v4 v5 hk hn nx, fun _ => ⟨fun _ => lc_steps s1 s2 s3 s4 hC hR w ht v1 v2 v3 v4 v5 hk hn nx, fun _ => ⟨fun _ => lc_ruleAt s1 s2 s3 s4 hC hR w ht v1 v2 v3 v4 v5 hk hn nx, fun _ => ⟨fun _ => lc_causeAt s1 s2 s3 s4 hC hR w ht v1 v2 v3 v4 v5 hk hn nx, fun _ => ⟨fun _ => lc_takenAt s1 s2 s3 s4 hC hR w ht v1 v2 v3 v4 v5 hk hn nx, fun _ => ⟨fun _ => lc_leansOn s1 s2 s3 s4 hC hR w ht v1 v2 v3 v4 v5 hk hn nx, fun _ => ⟨fun _ => lc_state s1 s2 s3 s4 hC hR w ht v1 v2 v3 v4 v5 hk hn nx, fun _ => ⟨fun _ => lc_rule s1 s2 s3 s4 hC hR w ht v1 v2 v3 v4 v5 hk hn nx, fun _ => ⟨fun _ => lc_stands s1 s2 s3 s4 hC hR w ht v1 v2 v3 v4 v5 hk hn nx, fun _ => ⟨fun _ => lc_counterexample s1 s2 s3 s4 hC hR w ht v1 v2 v3 v4 v5 hk hn nx, fun _ => ⟨fun _ => lc_fall s1 s2 s3 s4 hC hR w ht v1 v2 v3 v4 v5 hk hn nx, fun _ => ⟨fun _ => lc_issue s1 s2 s3 s4 hC hR w ht v1 v2 v3 v4 v5 hk hn nx, fun _ => ⟨fun _ => lc_put s1 s2 s3 s4 hC hR w ht v1 v2 v3 v4 v5 hk hn nx, fun _ => ⟨fun _ => lc_publish s1 s2 s3 s4 hC hR w ht v1 v2 v3 v4 v5 hk hn nx, fun _ => ⟨fun _ => lc_issueState s1 s2 s3 s4 hC hR w ht v1 v2 v3 v4 v5 hk hn nx, fun _ => ⟨fun _ => lc_indexed s1 s2 s3 s4 hC hR w ht v1 v2 v3 v4 v5 hk hn nx, fun _ => ⟨fun _ => lc_customer s1 s2 s3 s4 hC hR w ht v1 v2 v3 v4 v5 hk hn nx, fun _ => ⟨fun _ => lc_deposit s1 s2 s3 s4 hC hR w ht v1 v2 v3 v4 v5 hk hn nx, fun _ => ⟨fun _ => lc_subscribe s1 s2 s3 s4 hC hR w ht v1 v2 v3 v4 v5 hk hn nx, fun _ => ⟨fun _ => lc_buy s1 s2 s3 s4 hC hR w ht v1 v2 v3 v4 v5 hk hn nx, fun _ => ⟨fun _ => lc_credits s1 s2 s3 s4 hC hR w ht v1 v2 v3 v4 v5 hk hn nx, fun _ => ⟨fun _ => lc_has s1 s2 s3 s4 hC hR w ht v1 v2 v3 v4 v5 hk hn nx, fun _ => ⟨fun _ => lc_press s1 s2 s3 s4 hC hR w ht v1 v2 v3 v4 v5 hk hn nx, fun _ => ⟨fun _ => lc_isClean s1 s2 s3 s4 hC hR w ht v1 v2 v3 v4 v5 hk hn nx, fun _ => ⟨fun _ => lc_provedShare s1 s2 s3 s4 hC hR w ht v1 v2 v3 v4 v5 hk hn nx, fun _ => ⟨fun _ => lc_meanSteps s1 s2 s3 s4 hC hR w ht v1 v2 v3 v4 v5 hk hn nx, fun _ => nx c M o6 o7 o8 k n hC hR (wf_s w ht) cle_rfl (by omega) (by omega)⟩⟩⟩⟩⟩⟩⟩⟩⟩⟩⟩⟩⟩⟩⟩⟩⟩⟩⟩⟩⟩⟩⟩⟩⟩⟩⟩⟩⟩⟩
theorem Ls_le {Ls t : Nat} (hL : Ls ≤ 3072) (ht : t ≤ 512) (h : ¬ (Int32.ofNat Ls) - (6 : Int32) < nI (6 * t)) : 6 * t + 6 ≤ Ls := by
  apply Classical.byContradiction
  intro hn
  apply h
  by_cases h6 : Ls < 6
  · have h0 : 0 ≤ nI (6 * t) := nI_pos' (by omega)
    refine Int32.lt_of_lt_of_le ?_ h0
    rcases (show Ls = 0 ∨ Ls = 1 ∨ Ls = 2 ∨ Ls = 3 ∨ Ls = 4 ∨ Ls = 5 by omega) with rfl | rfl | rfl | rfl | rfl | rfl <;> decide
  · have e : (Int32.ofNat Ls) - (6 : Int32) = nI (Ls - 6) := by
      have e2 : Int32.ofNat Ls = nI (Ls - 6) + 6 := by
        have := nI_add (Ls - 6) 6
        rw [show Ls - 6 + 6 = Ls by omega] at this
        exact this.symm
      rw [e2, Int32.add_sub_cancel]
    rw [e]
    exact nI_lt (by omega) (by omega)
theorem vp_j {a j Ls : Nat} (h : a + j < Ls) (hL : Ls ≤ 3072) : vp_in (nI a + nI j) Ls := by
  rw [nI_add]
  exact nI_in h (by omega)
theorem law_loop (hL : Ls ≤ 3072) : ∀ (r t : Nat) (c : cc_C) (M : cc_M) (o6 o7 o8 : Option Value) (k n : Nat), t + r = 512 → sl c 0 0 0 a1 → sl c 21 0 0 a2 → sl c 23 0 0 a3 → sl c 24 0 0 a4 → CL c M → RF c M → wfM M t → k ≤ 100 + 40 * t → n ≤ 8000 + 224 * t → ec g (tb_L_law b Ls xs) 28 [some (.ref b), some (.ref a1), some (.ref a2), some (.ref a3), some (.ref a4), some (.int (nI (6 * t))), o6, o7, o8] [] k n c R X
  | 0, t, c, M, o6, o7, o8, k, n, hr, s1, s2, s3, s4, hC, hR, w, hk, hn => by
    refine mk_L_law_28 s1 s2 s3 s4 ⟨fun _ => mk_L_law_2035 s1 s2 s3 s4 ⟨by omega, by omega⟩, fun q => ?_⟩
    have := Ls_le hL (by omega) q
    omega
  | r + 1, t, c, M, o6, o7, o8, k, n, hr, s1, s2, s3, s4, hC, hR, w, hk, hn => by
    refine mk_L_law_28 s1 s2 s3 s4 ⟨fun _ => mk_L_law_2035 s1 s2 s3 s4 ⟨by omega, by omega⟩, fun q => ?_⟩
    have h6 := Ls_le hL (by omega) q
    refine ⟨nI_in (by omega) (by omega), lc_all s1 s2 s3 s4 hC hR w (by omega) (vp_j (j := 1) (by omega) hL) (vp_j (j := 2) (by omega) hL) (vp_j (j := 3) (by omega) hL) (vp_j (j := 4) (by omega) hL) (vp_j (j := 5) (by omega) hL) (by omega) (by omega) ?_⟩
    intro d N p6 p7 p8 k' n' hC' hR' w' le hk' hn'
    refine mk_L_law_2029 (s1.mono le) (s2.mono le) (s3.mono le) (s4.mono le) ?_
    have e : nI (6 * t) + 6 = nI (6 * (t + 1)) := (nI_add (6 * t) 6).trans (by rw [show 6 * t + 6 = 6 * (t + 1) by omega])
    rw [e]
    exact law_loop hL r (t + 1) d N p6 p7 p8 k' n' (by omega) (s1.mono le) (s2.mono le) (s3.mono le) (s4.mono le) hC' hR' w' (by omega) (by omega)
end
