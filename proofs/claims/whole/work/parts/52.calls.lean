/-! each call of the law -/
section
variable {b Ls : Nat} {xs : Nat → Int32} {g : Nat → Nat} {a1 a2 a3 a4 : Nat} {i : Int32} {c : cc_C} {M : cc_M} {t k n : Nat} {o6 o7 o8 : Option Value} {R : Option Value → cc_C → Prop} {X : String → cc_C → Prop}
set_option maxHeartbeats 1000000 in
theorem lc_riddle (s1 : sl c 0 0 0 a1) (s2 : sl c 21 0 0 a2) (s3 : sl c 23 0 0 a3) (s4 : sl c 24 0 0 a4) (hC : CL c M) (hR : RF c M) (w : wfM M t) (ht : t < 512) (v1 : vp_in (i + (1 : Int32)) Ls) (v2 : vp_in (i + (2 : Int32)) Ls) (v3 : vp_in (i + (3 : Int32)) Ls) (v4 : vp_in (i + (4 : Int32)) Ls) (v5 : vp_in (i + (5 : Int32)) Ls) (hk : k ≤ 30000) (hn : n ≤ 200000) (nx : LT b Ls xs g a1 a2 a3 a4 i c t k n R X) : ec g (tb_L_law b Ls xs) 180 [some (.ref b), some (.ref a1), some (.ref a2), some (.ref a3), some (.ref a4), some (.int i), o6, o7, o8] [] k n c R X := by
  refine mk_L_law_180 s1 s2 s3 s4 ?_
  have lw : wc g (wp_L_riddle g) c _ (LW (spRiddle M (xs (i + (1 : Int32)).toNatClampNeg)) tL M) (fun _ _ => False) := mk_L_riddle_0 s1 s3 (l_int (l := xAS) (by decide) (c_riddle s1 hC w) hR)
  refine ⟨v1, ⟨by omega, by omega⟩, wc_mono (wc_le lw) (fun v c1 h1 => ?_) (fun _ _ f => f.2)⟩
  obtain ⟨le1, hv, h4, ho, hC1, hR1⟩ := h1
  refine ⟨_, hv, v1, ⟨by omega, by omega⟩, wc_mono (wc_le (m_riddle (X := fun _ _ => False) (s2.mono le1) hR1 w)) (fun v2 c6 h2 => ?_) (fun _ _ f => f.2)⟩
  obtain ⟨le2, b2, hb, h9, hbv, km, hR2⟩ := h2
  exact ⟨b2, hb, ⟨by omega, by omega⟩, law_fin ((s2.mono le1).mono le2) (cle.trans le1 le2) h4 ho hC1 h9 hbv km hR2 (w_riddle w ht) nx (by omega) (by omega)⟩
set_option maxHeartbeats 1000000 in
theorem lc_clue (s1 : sl c 0 0 0 a1) (s2 : sl c 21 0 0 a2) (s3 : sl c 23 0 0 a3) (s4 : sl c 24 0 0 a4) (hC : CL c M) (hR : RF c M) (w : wfM M t) (ht : t < 512) (v1 : vp_in (i + (1 : Int32)) Ls) (v2 : vp_in (i + (2 : Int32)) Ls) (v3 : vp_in (i + (3 : Int32)) Ls) (v4 : vp_in (i + (4 : Int32)) Ls) (v5 : vp_in (i + (5 : Int32)) Ls) (hk : k ≤ 30000) (hn : n ≤ 200000) (nx : LT b Ls xs g a1 a2 a3 a4 i c t k n R X) : ec g (tb_L_law b Ls xs) 236 [some (.ref b), some (.ref a1), some (.ref a2), some (.ref a3), some (.ref a4), some (.int i), o6, o7, o8] [] k n c R X := by
  obtain ⟨q, hq, eq⟩ := i2c_nI (xs (i + (2 : Int32)).toNatClampNeg)
  refine mk_L_law_236 s1 s2 s3 s4 ?_
  rw [eq]
  have lw : wc g (wp_L_clue g) c _ (LW (spClue M (xs (i + (1 : Int32)).toNatClampNeg) (nI q) (xs (i + (3 : Int32)).toNatClampNeg) (xs (i + (4 : Int32)).toNatClampNeg) (xs (i + (5 : Int32)).toNatClampNeg)) tL M) (fun _ _ => False) := mk_L_clue_0 s1 s3 (l_int (l := xIAUS) (by decide) (c_clue hq s1 hC w) hR)
  refine ⟨v1, v2, v3, v4, v5, ⟨by omega, by omega⟩, wc_mono (wc_le lw) (fun v c1 h1 => ?_) (fun _ _ f => f.2)⟩
  obtain ⟨le1, hv, h4, ho, hC1, hR1⟩ := h1
  refine ⟨_, hv, v1, v2, v3, v4, v5, ⟨by omega, by omega⟩, wc_mono (wc_le (m_clue (X := fun _ _ => False) (s2.mono le1) hR1 w)) (fun v2 c6 h2 => ?_) (fun _ _ f => f.2)⟩
  obtain ⟨le2, b2, hb, h9, hbv, km, hR2⟩ := h2
  exact ⟨b2, hb, ⟨by omega, by omega⟩, law_fin ((s2.mono le1).mono le2) (cle.trans le1 le2) h4 ho hC1 h9 hbv km hR2 (w_clue w ht) nx (by omega) (by omega)⟩
set_option maxHeartbeats 1000000 in
theorem lc_answers (s1 : sl c 0 0 0 a1) (s2 : sl c 21 0 0 a2) (s3 : sl c 23 0 0 a3) (s4 : sl c 24 0 0 a4) (hC : CL c M) (hR : RF c M) (w : wfM M t) (ht : t < 512) (v1 : vp_in (i + (1 : Int32)) Ls) (v2 : vp_in (i + (2 : Int32)) Ls) (v3 : vp_in (i + (3 : Int32)) Ls) (v4 : vp_in (i + (4 : Int32)) Ls) (v5 : vp_in (i + (5 : Int32)) Ls) (hk : k ≤ 30000) (hn : n ≤ 200000) (nx : LT b Ls xs g a1 a2 a3 a4 i c t k n R X) : ec g (tb_L_law b Ls xs) 342 [some (.ref b), some (.ref a1), some (.ref a2), some (.ref a3), some (.ref a4), some (.int i), o6, o7, o8] [] k n c R X := by
  refine mk_L_law_342 s1 s2 s3 s4 ?_
  have lw : wc g (wp_L_answers g) c _ (LW (spAnsw M (xs (i + (1 : Int32)).toNatClampNeg)) tL M) (fun _ _ => False) := mk_L_answers_0 s1 s3 (l_int (l := xI) (by decide) (c_answers s1 hC w) hR)
  refine ⟨v1, ⟨by omega, by omega⟩, wc_mono (wc_le lw) (fun v c1 h1 => ?_) (fun _ _ f => f.2)⟩
  obtain ⟨le1, hv, h4, ho, hC1, hR1⟩ := h1
  refine ⟨_, hv, v1, ⟨by omega, by omega⟩, wc_mono (wc_le (m_answers (X := fun _ _ => False) (s2.mono le1) hR1 w)) (fun v2 c6 h2 => ?_) (fun _ _ f => f.2)⟩
  obtain ⟨le2, b2, hb, h9, hbv, km, hR2⟩ := h2
  exact ⟨b2, hb, ⟨by omega, by omega⟩, law_fin ((s2.mono le1).mono le2) (cle.trans le1 le2) h4 ho hC1 h9 hbv km hR2 ((by rw [r_spAnsw]; exact wf_s w ht)) nx (by omega) (by omega)⟩
set_option maxHeartbeats 1000000 in
theorem lc_answer (s1 : sl c 0 0 0 a1) (s2 : sl c 21 0 0 a2) (s3 : sl c 23 0 0 a3) (s4 : sl c 24 0 0 a4) (hC : CL c M) (hR : RF c M) (w : wfM M t) (ht : t < 512) (v1 : vp_in (i + (1 : Int32)) Ls) (v2 : vp_in (i + (2 : Int32)) Ls) (v3 : vp_in (i + (3 : Int32)) Ls) (v4 : vp_in (i + (4 : Int32)) Ls) (v5 : vp_in (i + (5 : Int32)) Ls) (hk : k ≤ 30000) (hn : n ≤ 200000) (nx : LT b Ls xs g a1 a2 a3 a4 i c t k n R X) : ec g (tb_L_law b Ls xs) 398 [some (.ref b), some (.ref a1), some (.ref a2), some (.ref a3), some (.ref a4), some (.int i), o6, o7, o8] [] k n c R X := by
  refine mk_L_law_398 s1 s2 s3 s4 ?_
  have lw : wc g (wp_L_answer g) c _ (LW (spAns M (xs (i + (1 : Int32)).toNatClampNeg) (xs (i + (2 : Int32)).toNatClampNeg)) tL M) (fun _ _ => False) := mk_L_answer_0 s1 s3 (l_int (l := xIN) (by decide) (c_answer s1 hC w) hR)
  refine ⟨v1, v2, ⟨by omega, by omega⟩, wc_mono (wc_le lw) (fun v c1 h1 => ?_) (fun _ _ f => f.2)⟩
  obtain ⟨le1, hv, h4, ho, hC1, hR1⟩ := h1
  refine ⟨_, hv, v1, v2, ⟨by omega, by omega⟩, wc_mono (wc_le (m_answer (X := fun _ _ => False) (s2.mono le1) hR1 w)) (fun v2 c6 h2 => ?_) (fun _ _ f => f.2)⟩
  obtain ⟨le2, b2, hb, h9, hbv, km, hR2⟩ := h2
  exact ⟨b2, hb, ⟨by omega, by omega⟩, law_fin ((s2.mono le1).mono le2) (cle.trans le1 le2) h4 ho hC1 h9 hbv km hR2 ((by rw [r_spAns]; exact wf_s w ht)) nx (by omega) (by omega)⟩
set_option maxHeartbeats 1000000 in
theorem lc_prove (s1 : sl c 0 0 0 a1) (s2 : sl c 21 0 0 a2) (s3 : sl c 23 0 0 a3) (s4 : sl c 24 0 0 a4) (hC : CL c M) (hR : RF c M) (w : wfM M t) (ht : t < 512) (v1 : vp_in (i + (1 : Int32)) Ls) (v2 : vp_in (i + (2 : Int32)) Ls) (v3 : vp_in (i + (3 : Int32)) Ls) (v4 : vp_in (i + (4 : Int32)) Ls) (v5 : vp_in (i + (5 : Int32)) Ls) (hk : k ≤ 30000) (hn : n ≤ 200000) (nx : LT b Ls xs g a1 a2 a3 a4 i c t k n R X) : ec g (tb_L_law b Ls xs) 466 [some (.ref b), some (.ref a1), some (.ref a2), some (.ref a3), some (.ref a4), some (.int i), o6, o7, o8] [] k n c R X := by
  refine mk_L_law_466 s1 s2 s3 s4 ?_
  have lw : wc g (wp_L_prove g) c _ (LW (spProve M (xs (i + (1 : Int32)).toNatClampNeg)) tL M) (fun _ _ => False) := mk_L_prove_0 s1 s3 (l_int (l := xIU) (by decide) (c_prove s1 hC w) hR)
  refine ⟨v1, ⟨by omega, by omega⟩, wc_mono (wc_le lw) (fun v c1 h1 => ?_) (fun _ _ f => f.2)⟩
  obtain ⟨le1, hv, h4, ho, hC1, hR1⟩ := h1
  refine ⟨_, hv, v1, ⟨by omega, by omega⟩, wc_mono (wc_le (m_prove (X := fun _ _ => False) (s2.mono le1) hR1 w)) (fun v2 c6 h2 => ?_) (fun _ _ f => f.2)⟩
  obtain ⟨le2, b2, hb, h9, hbv, km, hR2⟩ := h2
  exact ⟨b2, hb, ⟨by omega, by omega⟩, law_fin ((s2.mono le1).mono le2) (cle.trans le1 le2) h4 ho hC1 h9 hbv km hR2 (w_prove w ht) nx (by omega) (by omega)⟩
set_option maxHeartbeats 1000000 in
theorem lc_steps (s1 : sl c 0 0 0 a1) (s2 : sl c 21 0 0 a2) (s3 : sl c 23 0 0 a3) (s4 : sl c 24 0 0 a4) (hC : CL c M) (hR : RF c M) (w : wfM M t) (ht : t < 512) (v1 : vp_in (i + (1 : Int32)) Ls) (v2 : vp_in (i + (2 : Int32)) Ls) (v3 : vp_in (i + (3 : Int32)) Ls) (v4 : vp_in (i + (4 : Int32)) Ls) (v5 : vp_in (i + (5 : Int32)) Ls) (hk : k ≤ 30000) (hn : n ≤ 200000) (nx : LT b Ls xs g a1 a2 a3 a4 i c t k n R X) : ec g (tb_L_law b Ls xs) 522 [some (.ref b), some (.ref a1), some (.ref a2), some (.ref a3), some (.ref a4), some (.int i), o6, o7, o8] [] k n c R X := by
  refine mk_L_law_522 s1 s2 s3 s4 ?_
  have lw : wc g (wp_L_steps g) c _ (LW (spSteps M (xs (i + (1 : Int32)).toNatClampNeg)) tL M) (fun _ _ => False) := mk_L_steps_0 s1 s3 (l_int (l := xIN) (by decide) (c_steps s1 hC w) hR)
  refine ⟨v1, ⟨by omega, by omega⟩, wc_mono (wc_le lw) (fun v c1 h1 => ?_) (fun _ _ f => f.2)⟩
  obtain ⟨le1, hv, h4, ho, hC1, hR1⟩ := h1
  refine ⟨_, hv, v1, ⟨by omega, by omega⟩, wc_mono (wc_le (m_steps (X := fun _ _ => False) (s2.mono le1) hR1 w)) (fun v2 c6 h2 => ?_) (fun _ _ f => f.2)⟩
  obtain ⟨le2, b2, hb, h9, hbv, km, hR2⟩ := h2
  exact ⟨b2, hb, ⟨by omega, by omega⟩, law_fin ((s2.mono le1).mono le2) (cle.trans le1 le2) h4 ho hC1 h9 hbv km hR2 ((by rw [r_spSteps]; exact wf_s w ht)) nx (by omega) (by omega)⟩
set_option maxHeartbeats 1000000 in
theorem lc_ruleAt (s1 : sl c 0 0 0 a1) (s2 : sl c 21 0 0 a2) (s3 : sl c 23 0 0 a3) (s4 : sl c 24 0 0 a4) (hC : CL c M) (hR : RF c M) (w : wfM M t) (ht : t < 512) (v1 : vp_in (i + (1 : Int32)) Ls) (v2 : vp_in (i + (2 : Int32)) Ls) (v3 : vp_in (i + (3 : Int32)) Ls) (v4 : vp_in (i + (4 : Int32)) Ls) (v5 : vp_in (i + (5 : Int32)) Ls) (hk : k ≤ 30000) (hn : n ≤ 200000) (nx : LT b Ls xs g a1 a2 a3 a4 i c t k n R X) : ec g (tb_L_law b Ls xs) 578 [some (.ref b), some (.ref a1), some (.ref a2), some (.ref a3), some (.ref a4), some (.int i), o6, o7, o8] [] k n c R X := by
  refine mk_L_law_578 s1 s2 s3 s4 ?_
  have lw : wc g (wp_L_ruleAt g) c _ (LW (spAt (fun z => z.1) M (xs (i + (1 : Int32)).toNatClampNeg) (xs (i + (2 : Int32)).toNatClampNeg)) tL M) (fun _ _ => False) := mk_L_ruleAt_0 s1 s3 (l_int (l := xIN) (by decide) (c_ruleAt s1 hC w) hR)
  refine ⟨v1, v2, ⟨by omega, by omega⟩, wc_mono (wc_le lw) (fun v c1 h1 => ?_) (fun _ _ f => f.2)⟩
  obtain ⟨le1, hv, h4, ho, hC1, hR1⟩ := h1
  refine ⟨_, hv, v1, v2, ⟨by omega, by omega⟩, wc_mono (wc_le (m_ruleAt (X := fun _ _ => False) (s2.mono le1) hR1 w)) (fun v2 c6 h2 => ?_) (fun _ _ f => f.2)⟩
  obtain ⟨le2, b2, hb, h9, hbv, km, hR2⟩ := h2
  exact ⟨b2, hb, ⟨by omega, by omega⟩, law_fin ((s2.mono le1).mono le2) (cle.trans le1 le2) h4 ho hC1 h9 hbv km hR2 ((by rw [r_spAt]; exact wf_s w ht)) nx (by omega) (by omega)⟩
set_option maxHeartbeats 1000000 in
theorem lc_causeAt (s1 : sl c 0 0 0 a1) (s2 : sl c 21 0 0 a2) (s3 : sl c 23 0 0 a3) (s4 : sl c 24 0 0 a4) (hC : CL c M) (hR : RF c M) (w : wfM M t) (ht : t < 512) (v1 : vp_in (i + (1 : Int32)) Ls) (v2 : vp_in (i + (2 : Int32)) Ls) (v3 : vp_in (i + (3 : Int32)) Ls) (v4 : vp_in (i + (4 : Int32)) Ls) (v5 : vp_in (i + (5 : Int32)) Ls) (hk : k ≤ 30000) (hn : n ≤ 200000) (nx : LT b Ls xs g a1 a2 a3 a4 i c t k n R X) : ec g (tb_L_law b Ls xs) 646 [some (.ref b), some (.ref a1), some (.ref a2), some (.ref a3), some (.ref a4), some (.int i), o6, o7, o8] [] k n c R X := by
  refine mk_L_law_646 s1 s2 s3 s4 ?_
  have lw : wc g (wp_L_causeAt g) c _ (LW (spAt (fun z => z.2.1) M (xs (i + (1 : Int32)).toNatClampNeg) (xs (i + (2 : Int32)).toNatClampNeg)) tL M) (fun _ _ => False) := mk_L_causeAt_0 s1 s3 (l_int (l := xIN) (by decide) (c_causeAt s1 hC w) hR)
  refine ⟨v1, v2, ⟨by omega, by omega⟩, wc_mono (wc_le lw) (fun v c1 h1 => ?_) (fun _ _ f => f.2)⟩
  obtain ⟨le1, hv, h4, ho, hC1, hR1⟩ := h1
  refine ⟨_, hv, v1, v2, ⟨by omega, by omega⟩, wc_mono (wc_le (m_causeAt (X := fun _ _ => False) (s2.mono le1) hR1 w)) (fun v2 c6 h2 => ?_) (fun _ _ f => f.2)⟩
  obtain ⟨le2, b2, hb, h9, hbv, km, hR2⟩ := h2
  exact ⟨b2, hb, ⟨by omega, by omega⟩, law_fin ((s2.mono le1).mono le2) (cle.trans le1 le2) h4 ho hC1 h9 hbv km hR2 ((by rw [r_spAt]; exact wf_s w ht)) nx (by omega) (by omega)⟩
set_option maxHeartbeats 1000000 in
theorem lc_takenAt (s1 : sl c 0 0 0 a1) (s2 : sl c 21 0 0 a2) (s3 : sl c 23 0 0 a3) (s4 : sl c 24 0 0 a4) (hC : CL c M) (hR : RF c M) (w : wfM M t) (ht : t < 512) (v1 : vp_in (i + (1 : Int32)) Ls) (v2 : vp_in (i + (2 : Int32)) Ls) (v3 : vp_in (i + (3 : Int32)) Ls) (v4 : vp_in (i + (4 : Int32)) Ls) (v5 : vp_in (i + (5 : Int32)) Ls) (hk : k ≤ 30000) (hn : n ≤ 200000) (nx : LT b Ls xs g a1 a2 a3 a4 i c t k n R X) : ec g (tb_L_law b Ls xs) 714 [some (.ref b), some (.ref a1), some (.ref a2), some (.ref a3), some (.ref a4), some (.int i), o6, o7, o8] [] k n c R X := by
  refine mk_L_law_714 s1 s2 s3 s4 ?_
  have lw : wc g (wp_L_takenAt g) c _ (LW (spAt (fun z => z.2.2) M (xs (i + (1 : Int32)).toNatClampNeg) (xs (i + (2 : Int32)).toNatClampNeg)) tL M) (fun _ _ => False) := mk_L_takenAt_0 s1 s3 (l_int (l := xIN) (by decide) (c_takenAt s1 hC w) hR)
  refine ⟨v1, v2, ⟨by omega, by omega⟩, wc_mono (wc_le lw) (fun v c1 h1 => ?_) (fun _ _ f => f.2)⟩
  obtain ⟨le1, hv, h4, ho, hC1, hR1⟩ := h1
  refine ⟨_, hv, v1, v2, ⟨by omega, by omega⟩, wc_mono (wc_le (m_takenAt (X := fun _ _ => False) (s2.mono le1) hR1 w)) (fun v2 c6 h2 => ?_) (fun _ _ f => f.2)⟩
  obtain ⟨le2, b2, hb, h9, hbv, km, hR2⟩ := h2
  exact ⟨b2, hb, ⟨by omega, by omega⟩, law_fin ((s2.mono le1).mono le2) (cle.trans le1 le2) h4 ho hC1 h9 hbv km hR2 ((by rw [r_spAt]; exact wf_s w ht)) nx (by omega) (by omega)⟩
set_option maxHeartbeats 1000000 in
theorem lc_leansOn (s1 : sl c 0 0 0 a1) (s2 : sl c 21 0 0 a2) (s3 : sl c 23 0 0 a3) (s4 : sl c 24 0 0 a4) (hC : CL c M) (hR : RF c M) (w : wfM M t) (ht : t < 512) (v1 : vp_in (i + (1 : Int32)) Ls) (v2 : vp_in (i + (2 : Int32)) Ls) (v3 : vp_in (i + (3 : Int32)) Ls) (v4 : vp_in (i + (4 : Int32)) Ls) (v5 : vp_in (i + (5 : Int32)) Ls) (hk : k ≤ 30000) (hn : n ≤ 200000) (nx : LT b Ls xs g a1 a2 a3 a4 i c t k n R X) : ec g (tb_L_law b Ls xs) 782 [some (.ref b), some (.ref a1), some (.ref a2), some (.ref a3), some (.ref a4), some (.int i), o6, o7, o8] [] k n c R X := by
  refine mk_L_law_782 s1 s2 s3 s4 ?_
  have lw : wc g (wp_L_leansOn g) c _ (LW (spLeans M (xs (i + (1 : Int32)).toNatClampNeg) (xs (i + (2 : Int32)).toNatClampNeg)) tB M) (fun _ _ => False) := mk_L_leansOn_0 s1 s3 (l_bool (l := xI) (by decide) (c_leansOn s1 hC w) hR)
  refine ⟨v1, v2, ⟨by omega, by omega⟩, wc_mono (wc_le lw) (fun v c1 h1 => ?_) (fun _ _ f => f.2)⟩
  obtain ⟨le1, hv, h4, ho, hC1, hR1⟩ := h1
  refine ⟨_, hv, v1, v2, ⟨by omega, by omega⟩, wc_mono (wc_le (m_leansOn (X := fun _ _ => False) (s2.mono le1) hR1 w)) (fun v2 c6 h2 => ?_) (fun _ _ f => f.2)⟩
  obtain ⟨le2, b2, hb, h9, hbv, km, hR2⟩ := h2
  exact ⟨b2, hb, ⟨by omega, by omega⟩, law_finB ((s2.mono le1).mono le2) (cle.trans le1 le2) h4 ho hC1 h9 hbv km hR2 ((by rw [r_spLeans]; exact wf_s w ht)) nx (by omega) (by omega)⟩
set_option maxHeartbeats 1000000 in
theorem lc_state (s1 : sl c 0 0 0 a1) (s2 : sl c 21 0 0 a2) (s3 : sl c 23 0 0 a3) (s4 : sl c 24 0 0 a4) (hC : CL c M) (hR : RF c M) (w : wfM M t) (ht : t < 512) (v1 : vp_in (i + (1 : Int32)) Ls) (v2 : vp_in (i + (2 : Int32)) Ls) (v3 : vp_in (i + (3 : Int32)) Ls) (v4 : vp_in (i + (4 : Int32)) Ls) (v5 : vp_in (i + (5 : Int32)) Ls) (hk : k ≤ 30000) (hn : n ≤ 200000) (nx : LT b Ls xs g a1 a2 a3 a4 i c t k n R X) : ec g (tb_L_law b Ls xs) 857 [some (.ref b), some (.ref a1), some (.ref a2), some (.ref a3), some (.ref a4), some (.int i), o6, o7, o8] [] k n c R X := by
  refine mk_L_law_857 s1 s2 s3 s4 ?_
  have lw : wc g (wp_L_state g) c _ (LW (spState M (xs (i + (1 : Int32)).toNatClampNeg)) tL M) (fun _ _ => False) := mk_L_state_0 s1 s3 (l_int (l := xI) (by decide) (c_state s1 hC w) hR)
  refine ⟨v1, ⟨by omega, by omega⟩, wc_mono (wc_le lw) (fun v c1 h1 => ?_) (fun _ _ f => f.2)⟩
  obtain ⟨le1, hv, h4, ho, hC1, hR1⟩ := h1
  refine ⟨_, hv, v1, ⟨by omega, by omega⟩, wc_mono (wc_le (m_state (X := fun _ _ => False) (s2.mono le1) hR1 w)) (fun v2 c6 h2 => ?_) (fun _ _ f => f.2)⟩
  obtain ⟨le2, b2, hb, h9, hbv, km, hR2⟩ := h2
  exact ⟨b2, hb, ⟨by omega, by omega⟩, law_fin ((s2.mono le1).mono le2) (cle.trans le1 le2) h4 ho hC1 h9 hbv km hR2 ((by rw [r_spState]; exact wf_s w ht)) nx (by omega) (by omega)⟩
set_option maxHeartbeats 1000000 in
theorem lc_stands (s1 : sl c 0 0 0 a1) (s2 : sl c 21 0 0 a2) (s3 : sl c 23 0 0 a3) (s4 : sl c 24 0 0 a4) (hC : CL c M) (hR : RF c M) (w : wfM M t) (ht : t < 512) (v1 : vp_in (i + (1 : Int32)) Ls) (v2 : vp_in (i + (2 : Int32)) Ls) (v3 : vp_in (i + (3 : Int32)) Ls) (v4 : vp_in (i + (4 : Int32)) Ls) (v5 : vp_in (i + (5 : Int32)) Ls) (hk : k ≤ 30000) (hn : n ≤ 200000) (nx : LT b Ls xs g a1 a2 a3 a4 i c t k n R X) : ec g (tb_L_law b Ls xs) 1025 [some (.ref b), some (.ref a1), some (.ref a2), some (.ref a3), some (.ref a4), some (.int i), o6, o7, o8] [] k n c R X := by
  refine mk_L_law_1025 s1 s2 s3 s4 ?_
  have lw : wc g (wp_L_stands g) c _ (LW (spStands M (xs (i + (1 : Int32)).toNatClampNeg)) tB M) (fun _ _ => False) := mk_L_stands_0 s1 s3 (l_bool (l := xI) (by decide) (c_stands s1 hC w) hR)
  refine ⟨v1, ⟨by omega, by omega⟩, wc_mono (wc_le lw) (fun v c1 h1 => ?_) (fun _ _ f => f.2)⟩
  obtain ⟨le1, hv, h4, ho, hC1, hR1⟩ := h1
  refine ⟨_, hv, v1, ⟨by omega, by omega⟩, wc_mono (wc_le (m_stands (X := fun _ _ => False) (s2.mono le1) hR1 w)) (fun v2 c6 h2 => ?_) (fun _ _ f => f.2)⟩
  obtain ⟨le2, b2, hb, h9, hbv, km, hR2⟩ := h2
  exact ⟨b2, hb, ⟨by omega, by omega⟩, law_finB ((s2.mono le1).mono le2) (cle.trans le1 le2) h4 ho hC1 h9 hbv km hR2 ((by rw [r_spStands]; exact wf_s w ht)) nx (by omega) (by omega)⟩
set_option maxHeartbeats 1000000 in
theorem lc_counterexample (s1 : sl c 0 0 0 a1) (s2 : sl c 21 0 0 a2) (s3 : sl c 23 0 0 a3) (s4 : sl c 24 0 0 a4) (hC : CL c M) (hR : RF c M) (w : wfM M t) (ht : t < 512) (v1 : vp_in (i + (1 : Int32)) Ls) (v2 : vp_in (i + (2 : Int32)) Ls) (v3 : vp_in (i + (3 : Int32)) Ls) (v4 : vp_in (i + (4 : Int32)) Ls) (v5 : vp_in (i + (5 : Int32)) Ls) (hk : k ≤ 30000) (hn : n ≤ 200000) (nx : LT b Ls xs g a1 a2 a3 a4 i c t k n R X) : ec g (tb_L_law b Ls xs) 1088 [some (.ref b), some (.ref a1), some (.ref a2), some (.ref a3), some (.ref a4), some (.int i), o6, o7, o8] [] k n c R X := by
  refine mk_L_law_1088 s1 s2 s3 s4 ?_
  have lw : wc g (wp_L_counterexample g) c _ (LW (spCex M (xs (i + (1 : Int32)).toNatClampNeg)) tL M) (fun _ _ => False) := mk_L_counterexample_0 s1 s3 (l_int (l := xIN) (by decide) (c_counterexample s1 hC w) hR)
  refine ⟨v1, ⟨by omega, by omega⟩, wc_mono (wc_le lw) (fun v c1 h1 => ?_) (fun _ _ f => f.2)⟩
  obtain ⟨le1, hv, h4, ho, hC1, hR1⟩ := h1
  refine ⟨_, hv, v1, ⟨by omega, by omega⟩, wc_mono (wc_le (m_counterexample (X := fun _ _ => False) (s2.mono le1) hR1 w)) (fun v2 c6 h2 => ?_) (fun _ _ f => f.2)⟩
  obtain ⟨le2, b2, hb, h9, hbv, km, hR2⟩ := h2
  exact ⟨b2, hb, ⟨by omega, by omega⟩, law_fin ((s2.mono le1).mono le2) (cle.trans le1 le2) h4 ho hC1 h9 hbv km hR2 ((by rw [r_spCex]; exact wf_s w ht)) nx (by omega) (by omega)⟩
set_option maxHeartbeats 1000000 in
theorem lc_fall (s1 : sl c 0 0 0 a1) (s2 : sl c 21 0 0 a2) (s3 : sl c 23 0 0 a3) (s4 : sl c 24 0 0 a4) (hC : CL c M) (hR : RF c M) (w : wfM M t) (ht : t < 512) (v1 : vp_in (i + (1 : Int32)) Ls) (v2 : vp_in (i + (2 : Int32)) Ls) (v3 : vp_in (i + (3 : Int32)) Ls) (v4 : vp_in (i + (4 : Int32)) Ls) (v5 : vp_in (i + (5 : Int32)) Ls) (hk : k ≤ 30000) (hn : n ≤ 200000) (nx : LT b Ls xs g a1 a2 a3 a4 i c t k n R X) : ec g (tb_L_law b Ls xs) 1144 [some (.ref b), some (.ref a1), some (.ref a2), some (.ref a3), some (.ref a4), some (.int i), o6, o7, o8] [] k n c R X := by
  refine mk_L_law_1144 s1 s2 s3 s4 ?_
  have lw : wc g (wp_L_fall g) c _ (LW (spFall M (xs (i + (1 : Int32)).toNatClampNeg)) tL M) (fun _ _ => False) := mk_L_fall_0 s1 s3 (l_int (l := xIU) (by decide) (c_fall s1 hC w) hR)
  refine ⟨v1, ⟨by omega, by omega⟩, wc_mono (wc_le lw) (fun v c1 h1 => ?_) (fun _ _ f => f.2)⟩
  obtain ⟨le1, hv, h4, ho, hC1, hR1⟩ := h1
  refine ⟨_, hv, v1, ⟨by omega, by omega⟩, wc_mono (wc_le (m_fall (X := fun _ _ => False) (s2.mono le1) hR1 w)) (fun v2 c6 h2 => ?_) (fun _ _ f => f.2)⟩
  obtain ⟨le2, b2, hb, h9, hbv, km, hR2⟩ := h2
  exact ⟨b2, hb, ⟨by omega, by omega⟩, law_fin ((s2.mono le1).mono le2) (cle.trans le1 le2) h4 ho hC1 h9 hbv km hR2 (w_fall w ht) nx (by omega) (by omega)⟩
set_option maxHeartbeats 1000000 in
theorem lc_issue (s1 : sl c 0 0 0 a1) (s2 : sl c 21 0 0 a2) (s3 : sl c 23 0 0 a3) (s4 : sl c 24 0 0 a4) (hC : CL c M) (hR : RF c M) (w : wfM M t) (ht : t < 512) (v1 : vp_in (i + (1 : Int32)) Ls) (v2 : vp_in (i + (2 : Int32)) Ls) (v3 : vp_in (i + (3 : Int32)) Ls) (v4 : vp_in (i + (4 : Int32)) Ls) (v5 : vp_in (i + (5 : Int32)) Ls) (hk : k ≤ 30000) (hn : n ≤ 200000) (nx : LT b Ls xs g a1 a2 a3 a4 i c t k n R X) : ec g (tb_L_law b Ls xs) 1200 [some (.ref b), some (.ref a1), some (.ref a2), some (.ref a3), some (.ref a4), some (.int i), o6, o7, o8] [] k n c R X := by
  refine mk_L_law_1200 s1 s2 s3 s4 ?_
  have lw : wc g (wp_L_issue g) c _ (LW (spIssue M) tL M) (fun _ _ => False) := mk_L_issue_0 s1 s3 (l_int (l := xS) (by decide) (c_issue s1 hC w) hR)
  refine ⟨⟨by omega, by omega⟩, wc_mono (wc_le lw) (fun v c1 h1 => ?_) (fun _ _ f => f.2)⟩
  obtain ⟨le1, hv, h4, ho, hC1, hR1⟩ := h1
  refine ⟨_, hv, ⟨by omega, by omega⟩, wc_mono (wc_le (m_issue (X := fun _ _ => False) (s2.mono le1) hR1 w)) (fun v2 c6 h2 => ?_) (fun _ _ f => f.2)⟩
  obtain ⟨le2, b2, hb, h9, hbv, km, hR2⟩ := h2
  exact ⟨b2, hb, ⟨by omega, by omega⟩, law_fin ((s2.mono le1).mono le2) (cle.trans le1 le2) h4 ho hC1 h9 hbv km hR2 (w_issue w ht) nx (by omega) (by omega)⟩
set_option maxHeartbeats 1000000 in
theorem lc_put (s1 : sl c 0 0 0 a1) (s2 : sl c 21 0 0 a2) (s3 : sl c 23 0 0 a3) (s4 : sl c 24 0 0 a4) (hC : CL c M) (hR : RF c M) (w : wfM M t) (ht : t < 512) (v1 : vp_in (i + (1 : Int32)) Ls) (v2 : vp_in (i + (2 : Int32)) Ls) (v3 : vp_in (i + (3 : Int32)) Ls) (v4 : vp_in (i + (4 : Int32)) Ls) (v5 : vp_in (i + (5 : Int32)) Ls) (hk : k ≤ 30000) (hn : n ≤ 200000) (nx : LT b Ls xs g a1 a2 a3 a4 i c t k n R X) : ec g (tb_L_law b Ls xs) 1244 [some (.ref b), some (.ref a1), some (.ref a2), some (.ref a3), some (.ref a4), some (.int i), o6, o7, o8] [] k n c R X := by
  refine mk_L_law_1244 s1 s2 s3 s4 ?_
  have lw : wc g (wp_L_put g) c _ (LW (spPut M (xs (i + (1 : Int32)).toNatClampNeg) (xs (i + (2 : Int32)).toNatClampNeg)) tL M) (fun _ _ => False) := mk_L_put_0 s1 s3 (l_int (l := xIUS) (by decide) (c_put s1 hC w) hR)
  refine ⟨v1, v2, ⟨by omega, by omega⟩, wc_mono (wc_le lw) (fun v c1 h1 => ?_) (fun _ _ f => f.2)⟩
  obtain ⟨le1, hv, h4, ho, hC1, hR1⟩ := h1
  refine ⟨_, hv, v1, v2, ⟨by omega, by omega⟩, wc_mono (wc_le (m_put (X := fun _ _ => False) (s2.mono le1) hR1 w)) (fun v2 c6 h2 => ?_) (fun _ _ f => f.2)⟩
  obtain ⟨le2, b2, hb, h9, hbv, km, hR2⟩ := h2
  exact ⟨b2, hb, ⟨by omega, by omega⟩, law_fin ((s2.mono le1).mono le2) (cle.trans le1 le2) h4 ho hC1 h9 hbv km hR2 (w_put w ht) nx (by omega) (by omega)⟩
set_option maxHeartbeats 1000000 in
theorem lc_publish (s1 : sl c 0 0 0 a1) (s2 : sl c 21 0 0 a2) (s3 : sl c 23 0 0 a3) (s4 : sl c 24 0 0 a4) (hC : CL c M) (hR : RF c M) (w : wfM M t) (ht : t < 512) (v1 : vp_in (i + (1 : Int32)) Ls) (v2 : vp_in (i + (2 : Int32)) Ls) (v3 : vp_in (i + (3 : Int32)) Ls) (v4 : vp_in (i + (4 : Int32)) Ls) (v5 : vp_in (i + (5 : Int32)) Ls) (hk : k ≤ 30000) (hn : n ≤ 200000) (nx : LT b Ls xs g a1 a2 a3 a4 i c t k n R X) : ec g (tb_L_law b Ls xs) 1312 [some (.ref b), some (.ref a1), some (.ref a2), some (.ref a3), some (.ref a4), some (.int i), o6, o7, o8] [] k n c R X := by
  refine mk_L_law_1312 s1 s2 s3 s4 ?_
  have lw : wc g (wp_L_publish g) c _ (LW (spPub M (xs (i + (1 : Int32)).toNatClampNeg) (xs (i + (2 : Int32)).toNatClampNeg)) tL M) (fun _ _ => False) := mk_L_publish_0 s1 s3 (l_int (l := xIAU) (by decide) (c_publish s1 hC w) hR)
  refine ⟨v1, v2, ⟨by omega, by omega⟩, wc_mono (wc_le lw) (fun v c1 h1 => ?_) (fun _ _ f => f.2)⟩
  obtain ⟨le1, hv, h4, ho, hC1, hR1⟩ := h1
  refine ⟨_, hv, v1, v2, ⟨by omega, by omega⟩, wc_mono (wc_le (m_publish (X := fun _ _ => False) (s2.mono le1) hR1 w)) (fun v2 c6 h2 => ?_) (fun _ _ f => f.2)⟩
  obtain ⟨le2, b2, hb, h9, hbv, km, hR2⟩ := h2
  exact ⟨b2, hb, ⟨by omega, by omega⟩, law_fin ((s2.mono le1).mono le2) (cle.trans le1 le2) h4 ho hC1 h9 hbv km hR2 (w_publish w ht) nx (by omega) (by omega)⟩
set_option maxHeartbeats 1000000 in
theorem lc_issueState (s1 : sl c 0 0 0 a1) (s2 : sl c 21 0 0 a2) (s3 : sl c 23 0 0 a3) (s4 : sl c 24 0 0 a4) (hC : CL c M) (hR : RF c M) (w : wfM M t) (ht : t < 512) (v1 : vp_in (i + (1 : Int32)) Ls) (v2 : vp_in (i + (2 : Int32)) Ls) (v3 : vp_in (i + (3 : Int32)) Ls) (v4 : vp_in (i + (4 : Int32)) Ls) (v5 : vp_in (i + (5 : Int32)) Ls) (hk : k ≤ 30000) (hn : n ≤ 200000) (nx : LT b Ls xs g a1 a2 a3 a4 i c t k n R X) : ec g (tb_L_law b Ls xs) 1380 [some (.ref b), some (.ref a1), some (.ref a2), some (.ref a3), some (.ref a4), some (.int i), o6, o7, o8] [] k n c R X := by
  refine mk_L_law_1380 s1 s2 s3 s4 ?_
  have lw : wc g (wp_L_issueState g) c _ (LW (spIst M (xs (i + (1 : Int32)).toNatClampNeg)) tL M) (fun _ _ => False) := mk_L_issueState_0 s1 s3 (l_int (l := xI) (by decide) (c_issueState s1 hC w) hR)
  refine ⟨v1, ⟨by omega, by omega⟩, wc_mono (wc_le lw) (fun v c1 h1 => ?_) (fun _ _ f => f.2)⟩
  obtain ⟨le1, hv, h4, ho, hC1, hR1⟩ := h1
  refine ⟨_, hv, v1, ⟨by omega, by omega⟩, wc_mono (wc_le (m_issueState (X := fun _ _ => False) (s2.mono le1) hR1 w)) (fun v2 c6 h2 => ?_) (fun _ _ f => f.2)⟩
  obtain ⟨le2, b2, hb, h9, hbv, km, hR2⟩ := h2
  exact ⟨b2, hb, ⟨by omega, by omega⟩, law_fin ((s2.mono le1).mono le2) (cle.trans le1 le2) h4 ho hC1 h9 hbv km hR2 ((by rw [r_spIst]; exact wf_s w ht)) nx (by omega) (by omega)⟩
set_option maxHeartbeats 1000000 in
theorem lc_indexed (s1 : sl c 0 0 0 a1) (s2 : sl c 21 0 0 a2) (s3 : sl c 23 0 0 a3) (s4 : sl c 24 0 0 a4) (hC : CL c M) (hR : RF c M) (w : wfM M t) (ht : t < 512) (v1 : vp_in (i + (1 : Int32)) Ls) (v2 : vp_in (i + (2 : Int32)) Ls) (v3 : vp_in (i + (3 : Int32)) Ls) (v4 : vp_in (i + (4 : Int32)) Ls) (v5 : vp_in (i + (5 : Int32)) Ls) (hk : k ≤ 30000) (hn : n ≤ 200000) (nx : LT b Ls xs g a1 a2 a3 a4 i c t k n R X) : ec g (tb_L_law b Ls xs) 1436 [some (.ref b), some (.ref a1), some (.ref a2), some (.ref a3), some (.ref a4), some (.int i), o6, o7, o8] [] k n c R X := by
  refine mk_L_law_1436 s1 s2 s3 s4 ?_
  have lw : wc g (wp_L_indexed g) c _ (LW (spIdx M (xs (i + (1 : Int32)).toNatClampNeg)) tL M) (fun _ _ => False) := mk_L_indexed_0 s1 s3 (l_int (l := xI) (by decide) (c_indexed s1 hC w) hR)
  refine ⟨v1, ⟨by omega, by omega⟩, wc_mono (wc_le lw) (fun v c1 h1 => ?_) (fun _ _ f => f.2)⟩
  obtain ⟨le1, hv, h4, ho, hC1, hR1⟩ := h1
  refine ⟨_, hv, v1, ⟨by omega, by omega⟩, wc_mono (wc_le (m_indexed (X := fun _ _ => False) (s2.mono le1) hR1 w)) (fun v2 c6 h2 => ?_) (fun _ _ f => f.2)⟩
  obtain ⟨le2, b2, hb, h9, hbv, km, hR2⟩ := h2
  exact ⟨b2, hb, ⟨by omega, by omega⟩, law_fin ((s2.mono le1).mono le2) (cle.trans le1 le2) h4 ho hC1 h9 hbv km hR2 ((by rw [r_spIdx]; exact wf_s w ht)) nx (by omega) (by omega)⟩
set_option maxHeartbeats 1000000 in
theorem lc_customer (s1 : sl c 0 0 0 a1) (s2 : sl c 21 0 0 a2) (s3 : sl c 23 0 0 a3) (s4 : sl c 24 0 0 a4) (hC : CL c M) (hR : RF c M) (w : wfM M t) (ht : t < 512) (v1 : vp_in (i + (1 : Int32)) Ls) (v2 : vp_in (i + (2 : Int32)) Ls) (v3 : vp_in (i + (3 : Int32)) Ls) (v4 : vp_in (i + (4 : Int32)) Ls) (v5 : vp_in (i + (5 : Int32)) Ls) (hk : k ≤ 30000) (hn : n ≤ 200000) (nx : LT b Ls xs g a1 a2 a3 a4 i c t k n R X) : ec g (tb_L_law b Ls xs) 1492 [some (.ref b), some (.ref a1), some (.ref a2), some (.ref a3), some (.ref a4), some (.int i), o6, o7, o8] [] k n c R X := by
  refine mk_L_law_1492 s1 s2 s3 s4 ?_
  have lw : wc g (wp_L_customer g) c _ (LW (spCust M) tL M) (fun _ _ => False) := mk_L_customer_0 s1 s3 (l_int (l := xS) (by decide) (c_customer s1 hC w) hR)
  refine ⟨⟨by omega, by omega⟩, wc_mono (wc_le lw) (fun v c1 h1 => ?_) (fun _ _ f => f.2)⟩
  obtain ⟨le1, hv, h4, ho, hC1, hR1⟩ := h1
  refine ⟨_, hv, ⟨by omega, by omega⟩, wc_mono (wc_le (m_customer (X := fun _ _ => False) (s2.mono le1) hR1 w)) (fun v2 c6 h2 => ?_) (fun _ _ f => f.2)⟩
  obtain ⟨le2, b2, hb, h9, hbv, km, hR2⟩ := h2
  exact ⟨b2, hb, ⟨by omega, by omega⟩, law_fin ((s2.mono le1).mono le2) (cle.trans le1 le2) h4 ho hC1 h9 hbv km hR2 (w_cust w ht) nx (by omega) (by omega)⟩
set_option maxHeartbeats 1000000 in
theorem lc_deposit (s1 : sl c 0 0 0 a1) (s2 : sl c 21 0 0 a2) (s3 : sl c 23 0 0 a3) (s4 : sl c 24 0 0 a4) (hC : CL c M) (hR : RF c M) (w : wfM M t) (ht : t < 512) (v1 : vp_in (i + (1 : Int32)) Ls) (v2 : vp_in (i + (2 : Int32)) Ls) (v3 : vp_in (i + (3 : Int32)) Ls) (v4 : vp_in (i + (4 : Int32)) Ls) (v5 : vp_in (i + (5 : Int32)) Ls) (hk : k ≤ 30000) (hn : n ≤ 200000) (nx : LT b Ls xs g a1 a2 a3 a4 i c t k n R X) : ec g (tb_L_law b Ls xs) 1536 [some (.ref b), some (.ref a1), some (.ref a2), some (.ref a3), some (.ref a4), some (.int i), o6, o7, o8] [] k n c R X := by
  refine mk_L_law_1536 s1 s2 s3 s4 ?_
  have lw : wc g (wp_L_deposit g) c _ (LW (spDep M (xs (i + (1 : Int32)).toNatClampNeg) (xs (i + (2 : Int32)).toNatClampNeg)) tL M) (fun _ _ => False) := mk_L_deposit_0 s1 s3 (l_int (l := xIAR) (by decide) (c_deposit s1 hC w) hR)
  refine ⟨v1, v2, ⟨by omega, by omega⟩, wc_mono (wc_le lw) (fun v c1 h1 => ?_) (fun _ _ f => f.2)⟩
  obtain ⟨le1, hv, h4, ho, hC1, hR1⟩ := h1
  refine ⟨_, hv, v1, v2, ⟨by omega, by omega⟩, wc_mono (wc_le (m_deposit (X := fun _ _ => False) (s2.mono le1) hR1 w)) (fun v2 c6 h2 => ?_) (fun _ _ f => f.2)⟩
  obtain ⟨le2, b2, hb, h9, hbv, km, hR2⟩ := h2
  exact ⟨b2, hb, ⟨by omega, by omega⟩, law_fin ((s2.mono le1).mono le2) (cle.trans le1 le2) h4 ho hC1 h9 hbv km hR2 (w_dep w ht) nx (by omega) (by omega)⟩
set_option maxHeartbeats 1000000 in
theorem lc_subscribe (s1 : sl c 0 0 0 a1) (s2 : sl c 21 0 0 a2) (s3 : sl c 23 0 0 a3) (s4 : sl c 24 0 0 a4) (hC : CL c M) (hR : RF c M) (w : wfM M t) (ht : t < 512) (v1 : vp_in (i + (1 : Int32)) Ls) (v2 : vp_in (i + (2 : Int32)) Ls) (v3 : vp_in (i + (3 : Int32)) Ls) (v4 : vp_in (i + (4 : Int32)) Ls) (v5 : vp_in (i + (5 : Int32)) Ls) (hk : k ≤ 30000) (hn : n ≤ 200000) (nx : LT b Ls xs g a1 a2 a3 a4 i c t k n R X) : ec g (tb_L_law b Ls xs) 1604 [some (.ref b), some (.ref a1), some (.ref a2), some (.ref a3), some (.ref a4), some (.int i), o6, o7, o8] [] k n c R X := by
  refine mk_L_law_1604 s1 s2 s3 s4 ?_
  have lw : wc g (wp_L_subscribe g) c _ (LW (spSub M (xs (i + (1 : Int32)).toNatClampNeg) (xs (i + (2 : Int32)).toNatClampNeg)) tL M) (fun _ _ => False) := mk_L_subscribe_0 s1 s3 (l_int (l := xIA) (by decide) (c_subscribe s1 hC w) hR)
  refine ⟨v1, v2, ⟨by omega, by omega⟩, wc_mono (wc_le lw) (fun v c1 h1 => ?_) (fun _ _ f => f.2)⟩
  obtain ⟨le1, hv, h4, ho, hC1, hR1⟩ := h1
  refine ⟨_, hv, v1, v2, ⟨by omega, by omega⟩, wc_mono (wc_le (m_subscribe (X := fun _ _ => False) (s2.mono le1) hR1 w)) (fun v2 c6 h2 => ?_) (fun _ _ f => f.2)⟩
  obtain ⟨le2, b2, hb, h9, hbv, km, hR2⟩ := h2
  exact ⟨b2, hb, ⟨by omega, by omega⟩, law_fin ((s2.mono le1).mono le2) (cle.trans le1 le2) h4 ho hC1 h9 hbv km hR2 (w_sub w ht) nx (by omega) (by omega)⟩
set_option maxHeartbeats 1000000 in
theorem lc_buy (s1 : sl c 0 0 0 a1) (s2 : sl c 21 0 0 a2) (s3 : sl c 23 0 0 a3) (s4 : sl c 24 0 0 a4) (hC : CL c M) (hR : RF c M) (w : wfM M t) (ht : t < 512) (v1 : vp_in (i + (1 : Int32)) Ls) (v2 : vp_in (i + (2 : Int32)) Ls) (v3 : vp_in (i + (3 : Int32)) Ls) (v4 : vp_in (i + (4 : Int32)) Ls) (v5 : vp_in (i + (5 : Int32)) Ls) (hk : k ≤ 30000) (hn : n ≤ 200000) (nx : LT b Ls xs g a1 a2 a3 a4 i c t k n R X) : ec g (tb_L_law b Ls xs) 1672 [some (.ref b), some (.ref a1), some (.ref a2), some (.ref a3), some (.ref a4), some (.int i), o6, o7, o8] [] k n c R X := by
  refine mk_L_law_1672 s1 s2 s3 s4 ?_
  have lw : wc g (wp_L_buy g) c _ (LW (spBuy M (xs (i + (1 : Int32)).toNatClampNeg) (xs (i + (2 : Int32)).toNatClampNeg)) tL M) (fun _ _ => False) := mk_L_buy_0 s1 s3 (l_int (l := xIU) (by decide) (c_buy s1 hC w) hR)
  refine ⟨v1, v2, ⟨by omega, by omega⟩, wc_mono (wc_le lw) (fun v c1 h1 => ?_) (fun _ _ f => f.2)⟩
  obtain ⟨le1, hv, h4, ho, hC1, hR1⟩ := h1
  refine ⟨_, hv, v1, v2, ⟨by omega, by omega⟩, wc_mono (wc_le (m_buy (X := fun _ _ => False) (s2.mono le1) hR1 w)) (fun v2 c6 h2 => ?_) (fun _ _ f => f.2)⟩
  obtain ⟨le2, b2, hb, h9, hbv, km, hR2⟩ := h2
  exact ⟨b2, hb, ⟨by omega, by omega⟩, law_fin ((s2.mono le1).mono le2) (cle.trans le1 le2) h4 ho hC1 h9 hbv km hR2 (w_buy w ht) nx (by omega) (by omega)⟩
set_option maxHeartbeats 1000000 in
theorem lc_credits (s1 : sl c 0 0 0 a1) (s2 : sl c 21 0 0 a2) (s3 : sl c 23 0 0 a3) (s4 : sl c 24 0 0 a4) (hC : CL c M) (hR : RF c M) (w : wfM M t) (ht : t < 512) (v1 : vp_in (i + (1 : Int32)) Ls) (v2 : vp_in (i + (2 : Int32)) Ls) (v3 : vp_in (i + (3 : Int32)) Ls) (v4 : vp_in (i + (4 : Int32)) Ls) (v5 : vp_in (i + (5 : Int32)) Ls) (hk : k ≤ 30000) (hn : n ≤ 200000) (nx : LT b Ls xs g a1 a2 a3 a4 i c t k n R X) : ec g (tb_L_law b Ls xs) 1740 [some (.ref b), some (.ref a1), some (.ref a2), some (.ref a3), some (.ref a4), some (.int i), o6, o7, o8] [] k n c R X := by
  refine mk_L_law_1740 s1 s2 s3 s4 ?_
  have lw : wc g (wp_L_credits g) c _ (LW (spCred M (xs (i + (1 : Int32)).toNatClampNeg)) tL M) (fun _ _ => False) := mk_L_credits_0 s1 s3 (l_int (l := xI) (by decide) (c_credits s1 hC w) hR)
  refine ⟨v1, ⟨by omega, by omega⟩, wc_mono (wc_le lw) (fun v c1 h1 => ?_) (fun _ _ f => f.2)⟩
  obtain ⟨le1, hv, h4, ho, hC1, hR1⟩ := h1
  refine ⟨_, hv, v1, ⟨by omega, by omega⟩, wc_mono (wc_le (m_credits (X := fun _ _ => False) (s2.mono le1) hR1 w)) (fun v2 c6 h2 => ?_) (fun _ _ f => f.2)⟩
  obtain ⟨le2, b2, hb, h9, hbv, km, hR2⟩ := h2
  exact ⟨b2, hb, ⟨by omega, by omega⟩, law_fin ((s2.mono le1).mono le2) (cle.trans le1 le2) h4 ho hC1 h9 hbv km hR2 ((by rw [r_spCred]; exact wf_s w ht)) nx (by omega) (by omega)⟩
set_option maxHeartbeats 1000000 in
theorem lc_has (s1 : sl c 0 0 0 a1) (s2 : sl c 21 0 0 a2) (s3 : sl c 23 0 0 a3) (s4 : sl c 24 0 0 a4) (hC : CL c M) (hR : RF c M) (w : wfM M t) (ht : t < 512) (v1 : vp_in (i + (1 : Int32)) Ls) (v2 : vp_in (i + (2 : Int32)) Ls) (v3 : vp_in (i + (3 : Int32)) Ls) (v4 : vp_in (i + (4 : Int32)) Ls) (v5 : vp_in (i + (5 : Int32)) Ls) (hk : k ≤ 30000) (hn : n ≤ 200000) (nx : LT b Ls xs g a1 a2 a3 a4 i c t k n R X) : ec g (tb_L_law b Ls xs) 1796 [some (.ref b), some (.ref a1), some (.ref a2), some (.ref a3), some (.ref a4), some (.int i), o6, o7, o8] [] k n c R X := by
  refine mk_L_law_1796 s1 s2 s3 s4 ?_
  have lw : wc g (wp_L_has g) c _ (LW (spHas M (xs (i + (1 : Int32)).toNatClampNeg) (xs (i + (2 : Int32)).toNatClampNeg)) tB M) (fun _ _ => False) := mk_L_has_0 s1 s3 (l_bool (l := xI) (by decide) (c_has s1 hC w) hR)
  refine ⟨v1, v2, ⟨by omega, by omega⟩, wc_mono (wc_le lw) (fun v c1 h1 => ?_) (fun _ _ f => f.2)⟩
  obtain ⟨le1, hv, h4, ho, hC1, hR1⟩ := h1
  refine ⟨_, hv, v1, v2, ⟨by omega, by omega⟩, wc_mono (wc_le (m_has (X := fun _ _ => False) (s2.mono le1) hR1 w)) (fun v2 c6 h2 => ?_) (fun _ _ f => f.2)⟩
  obtain ⟨le2, b2, hb, h9, hbv, km, hR2⟩ := h2
  exact ⟨b2, hb, ⟨by omega, by omega⟩, law_finB ((s2.mono le1).mono le2) (cle.trans le1 le2) h4 ho hC1 h9 hbv km hR2 ((by rw [r_spHas]; exact wf_s w ht)) nx (by omega) (by omega)⟩
end
