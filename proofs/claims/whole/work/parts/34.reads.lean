/-! calls that only ask: the reference -/
theorem ixo_0 {y : Int32} : ixo 0 y = none := by
  refine ixo_no ?_
  by_cases h : y < 0
  · exact Or.inl h
  · exact Or.inr (Int32.not_lt.mp h)
theorem let_is {z : Int32} (h : z = 111 ∨ z = 119 ∨ z = 105 ∨ z = 115 ∨ z = 98 ∨ z = 104) : ((z).toUInt32 % 65536).toInt32 = z := by
  rcases h with rfl | rfl | rfl | rfl | rfl | rfl <;> decide
theorem let_is2 {z : Int32} (h : z = 109 ∨ z = 115 ∨ z = 114) : ((z).toUInt32 % 65536).toInt32 = z := by
  rcases h with rfl | rfl | rfl <;> decide
theorem nch0 : narrow .char (.int 0) = .int 0 := (pk_charN (q := 0) (by decide)).1
section
variable {g : Nat → Nat} {c : cc_C} {M : cc_M} {e t : Nat} {x y : Int32} {X : String → cc_C → Prop}
theorem m_letter {R : Option Value → cc_C → Prop} {z : Int32} (s : sl c 21 0 0 e) (h : ((z).toUInt32 % 65536).toInt32 = z) (H : R (some (.int z)) (cset c 869 0 0 0)) : wc g (wp_X9_letter g) c [.ref e, .int z] R X := by
  refine mk_X9_letter_0 s ⟨pk_nc z, ?_⟩
  rw [h]
  exact H
theorem m_state (s : sl c 21 0 0 e) (hR : RF c M) (w : wfM M t) : wc g (wp_X9_state g) c [.ref e, .int x] (okN (spState M x) c) X := by
  refine mk_X9_state_0 s (m_isRiddle s hR.2.1 w.1.1 (fun h => ⟨_, rfl, fun _ => mk_X9_noLetter_0 s ⟨_, rfl, nch0, lF (no1 h) rfl kM_rfl hR⟩, fun q => absurd rfl q⟩) (fun r hr hx => ⟨_, rfl, fun q => absurd q (by decide), fun _ => ?_⟩))
  have b20 := w.1.1
  have e1 : spState M x = _ := at1 hx hr (by omega)
  have h := hR.2.1.2.1 r hr
  have z6 := (w.1.2 r hr).2.1
  subst hx
  rw [nI_clamp (by omega), h.2.2.2.1]
  exact ⟨vp_in_nI (by omega) (by omega), m_letter s (let_is z6) ⟨_, rfl, nch z6, lT e1 rfl kM_rfl hR⟩⟩
theorem m_steps (s : sl c 21 0 0 e) (hR : RF c M) (w : wfM M t) : wc g (wp_X9_steps g) c [.ref e, .int x] (okN (spSteps M x) c) X := by
  refine mk_X9_steps_0 s (m_isRiddle s hR.2.1 w.1.1 (fun h => ⟨_, rfl, fun _ => mk_X9_fails_0 s ⟨_, rfl, lF (no1 h) rfl kM_rfl hR⟩, fun q => absurd rfl q⟩) (fun r hr hx => ⟨_, rfl, fun q => absurd q (by decide), fun _ => ?_⟩))
  have b20 := w.1.1
  have e1 : spSteps M x = _ := at1 hx hr (by omega)
  have h := hR.2.1.2.1 r hr
  have o4 := (w.1.2 r hr).2.2.1.1
  subst hx
  rw [nI_clamp (by omega), h.2.2.2.2.1]
  refine ⟨vp_in_nI (by omega) (by omega), fun q => mk_X9_fails_0 s ⟨_, rfl, lF (e1.trans (if_pos ((nI_eq (b := 0) (by omega) (by omega)).mp q))) rfl kM_rfl hR⟩, fun q => ⟨vp_in_nI (by omega) (by omega), ?_⟩⟩
  have o0 : rdO (mX M r) ≠ 0 := fun z => q (by rw [z]; rfl)
  rw [(h.2.2.2.2.2.1 o0).1]
  exact mk_X9_tell_0 s ⟨_, rfl, lT (e1.trans (if_neg o0)) rfl kM_rfl hR⟩
theorem m_stepOf {R : Option Value → cc_C → Prop} (s : sl c 21 0 0 e) (hR : RF c M) (w : wfM M t) (H1 : ixo (mR M) x = none → R (some (.int (-1))) (cset c 869 0 0 1)) (H2 : ∀ r, r < mR M → x = nI r → ixo (rdk (mX M r)) y = none → R (some (.int (-1))) (cset c 869 0 0 2)) (H3 : ∀ r i, r < mR M → x = nI r → i < rdk (mX M r) → y = nI i → stM c r (rdk (mX M r)) (rdS (mX M r)) → R (some (.int (nI (36 * r + i)))) (cset c 869 0 0 0)) : wc g (wp_X9_stepOf g) c [.ref e, .int x, .int y] R X := by
  refine mk_X9_stepOf_0 s (m_isRiddle s hR.2.1 w.1.1 (fun h => ⟨_, rfl, fun _ => ?_, fun q => absurd rfl q⟩) (fun r hr hx => ⟨_, rfl, fun q => absurd q (by decide), fun _ => ?_⟩))
  · rw [cS_at]
    exact ⟨fun q => absurd q (by decide), fun _ => H1 h⟩
  have b20 := w.1.1
  have h := hR.2.1.2.1 r hr
  have wr := (w.1.2 r hr).2.2.1
  have hx' := hx
  subst hx
  rw [nI_clamp (by omega), h.2.2.2.2.1, cS_at]
  refine ⟨vp_in_nI (by omega) (by omega), fun q => ⟨fun q => absurd q (by decide), fun _ => H2 r hr hx' ?_⟩, fun q => ⟨vp_in_nI (by omega) (by omega), ?_⟩⟩
  · have o0 : rdO (mX M r) = 0 := (nI_eq (b := 0) (by omega) (by omega)).mp q
    rw [wr.2.1 o0]
    exact ixo_0
  · have o0 : rdO (mX M r) ≠ 0 := fun z => q (by rw [z]; rfl)
    have st := h.2.2.2.2.2.1 o0
    rw [st.1]
    refine m_in0 (n := rdk (mX M r)) (by omega) rfl (fun h0 => ⟨_, rfl, fun _ => ⟨fun q => absurd ((cS_at _ _ _ _ _).symm.trans q) (by decide), fun _ => H2 r hr hx' h0⟩, fun q => absurd rfl q⟩) (fun i hi hy => ⟨_, rfl, fun q => absurd q (by decide), fun _ => ⟨fun _ => ?_, fun q => absurd (cS_at _ _ _ _ _) q⟩⟩)
    have H := H3 r i hr hx' hi hy st
    subst hy
    rw [show (36 : Int32) * nI r = nI (36 * r) from pk_mul 36 r, nI_add]
    exact H
theorem m_ruleAt (s : sl c 21 0 0 e) (hR : RF c M) (w : wfM M t) : wc g (wp_X9_ruleAt g) c [.ref e, .int x, .int y] (okN (spAt (fun z => z.1) M x y) c) X := by
  have b20 := w.1.1
  refine mk_X9_ruleAt_0 s (m_stepOf s hR w (fun h => ⟨_, rfl, fun _ => lF (no1 h) rfl kM_rfl hR, fun q => absurd rfl q⟩) (fun r hr hx h0 => ⟨_, rfl, fun _ => lF (M := M) (y := 0) ((at1 hx hr (by omega)).trans (by rw [h0])) rfl kM_rfl hR, fun q => absurd rfl q⟩) (fun r i hr hx hi hy st => ⟨_, rfl, fun q => absurd q (nI_m1 (by have := st.2.1; omega)), fun _ => ?_⟩))
  have k36 := st.2.1
  refine ⟨vp_in_nI (by omega) (by omega), ?_⟩
  rw [nI_clamp (by omega)]
  refine lT (M := M) (y := nI (rdS (mX M r) i).1) ((at1 hx hr (by omega)).trans ?_) (by rw [cS_f (by decide)]; exact (st.2.2 i hi).1) kM_rfl hR
  rw [hy, ixo_at (by omega) hi]
theorem m_causeAt (s : sl c 21 0 0 e) (hR : RF c M) (w : wfM M t) : wc g (wp_X9_causeAt g) c [.ref e, .int x, .int y] (okN (spAt (fun z => z.2.1) M x y) c) X := by
  have b20 := w.1.1
  refine mk_X9_causeAt_0 s (m_stepOf s hR w (fun h => ⟨_, rfl, fun _ => lF (no1 h) rfl kM_rfl hR, fun q => absurd rfl q⟩) (fun r hr hx h0 => ⟨_, rfl, fun _ => lF (M := M) (y := 0) ((at1 hx hr (by omega)).trans (by rw [h0])) rfl kM_rfl hR, fun q => absurd rfl q⟩) (fun r i hr hx hi hy st => ⟨_, rfl, fun q => absurd q (nI_m1 (by have := st.2.1; omega)), fun _ => ?_⟩))
  have k36 := st.2.1
  refine ⟨vp_in_nI (by omega) (by omega), ?_⟩
  rw [nI_clamp (by omega)]
  refine lT (M := M) (y := nI (rdS (mX M r) i).2.1) ((at1 hx hr (by omega)).trans ?_) (by rw [cS_f (by decide)]; exact (st.2.2 i hi).2.1) kM_rfl hR
  rw [hy, ixo_at (by omega) hi]
theorem m_takenAt (s : sl c 21 0 0 e) (hR : RF c M) (w : wfM M t) : wc g (wp_X9_takenAt g) c [.ref e, .int x, .int y] (okN (spAt (fun z => z.2.2) M x y) c) X := by
  have b20 := w.1.1
  refine mk_X9_takenAt_0 s (m_stepOf s hR w (fun h => ⟨_, rfl, fun _ => lF (no1 h) rfl kM_rfl hR, fun q => absurd rfl q⟩) (fun r hr hx h0 => ⟨_, rfl, fun _ => lF (M := M) (y := 0) ((at1 hx hr (by omega)).trans (by rw [h0])) rfl kM_rfl hR, fun q => absurd rfl q⟩) (fun r i hr hx hi hy st => ⟨_, rfl, fun q => absurd q (nI_m1 (by have := st.2.1; omega)), fun _ => ?_⟩))
  have k36 := st.2.1
  refine ⟨vp_in_nI (by omega) (by omega), ?_⟩
  rw [nI_clamp (by omega)]
  refine lT (M := M) (y := nI (rdS (mX M r) i).2.2) ((at1 hx hr (by omega)).trans ?_) (by rw [cS_f (by decide)]; exact (st.2.2 i hi).2.2) kM_rfl hR
  rw [hy, ixo_at (by omega) hi]
theorem m_ln {R : Option Value → cc_C → Prop} {r ru : Nat} {x1 x2 : Int32} (s : sl c 21 0 0 e) (hR : RFR c M) (w : wfM M t) (hr : r < mR M) (h1 : x1 = nI r) (h2 : x2 = nI ru) (hru : ru < 100) (H : R (some (.int (bI (rdLn (mX M r) ru)))) c) : wc g (wp_X9_leans g) c [.ref e, .int x1, .int x2] R X := by
  have h := hR.2.1 r hr
  have wr := (w.1.2 r hr).2.2.1
  exact m_leans s (by have := w.1.1; omega) h1 h2 hru h.2.2.2.2.1 wr.1 h.2.2.2.2.2.1 wr.2.2.2 wr.2.1 H
theorem m_tells {R : Option Value → cc_C → Prop} {b : Bool} (s : sl c 21 0 0 e) (H : R (some (.int (bI b))) (cset c 869 0 0 0)) : wc g (wp_X9_tells g) c [.ref e, .int (bI b)] R X := mk_X9_tells_0 s ⟨nb_bI b, H⟩
theorem m_leansOn (s : sl c 21 0 0 e) (hR : RF c M) (w : wfM M t) : wc g (wp_X9_leansOn g) c [.ref e, .int x, .int y] (okN (spLeans M x y) c) X := by
  have h6 := w.2.1.1
  refine mk_X9_leansOn_0 s (m_isRiddle s hR.2.1 w.1.1 (fun h => ⟨_, rfl, fun _ => mk_X9_refuses_0 s ⟨_, rfl, nb_bI false, lF (no1 h) rfl kM_rfl hR⟩, fun q => absurd rfl q⟩) (fun r hr hx => ⟨_, rfl, fun q => absurd q (by decide), fun _ => ?_⟩))
  have e1 : spLeans M x y = _ := at1 hx hr (by have := w.1.1; omega)
  exact m_isRule s hR.2.2.1 (fun h => ⟨_, rfl, fun _ => mk_X9_refuses_0 s ⟨_, rfl, nb_bI false, lF (e1.trans (no1 h)) rfl kM_rfl hR⟩, fun q => absurd rfl q⟩) (fun u hu hy => ⟨_, rfl, fun q => absurd q (by decide), fun _ => m_ln s hR.2.1 w hr hx hy (by omega) ⟨_, rfl, m_tells s ⟨_, rfl, nb_bI _, lT (e1.trans (at1 hy hu (by omega))) rfl kM_rfl hR⟩⟩⟩)
theorem m_stands (s : sl c 21 0 0 e) (hR : RF c M) (w : wfM M t) : wc g (wp_X9_stands g) c [.ref e, .int x] (okN (spStands M x) c) X := by
  have h6 := w.2.1.1
  refine mk_X9_stands_0 s (m_isRule s hR.2.2.1 (fun h => ⟨_, rfl, fun _ => mk_X9_refuses_0 s ⟨_, rfl, nb_bI false, lF (no1 h) rfl kM_rfl hR⟩, fun q => absurd rfl q⟩) (fun u hu hx => ⟨_, rfl, fun q => absurd q (by decide), fun _ => ?_⟩))
  have e1 : spStands M x = _ := at1 hx hu (by omega)
  subst hx
  refine ⟨fun q => m_tells (b := true) s ⟨_, rfl, nb_bI true, lT e1 ?_ kM_rfl hR⟩, fun q => ?_⟩
  · rw [decide_eq_true ((nI_ltI (b := 10) (by omega) (by omega)).mp q)]
    rfl
  · have hu10 : ¬ u < 10 := fun z => q (nI_lt (b := 10) z (by omega))
    have v17 := (hR.2.2.1.1.2.2 (u - 10) (by omega)).2
    rw [show nI u - 10 = nI (u - 10) from pk_sub (b := 10) (by omega), nI_clamp (by omega), v17]
    rw [decide_eq_false hu10, Bool.false_or] at e1
    refine ⟨vp_in_nI (by omega) (by omega), ?_⟩
    cases hb : (mO M (u - 10)).2.2.2.2 with
    | true => rw [hb] at e1; exact ⟨fun _ => m_tells (b := true) s ⟨_, rfl, nb_bI true, lT e1 rfl kM_rfl hR⟩, fun q => absurd rfl q⟩
    | false => rw [hb] at e1; exact ⟨fun q => absurd q (by decide), fun _ => m_tells (b := false) s ⟨_, rfl, nb_bI false, lT e1 rfl kM_rfl hR⟩⟩
theorem m_counterexample (s : sl c 21 0 0 e) (hR : RF c M) (w : wfM M t) : wc g (wp_X9_counterexample g) c [.ref e, .int x] (okN (spCex M x) c) X := by
  have h6 := w.2.1.1
  refine mk_X9_counterexample_0 s (m_isOwn s hR.2.2.1 (fun h => ⟨_, rfl, fun _ => mk_X9_fails_0 s ⟨_, rfl, lF (no1 h) rfl kM_rfl hR⟩, fun q => absurd rfl q⟩) (fun u hu hx => ⟨_, rfl, fun q => absurd q (by decide), fun _ => ?_⟩))
  have e1 : spCex M x = _ := atw hx hu (by omega)
  have hb : cexO (mO M u) < 2 ^ 31 := lcx_31 4 3 (by omega) (by omega)
  have ex : x - 10 = nI u := by
    have := pk_sub (a := 10 + u) (b := 10) (by omega)
    rw [show 10 + u - 10 = u by omega] at this
    rw [hx]
    exact this
  refine m_leastAgainst s ex (hR.2.2.1.1.2.2 u hu).1 (fun d hd => ⟨_, rfl, fun q => ?_, fun q => ?_⟩)
  · exact mk_X9_fails_0 (hd.sl s) ⟨_, rfl, lF (e1.trans (if_pos ((nI_eq (b := 0) hb (by omega)).mp q))) rfl (kM_fr hd (fun f i z => by unfold pSt at z; omega)) (RF_scr hd (fun f i z => by unfold pSt at z; omega) hR)⟩
  · exact mk_X9_tell_0 (hd.sl s) ⟨_, rfl, lT (e1.trans (if_neg fun z => q (by show nI (cexO (mO M u)) = 0; rw [z]; rfl))) rfl (kM_fr hd (fun f i z => by unfold pSt at z; omega)) (RF_scr hd (fun f i z => by unfold pSt at z; omega) hR)⟩
theorem m_issueState (s : sl c 21 0 0 e) (hR : RF c M) (w : wfM M t) : wc g (wp_X9_issueState g) c [.ref e, .int x] (okN (spIst M x) c) X := by
  have b12 := w.2.2.1.1
  refine mk_X9_issueState_0 s (m_isIssue s hR.2.2.2.1 b12 (fun h => ⟨_, rfl, fun _ => mk_X9_noLetter_0 s ⟨_, rfl, nch0, lF (no1 h) rfl kM_rfl hR⟩, fun q => absurd rfl q⟩) (fun i hi hx => ⟨_, rfl, fun q => absurd q (by decide), fun _ => ?_⟩))
  have e1 : spIst M x = _ := at1 hx hi (by omega)
  have h := hR.2.2.2.1.2.1 i hi
  have z6 := (w.2.2.1.2 i hi).1
  subst hx
  rw [nI_clamp (by omega), h.1]
  exact ⟨vp_in_nI (by omega) (by omega), m_letter s (let_is2 z6) ⟨_, rfl, nch2 z6, lT e1 rfl kM_rfl hR⟩⟩
theorem m_credits (s : sl c 21 0 0 e) (hR : RF c M) (w : wfM M t) : wc g (wp_X9_credits g) c [.ref e, .int x] (okN (spCred M x) c) X := by
  have b8 := w.2.2.2.1.1
  refine mk_X9_credits_0 s (m_isCustomer s hR.2.2.2.2.1 b8 (fun h => ⟨_, rfl, fun _ => mk_X9_fails_0 s ⟨_, rfl, lF (no1 h) rfl kM_rfl hR⟩, fun q => absurd rfl q⟩) (fun i hi hx => ⟨_, rfl, fun q => absurd q (by decide), fun _ => ?_⟩))
  have e1 : spCred M x = _ := at1 hx hi (by omega)
  have h := hR.2.2.2.2.1.2.1 i hi
  subst hx
  rw [nI_clamp (by omega), h.1]
  exact ⟨vp_in_nI (by omega) (by omega), mk_X9_tell_0 s ⟨_, rfl, lT e1 rfl kM_rfl hR⟩⟩
theorem m_has (s : sl c 21 0 0 e) (hR : RF c M) (w : wfM M t) : wc g (wp_X9_has g) c [.ref e, .int x, .int y] (okN (spHas M x y) c) X := by
  have b8 := w.2.2.2.1.1
  have b12 := w.2.2.1.1
  refine mk_X9_has_0 s (m_isCustomer s hR.2.2.2.2.1 b8 (fun h => ⟨_, rfl, fun _ => mk_X9_refuses_0 s ⟨_, rfl, nb_bI false, lF (no1 h) rfl kM_rfl hR⟩, fun q => absurd rfl q⟩) (fun q hq hx => ⟨_, rfl, fun q => absurd q (by decide), fun _ => ?_⟩))
  have e1 : spHas M x y = _ := at1 hx hq (by omega)
  refine m_isIssue s hR.2.2.2.1 b12 (fun h => ⟨_, rfl, fun _ => mk_X9_refuses_0 s ⟨_, rfl, nb_bI false, lF (e1.trans (no1 h)) rfl kM_rfl hR⟩, fun q => absurd rfl q⟩) (fun i hi hy => ⟨_, rfl, fun q => absurd q (by decide), fun _ => ?_⟩)
  have e2 := e1.trans (at1 hy hi (by omega))
  have h := (hR.2.2.2.2.1.2.1 q hq).2.2 i (by omega)
  subst hx
  subst hy
  rw [show (12 : Int32) * nI q = nI (12 * q) from pk_mul 12 q, nI_add, nI_clamp (by omega), h]
  refine ⟨vp_in_nI (by omega) (by omega), ?_⟩
  cases hb : (mV M q).2.2 i with
  | true => rw [hb] at e2; exact ⟨fun _ => m_tells (b := true) s ⟨_, rfl, nb_bI true, lT e2 rfl kM_rfl hR⟩, fun q => absurd rfl q⟩
  | false => rw [hb] at e2; exact ⟨fun q => absurd q (by decide), fun _ => m_tells (b := false) s ⟨_, rfl, nb_bI false, lT e2 rfl kM_rfl hR⟩⟩
theorem m_ansOf {R : Option Value → cc_C → Prop} {r : Nat} {x1 : Int32} (s : sl c 21 0 0 e) (hR : RF c M) (w : wfM M t) (hr : r < mR M) (h1 : x1 = nI r) (H : ∀ d, fr pAM c d → RF d M → (0 < rdA (mX M r) → Rp (rdN (mX M r)) (ofL (rdF (mX M r))) (cS d 880 27)) → R (some (.int (nI (rdA (mX M r))))) d) : wc g (wp_X9_answersOf g) c [.ref e, .int x1] R X := by
  have h := hR.2.1.2.1 r hr
  have wr := (w.1.2 r hr).1
  have eA : (fun l => aF (clM c r) l (rdC (mX M r))) = fun l => aF (rdK (mX M r)) l (rdC (mX M r)) := ans_C (n := 0) h.2.2.1
  have o : ansOkM c r (rdN (mX M r)) (rdC (mX M r)) := ⟨by have := w.1.1; omega, h.1, wr.2.1, wr.1, h.2.1, wr.2.2.1, fun i hi => by
    have := wr.2.2.2 i hi
    unfold KvK at this ⊢
    rw [h.2.2.1 i hi]
    exact this⟩
  refine m_answersOf s h1 o (fun d hd h2 => ?_)
  rw [eA] at h2 ⊢
  exact H d hd (RF_scr hd (fun f i z => by unfold pAM at z; omega) hR) h2
theorem kM_AM {d : cc_C} (h : fr pAM c d) : kM c d := kM_fr h (fun f i q => by unfold pAM at q; omega)
theorem m_answers (s : sl c 21 0 0 e) (hR : RF c M) (w : wfM M t) : wc g (wp_X9_answers g) c [.ref e, .int x] (okN (spAnsw M x) c) X := by
  refine mk_X9_answers_0 s (m_isRiddle s hR.2.1 w.1.1 (fun h => ⟨_, rfl, fun _ => mk_X9_fails_0 s ⟨_, rfl, lF (no1 h) rfl kM_rfl hR⟩, fun q => absurd rfl q⟩) (fun r hr hx => ⟨_, rfl, fun q => absurd q (by decide), fun _ => m_ansOf s hR w hr hx (fun d hd hR' _ => ⟨_, rfl, mk_X9_tell_0 (hd.sl s) ⟨_, rfl, lT (at1 hx hr (by have := w.1.1; omega)) rfl (kM_AM hd) hR'⟩⟩)⟩))
theorem m_answer (s : sl c 21 0 0 e) (hR : RF c M) (w : wfM M t) : wc g (wp_X9_answer g) c [.ref e, .int x, .int y] (okN (spAns M x y) c) X := by
  have b20 := w.1.1
  refine mk_X9_answer_0 s (m_isRiddle s hR.2.1 w.1.1 (fun h => ⟨_, rfl, fun _ => mk_X9_fails_0 s ⟨_, rfl, lF (no1 h) rfl kM_rfl hR⟩, fun q => absurd rfl q⟩) (fun r hr hx => ⟨_, rfl, fun q => absurd q (by decide), fun _ => ?_⟩))
  have e1 : spAns M x y = _ := at1 hx hr (by omega)
  have h := hR.2.1.2.1 r hr
  have wr := (w.1.2 r hr).1
  have b720 := rdA_le wr.1 wr.2.1
  subst hx
  rw [nI_clamp (by omega), h.1]
  refine ⟨vp_in_nI (by omega) (by omega), m_in0 (n := rdN (mX M r)) (by omega) rfl (fun h0 => ⟨_, rfl, fun _ => mk_X9_fails_0 s ⟨_, rfl, lF (e1.trans (no1 h0)) rfl kM_rfl hR⟩, fun q => absurd rfl q⟩) (fun p hp hy => ⟨_, rfl, fun q => absurd q (by decide), fun _ => ?_⟩)⟩
  have e2 := e1.trans (at1 hy hp (by omega))
  refine m_ansOf s hR w hr rfl (fun d hd hR' h2 => ⟨_, rfl, fun q => mk_X9_fails_0 (hd.sl s) ⟨_, rfl, lF (e2.trans (if_pos ((nI_eq (b := 0) (by omega) (by omega)).mp q))) rfl (kM_AM hd) hR'⟩, fun q => ?_⟩)
  have h0 : rdA (mX M r) ≠ 0 := fun z => q (by rw [z]; rfl)
  have h3 := h2 (by omega) p hp
  subst hy
  rw [nI_clamp (by omega), h3]
  exact ⟨vp_in_nI (by omega) (by omega), mk_X9_tell_0 (hd.sl s) ⟨_, rfl, lT (e2.trans (if_neg h0)) rfl (kM_AM hd) hR'⟩⟩
end
