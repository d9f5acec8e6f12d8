section
variable {g : Nat → Nat} {c : cc_C} {M : cc_M} {a e t : Nat} {x y : Int32} {X : String → cc_C → Prop}
theorem m_fallLoop {ru : Nat} {sp : cc_Sp} {x1 : Int32} (s : sl c 21 0 0 e) (hR : RF c M) (w : wfM M t) (h1 : x1 = nI ru) (hru : ru < 16) (c0 : cc_C) (km0 : kM c0 c) (hsp : sp = (0, nI (mFalls M ru (mI M)).2, mLose (mFalls M ru (mI M)).1 ru (mR M))) : ec g tb_X9_fall 58 [some (.ref e), some (.int x1), some (.int 0), some (.int 0)] [] 0 0 c (okN sp c0) X := by
  have b12 := w.2.2.1.1
  have loop : ∀ (n i : Nat) (d : cc_C), i + n = mI M → kM c0 d → sl d 21 0 0 e → RF d (mFalls M ru i).1 → ec g tb_X9_fall 58 [some (.ref e), some (.int x1), some (.int (nI (mFalls M ru i).2)), some (.int (nI i))] [] 0 0 d (okN sp c0) X := by
    intro n
    induction n with
    | zero =>
      intro i d hi km sd hd
      obtain rfl : i = mI M := by omega
      have hs := same_falls (M := M) (ru := ru) (mI M)
      have wk := w_falls (ru := ru) w (mI M) (Nat.le_refl _)
      refine mk_X9_fall_58 sd ?_
      rw [hd.2.2.2.1.1, hs.2.1]
      refine ⟨fun _ => m_loses sd hd wk (fun i hi => noS (mI M) i (by have := hs.2.1; omega)) h1 hru c0 km ?_, fun z => absurd (nI_le (Nat.le_refl _) (by omega)) z⟩
      rw [hs.1]
      exact hsp
    | succ n ih =>
      intro i d hi km sd hd
      have hs := same_falls (M := M) (ru := ru) i
      have hsI := hs.2.1
      have wk := w_falls (ru := ru) w i (by omega)
      have hiI : i < mI (mFalls M ru i).1 := by omega
      obtain ⟨i1, i2, i3⟩ := hd.2.2.2.1.2.1 i hiI
      have es := mFalls_s (M := M) (ru := ru) (i := i)
      have no : ¬ onS (mFalls M ru i).1 ru i = true → ec g tb_X9_fall 58 [some (.ref e), some (.int x1), some (.int (nI (mFalls M ru i).2)), some (.int (nI (i + 1)))] [] 0 0 d (okN sp c0) X := fun hb => by
        rw [if_neg hb] at es
        have := ih (i + 1) d (by omega) km sd (by rw [es]; exact hd)
        rw [es] at this
        exact this
      refine mk_X9_fall_58 sd ?_
      rw [hd.2.2.2.1.1, nI_clamp (show i < 2 ^ 31 by omega), i1, nI_1, nI_1]
      refine ⟨fun z => absurd z (nI_ge hiI (by omega)), fun _ => ⟨vp_in_nI (by omega) (by omega), fun z => m_leansIssue sd hd.2.1 wk (i3 (by rw [z]; decide)) (by omega) rfl h1 (by omega) ⟨_, rfl, fun z2 => no (fun hb => ?_), fun z2 => ?_⟩, fun z => no (fun hb => z (onS_J hb))⟩⟩
      · unfold onS at hb
        have := (Bool.and_eq_true _ _ ▸ hb : _ ∧ _).2
        rw [this] at z2
        exact absurd z2 (by decide)
      · have hb : onS (mFalls M ru i).1 ru i = true := by
          cases h : ilE (mX (mFalls M ru i).1) i ru (mR (mFalls M ru i).1) with
          | true => unfold onS; rw [h, decide_eq_true z]; rfl
          | false => rw [h] at z2; exact absurd rfl z2
        rw [if_pos hb] at es
        refine m_recalls sd hd wk hiI z rfl h1 hru (fun d2 km2 hd2 => ⟨rfl, ?_⟩)
        have := ih (i + 1) d2 (by omega) (km.trans km2) (km2.sl sd) (by rw [es]; exact hd2)
        rw [es] at this
        exact this
  exact loop (mI M) 0 c (by omega) km0 s hR
theorem m_fall (s : sl c 21 0 0 e) (hR : RF c M) (w : wfM M t) : wc g (wp_X9_fall g) c [.ref e, .int x] (okN (spFall M x) c) X := by
  have b6 := w.2.1.1
  refine mk_X9_fall_0 s (m_isOwn s hR.2.2.1 (fun h => ⟨_, rfl, fun _ => mk_X9_fails_0 s ⟨_, rfl, lF (no1 h) rfl kM_rfl hR⟩, fun q => absurd rfl q⟩) (fun u hu hx => ⟨_, rfl, fun q => absurd q (by decide), fun _ => ?_⟩))
  have e1 : spFall M x = _ := atw hx hu (by omega)
  have hb : cexO (mO M u) < 2 ^ 31 := lcx_31 4 3 (by omega) (by omega)
  have ex : x - 10 = nI u := by
    have := pk_sub (a := 10 + u) (b := 10) (by omega)
    rw [show 10 + u - 10 = u by omega] at this
    rw [hx]
    exact this
  have v6 := vp_in_nI (show u < 6 by omega) (by omega)
  refine m_leastAgainst s ex (hR.2.2.1.1.2.2 u hu).1 (fun d hd => ⟨_, rfl, fun q => ?_, fun q => ?_⟩)
  · exact mk_X9_fails_0 (hd.sl s) ⟨_, rfl, lF (e1.trans (if_pos (Or.inl ((nI_eq (b := 0) hb (by omega)).mp q)))) rfl (kM_fr hd (fun f i z => by unfold pSt at z; omega)) (RF_scr hd (fun f i z => by unfold pSt at z; omega) hR)⟩
  · have km : kM c d := kM_fr hd (fun f i z => by unfold pSt at z; omega)
    have hRd : RF d M := RF_scr hd (fun f i z => by unfold pSt at z; omega) hR
    have v17 := (hRd.2.2.1.1.2.2 u hu).2
    rw [ex, nI_clamp (by omega), v17]
    refine ⟨v6, fun z => mk_X9_fails_0 (hd.sl s) ⟨_, rfl, lF (e1.trans (if_pos (Or.inr ?_))) rfl km hRd⟩, fun z => ⟨v6, ?_⟩⟩
    · cases h : (mO M u).2.2.2.2 with
      | false => rfl
      | true => rw [h] at z; exact absurd z (by decide)
    · have e2 := e1.trans (if_neg fun w => w.elim (fun w => q (by show nI (cexO (mO M u)) = 0; rw [w]; rfl)) (fun w => z (by rw [w]; rfl)))
      have hf : fm (fun f i j => f = 880 ∧ i = 17 ∧ j = u) d (cset d 880 17 u 1) := fm_rfl.set (by omega)
      have hh := hf.2.2.2.2
      have h0 : RF (cset d 880 17 u 1) (mFall0 M u) := by
        obtain ⟨d1, d2, ⟨⟨r1, r2, r3⟩, r4⟩, d4, d5, d6⟩ := hRd
        refine ⟨d1, RFR_fm (M := M) hf (w36 (M := M) w) (fun f i j z => by omega) d2, ⟨⟨r1, r2, fun k hk => ?_⟩, fun k h3 h4 => ?_⟩, RFI_fm (M := M) hf (fun f i j z => by omega) d4, RFU_fm (M := M) hf (fun f i j z => by omega) d5, d6⟩
        · have r3k := r3 k hk
          show OvM _ k (upF (mO M) u (fl (mO M u)) k).1 (upF (mO M) u (fl (mO M u)) k).2.2.1 (upF (mO M) u (fl (mO M u)) k).2.1 (upF (mO M) u (fl (mO M u)) k).2.2.2.1 ∧ _ = (if (upF (mO M) u (fl (mO M u)) k).2.2.2.2 then 0 else 1)
          have hO : OvM (cset d 880 17 u 1) k (mO M k).1 (mO M k).2.2.1 (mO M k).2.1 (mO M k).2.2.2.1 := by
            have := r3k.1
            unfold OvM at this ⊢
            rw [hh 880 13 k (by omega), hh 880 14 k (by omega), hh 880 15 k (by omega), hh 880 16 k (by omega)]
            exact this
          by_cases hk' : k = u
          · rw [hk', upF_at, cS_at]
            rw [hk'] at hO
            exact ⟨hO, rfl⟩
          · rw [upF_ne hk', cS_ne (by omega)]
            exact ⟨hO, r3k.2⟩
        · have h3' : mW M ≤ k := h3
          rw [hh 880 17 k (by omega)]
          exact r4 k h3 h4
      exact m_fallLoop (M := mFall0 M u) (hf.sl (hd.sl s)) h0 (w_fall0 w) hx (by omega) c (km.trans (kM_fm hf (fun f i j z => by omega))) e2
end
