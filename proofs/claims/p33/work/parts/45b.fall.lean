section
variable {g : Nat → Nat} {c : cc_C} {M : cc_M} {a e t : Nat} {x y : Int32} {X : String → cc_C → Prop}
theorem CL_noI {r : Nat} (hw : cw c) (w8 : ∀ r, r < mR M → rdC (mX M r) ≤ 8) (hC : CL c M) : CL (cset c 126 r 0 0) (mNoI M r) := by
  have hf : fr (fun f j => f = 126 ∧ j = r) c (cset c 126 r 0 0) := fr_rfl.set ⟨rfl, rfl⟩
  refine CL_one (hf.x (Q := fun f j => f = 126 ∧ j = r) (fun f i q _ _ _ => q) (fun f i q => by omega)) hw w8 (fun f i q => ⟨by unfold pRd; omega, q.2⟩) (fun _ hh hk => ?_) hC
  obtain ⟨a1, a2, a3, a4, a5, a6, a7, a8, a9, a10⟩ := hh
  refine ⟨a1, (cS_f (by decide)).trans a2, (cS_f (by decide)).trans a3, a4, (cS_f (by decide)).trans a5, (cS_f (by decide)).trans a6, stC_fr hf (fun f h q => by omega) a7, cS_at _ _ _ _ _, ?_, ?_⟩
  · unfold CRa at a9 ⊢
    rw [hf.row (f := 124) (i := r) (by omega), hf.row (f := 520) (i := r) (by omega)]
    exact a9
  · unfold cN at a10 ⊢
    rw [hf.row (f := 80) (i := r + 4) (by omega)]
    exact a10
theorem wB_mid {r ru : Nat} (w : wB M) (hr : r < mR M) : wB (mMid M r ru) := by
  have w1 : wB (mNoI M r) := wB_up w (wfB_noI (w.2.1 r hr))
  unfold mMid
  split
  · exact wB_up w1 (wfB_prv (w1.2.1 r hr) w1.2.2)
  · exact w1
theorem s_take {r ru : Nat} {d : cc_C} {Q : Int32 → Prop} (hw : cw d) (w : wB M) (hr : r < mR M) (hd : CL d (mMid M r ru)) (H : ∀ z, CL (cset d 125 r 0 z) (mTake M r ru) → Q z) : (cS d 284 r 0 = 119 → Q 98) ∧ (¬ cS d 284 r 0 = 119 → Q 104) := by
  have wm := wB_mid (ru := ru) w hr
  have hrm : r < mR (mMid M r ru) := by
    unfold mMid
    split <;> exact hr
  have h := hd.2.1.2.2.1 r hrm
  rw [h.2.2.2.2.2.1]
  have o4 := (wm.2.1 r hrm).2.1.1
  have key := CL_setZ (r := r) (z := if rdO (mX (mMid M r ru) r) = 1 then 98 else 104) hw (wB8 wm) hd
  refine ⟨fun q => H 98 ?_, fun q => H 104 ?_⟩
  · rw [if_pos ((ltr_119 o4).mp q)] at key
    unfold mTake
    rw [if_pos ((ltr_119 o4).mp q)]
    exact key
  · rw [if_neg (fun z => q ((ltr_119 o4).mpr z))] at key
    unfold mTake
    rw [if_neg (fun z => q ((ltr_119 o4).mpr z))]
    exact key
theorem s_takeBack {R : Option Value → cc_C → Prop} {i ru : Nat} {x1 : Int32} (s : sl c 0 0 0 a) (hC : CL c M) (w : wB M) (hi : i < mI M) (h1 : x1 = nI ru) (hru : ru < 16) (H : ∀ d, kC c d → kS c d → CL d (sX M (mR M) (sdF (bk (mW M) (mO M) ru) (mX M) i (mR M))) → R none d) : wc g (wp_X8_takeBackRiddles g) c [.ref a, .ref (cA c 15 i 0), .int x1] R X := by
  have b20 := w.1
  have s15 : sl c 15 i 0 (cA c 15 i 0) := ⟨(hC.2.2.2.1.2.2.1 i hi).1, rfl⟩
  have loop : ∀ (n r : Nat) (d : cc_C) (o4 : Option Value), r + n = mR M → kC c d → kS c d → CL d (sX M (mR M) (sdF (bk (mW M) (mO M) ru) (mX M) i r)) → ec g tb_X8_takeBackRiddles 2 [some (.ref a), some (.ref (cA c 15 i 0)), some (.int x1), some (.int (nI r)), o4] [] 0 0 d R X := by
    intro n
    induction n with
    | zero =>
      intro r d o4 hr kc ks hd
      obtain rfl : r = mR M := by omega
      refine ec_cw fun hw => ?_
      have kd := kd_ok hw (ks.sl s).1
      refine mk_X8_takeBackRiddles_2 (ks.sl s) (ks.sl s15) (s_size ⟨kd.1, rfl⟩ ⟨_, rfl, fun _ => H d kc ks hd, fun z => absurd ?_ z⟩)
      rw [hd.2.1.1]
      exact nI_le (Nat.le_refl _) (by omega)
    | succ n ih =>
      intro r d o4 hr kc ks hd
      refine ec_cw fun hw => ?_
      have kd := kd_ok hw (ks.sl s).1
      have hr' : r < mR M := by omega
      have wN : wB (sX M (mR M) (sdF (bk (mW M) (mO M) ru) (mX M) i r)) := ⟨w.1, fun q hq => wfB_sdF (fun x hx => wfB_bk hx w.2.2) (w.2.1 q hq), w.2.2⟩
      have h := hd.2.1.2.2.1 r hr'
      have eX : mX (sX M (mR M) (sdF (bk (mW M) (mO M) ru) (mX M) i r)) r = mX M r := sdF_at
      obtain ⟨q1, q2⟩ := iss_is (i := i) h (wBI wN r hr')
      rw [eX] at q1 q2
      have es := sdF_s (F := bk (mW M) (mO M) ru) (Y := mX M) (i := i) (r := r)
      have hlt : nI r < cS d 42 0 0 := by
        rw [hd.2.1.1]
        exact nI_lt hr' (by show mR M < 2 ^ 31; omega)
      have no : rdI (mX M r) ≠ i + 1 → ∀ o5, ec g tb_X8_takeBackRiddles 2 [some (.ref a), some (.ref (cA c 15 i 0)), some (.int x1), some (.int (nI (r + 1))), o5] [] 0 0 d R X := fun hn o5 => ih (r + 1) d o5 (by omega) kc ks (by rw [es, if_neg hn]; exact hd)
      refine mk_X8_takeBackRiddles_2 (ks.sl s) (ks.sl s15) (s_size ⟨kd.1, rfl⟩ ⟨_, rfl, fun z => ?_, fun _ => s_get (e := r) ⟨kd.1, rfl⟩ rfl hlt (by omega) ⟨_, r, rfl, ⟨h.1, rfl⟩, fun z => ⟨fun z2 => ?_, fun z2 => ?_⟩, fun z => ?_⟩⟩)
      · rw [hd.2.1.1] at z
        exact absurd z (nI_ge hr' (by show mR M < 2 ^ 31; omega))
      · have hI := (q2 (fun q => z (q1.mpr q))).mp z2
        rw [if_pos hI] at es
        rw [nI_1]
        have hf : fr (fun f j => f = 126 ∧ j = r) d (cset d 126 r 0 0) := fr_rfl.set ⟨rfl, rfl⟩
        have hN1 : CL (cset d 126 r 0 0) (mNoI (sX M (mR M) (sdF (bk (mW M) (mO M) ru) (mX M) i r)) r) := CL_noI hw (wB8 wN) hd
        have h1' := hN1.2.1.2.2.1 r hr'
        have eN1 : mX (mNoI (sX M (mR M) (sdF (bk (mW M) (mO M) ru) (mX M) i r)) r) r = noI (mX M r) := by
          have : mX (mNoI (sX M (mR M) (sdF (bk (mW M) (mO M) ru) (mX M) i r)) r) r = noI (mX (sX M (mR M) (sdF (bk (mW M) (mO M) ru) (mX M) i r)) r) := mX_up
          rw [this, eX]
        have eT : mTake (sX M (mR M) (sdF (bk (mW M) (mO M) ru) (mX M) i r)) r ru = sX M (mR M) (sdF (bk (mW M) (mO M) ru) (mX M) i (r + 1)) := by
          rw [mTake_eq, eX, es]
          rfl
        have kc1 : kC c (cset d 126 r 0 0) := kc.trans (kC_fr hf (fun f i q => by omega))
        have ks1 : kS c (cset d 126 r 0 0) := ⟨hf.1.trans ks.1, hf.2.1.trans ks.2⟩
        have k7 := (hw.2.2.1 r h.1).2.1
        have fin : ∀ (d1 : cc_C) (o5 : Option Value), cw d1 → kC c d1 → kS c d1 → CL d1 (mMid (sX M (mR M) (sdF (bk (mW M) (mO M) ru) (mX M) i r)) r ru) → ((cS d1 284 r 0 = 119 → ec g tb_X8_takeBackRiddles 2 [some (.ref a), some (.ref (cA c 15 i 0)), some (.int x1), some (.int (nI (r + 1))), o5] [] 0 0 (cset d1 125 r 0 98) R X) ∧ (¬ cS d1 284 r 0 = 119 → ec g tb_X8_takeBackRiddles 2 [some (.ref a), some (.ref (cA c 15 i 0)), some (.int x1), some (.int (nI (r + 1))), o5] [] 0 0 (cset d1 125 r 0 104) R X)) := by
          intro d1 o5 hw1 kc1 ks1 hd1
          refine s_take (Q := fun z => ec g tb_X8_takeBackRiddles 2 [some (.ref a), some (.ref (cA c 15 i 0)), some (.int x1), some (.int (nI (r + 1))), o5] [] 0 0 (cset d1 125 r 0 z) R X) hw1 wN hr' hd1 (fun z hz => ?_)
          rw [eT] at hz
          have hf1 : fr (fun f j => f = 125 ∧ j = r) d1 (cset d1 125 r 0 z) := fr_rfl.set ⟨rfl, rfl⟩
          exact ih (r + 1) _ o5 (by omega) (kc1.trans (kC_fr hf1 (fun f i q => by omega))) ⟨hf1.1.trans ks1.1, hf1.2.1.trans ks1.2⟩ hz
        have hw1 : cw (cset d 126 r 0 0) := cw_iss hw (fun q => absurd rfl q)
        refine s_hasStepBy ⟨k7, rfl⟩ h1'.2.2.2.2.2.2.1 (by rw [eN1]; exact wBS w r hr') h1 hru ⟨_, rfl, fun z3 => ?_, fun z3 => ?_⟩
        · have hb : ¬ rdLn (mX (sX M (mR M) (sdF (bk (mW M) (mO M) ru) (mX M) i r)) r) ru = true := fun q => by
            rw [eX] at q
            have q' : lnS (rdS (mX M r)) ru (rdk (mX M r)) = true := q
            rw [eN1] at z3
            have z3' : bI (lnS (rdS (mX M r)) ru (rdk (mX M r))) = 0 := z3
            rw [q'] at z3'
            exact absurd z3' (by decide)
          exact fin _ _ hw1 kc1 ks1 (by unfold mMid; rw [if_neg hb]; exact hN1)
        · have hb : rdLn (mX (sX M (mR M) (sdF (bk (mW M) (mO M) ru) (mX M) i r)) r) ru = true := by
            cases hb : rdLn (mX (sX M (mR M) (sdF (bk (mW M) (mO M) ru) (mX M) i r)) r) ru with
            | true => rfl
            | false =>
              exfalso
              rw [eX] at hb
              rw [eN1] at z3
              have hb' : lnS (rdS (mX M r)) ru (rdk (mX M r)) = false := hb
              have z3' : ¬ bI (lnS (rdS (mX M r)) ru (rdk (mX M r))) = 0 := z3
              rw [hb'] at z3'
              exact z3' rfl
          have wN1 : wB (mNoI (sX M (mR M) (sdF (bk (mW M) (mO M) ru) (mX M) i r)) r) := wB_up wN (wfB_noI (wN.2.1 r hr'))
          have w1r := wN1.2.1 r hr'
          refine s_makeR (M := mNoI (sX M (mR M) (sdF (bk (mW M) (mO M) ru) (mX M) i r)) r) (hf.sl (ks.sl s)) hN1 (wB8 wN1) hr' w1r.1.1 w1r.1.2.1 w1r.1.2.2.2 wN1.2.2 (fun d1 hd1 hC1 => ⟨rfl, ?_⟩)
          have hwd := hd1.cws (fun i q => by unfold pMk at q; omega) (fun i q => by unfold pMk at q; omega) (fun i q => by unfold pMk at q; omega) hw1
          exact fin d1 _ hwd (kc1.trans (kC_fr hd1 (fun f i q => by unfold pMk at q; omega))) ⟨hd1.1.trans ks1.1, hd1.2.1.trans ks1.2⟩ (by unfold mMid; rw [if_pos hb]; exact hC1)
      · rw [nI_1]
        exact no (fun q => z2 ((q2 (fun q2 => z (q1.mpr q2))).mpr q)) _
      · rw [nI_1]
        exact no (fun q => by rw [q1.mp z] at q; omega) _
  exact mk_X8_takeBackRiddles_0 s s15 (loop (mR M) 0 c none (by omega) kC_rfl ⟨rfl, rfl⟩ (by rw [sdF_0]; exact hC))
theorem sameX_lose {ru : Nat} : ∀ r, mR (mLose M ru r) = mR M ∧ (mLose M ru r).2 = M.2
  | 0 => ⟨rfl, rfl⟩
  | r + 1 => by
    have ih := sameX_lose (ru := ru) r
    rw [mLose_s]
    split
    · exact ih
    · exact ih
theorem wB_lose {ru : Nat} (w : wB M) : ∀ r, r ≤ mR M → wB (mLose M ru r)
  | 0, _ => w
  | r + 1, hr => by
    have ih := wB_lose (ru := ru) w r (by omega)
    have hs := (sameX_lose (M := M) (ru := ru) r).1
    rw [mLose_s]
    split
    · refine wB_up ih ?_
      have h := ih.2.1 r (by omega)
      exact ⟨h.1, ⟨by show 0 < 4; omega, fun _ => rfl, by show 0 ≤ 36; omega, fun i hi => absurd hi (Nat.not_lt_zero i)⟩, Nat.zero_le _⟩
    · exact ih
theorem s_loseProofs {R : Option Value → cc_C → Prop} {ru : Nat} {x1 : Int32} (s : sl c 0 0 0 a) (hC : CL c M) (w : wB M) (h1 : x1 = nI ru) (hru : ru < 16) (H : ∀ d, kC c d → kS c d → CL d (mLose M ru (mR M)) → R none d) : wc g (wp_X8_loseProofsBy g) c [.ref a, .int x1] R X := by
  have b20 := w.1
  have loop : ∀ (n r : Nat) (d : cc_C) (o4 : Option Value), r + n = mR M → kC c d → kS c d → CL d (mLose M ru r) → ec g tb_X8_loseProofsBy 2 [some (.ref a), some (.int x1), some (.int (nI r)), o4] [] 0 0 d R X := by
    intro n
    induction n with
    | zero =>
      intro r d o4 hr kc ks hd
      obtain rfl : r = mR M := by omega
      refine ec_cw fun hw => ?_
      have kd := kd_ok hw (ks.sl s).1
      refine mk_X8_loseProofsBy_2 (ks.sl s) (s_size ⟨kd.1, rfl⟩ ⟨_, rfl, fun _ => H d kc ks hd, fun z => absurd ?_ z⟩)
      rw [hd.2.1.1, (sameX_lose (M := M) (ru := ru) (mR M)).1]
      exact nI_le (Nat.le_refl _) (by omega)
    | succ n ih =>
      intro r d o4 hr kc ks hd
      refine ec_cw fun hw => ?_
      have kd := kd_ok hw (ks.sl s).1
      have hs := (sameX_lose (M := M) (ru := ru) r).1
      have hr' : r < mR (mLose M ru r) := by omega
      have wN := wB_lose (ru := ru) w r (by omega)
      have h := hd.2.1.2.2.1 r hr'
      have e := mLose_s (M := M) (ru := ru) (r := r)
      have k7 := (hw.2.2.1 r h.1).2.1
      refine mk_X8_loseProofsBy_2 (ks.sl s) (s_size ⟨kd.1, rfl⟩ ⟨_, rfl, fun z => ?_, fun _ => s_get (e := r) ⟨kd.1, rfl⟩ rfl (by rw [hd.2.1.1]; exact nI_lt hr' (by omega)) (by omega) ⟨_, r, rfl, ⟨h.1, rfl⟩, s_hasStepBy ⟨k7, rfl⟩ h.2.2.2.2.2.2.1 (wBS wN r hr') h1 hru ⟨_, rfl, fun z => ?_, fun z => mk_X6_lose_0 ⟨k7, rfl⟩ ⟨rfl, ?_⟩⟩⟩⟩)
      · rw [hd.2.1.1] at z
        exact absurd z (nI_ge hr' (by omega))
      · have hb : ¬ rdLn (mX (mLose M ru r) r) ru = true := fun q => by
          have q' : lnS (rdS (mX (mLose M ru r) r)) ru (rdk (mX (mLose M ru r) r)) = true := q
          rw [q'] at z
          exact absurd z (by decide)
        rw [if_neg hb] at e
        rw [nI_1]
        exact ih (r + 1) d _ (by omega) kc ks (by rw [e]; exact hd)
      · have hb : rdLn (mX (mLose M ru r) r) ru = true := by
          cases hb : rdLn (mX (mLose M ru r) r) ru with
          | true => rfl
          | false =>
            exfalso
            have hb' : lnS (rdS (mX (mLose M ru r) r)) ru (rdk (mX (mLose M ru r) r)) = false := hb
            rw [hb'] at z
            exact z rfl
        rw [if_pos hb] at e
        rw [nI_1]
        have hf : fr (fun f j => j = r ∧ (f = 283 ∨ f = 284 ∨ f = 286 ∨ f = 125 ∨ f = 126)) d (cset (cset (cset (cset (cset d 283 r 0 0) 284 r 0 45) 286 r 0 0) 125 r 0 111) 126 r 0 0) := ((((fr_rfl.set (by omega)).set (by omega)).set (by omega)).set (by omega)).set (by omega)
        refine ih (r + 1) _ _ (by omega) (kc.trans (kC_fr hf (fun f i q => by omega))) ⟨hf.1.trans ks.1, hf.2.1.trans ks.2⟩ ?_
        rw [e]
        refine CL_one (hf.x (Q := fun f j => j = r ∧ (f = 283 ∨ f = 284 ∨ f = 286 ∨ f = 125 ∨ f = 126)) (fun f i q _ _ _ => q) (fun f i q => by omega)) hw (wB8 wN) (fun f i q => ⟨by unfold pRd; omega, q.1⟩) (fun _ hh hk => ?_) hd
        obtain ⟨a1, a2, a3, a4, a5, a6, a7, a8, a9, a10⟩ := hh
        have row : ∀ f i, ¬ (i = r ∧ (f = 283 ∨ f = 284 ∨ f = 286 ∨ f = 125 ∨ f = 126)) → cS (cset (cset (cset (cset (cset d 283 r 0 0) 284 r 0 45) 286 r 0 0) 125 r 0 111) 126 r 0 0) f i = cS d f i := fun f i hn => hf.row hn
        refine ⟨a1, ?_, ?_, a4, ?_, ?_, ⟨?_, by show 0 ≤ 36; omega, fun i hi => absurd hi (Nat.not_lt_zero i), ?_⟩, cS_at _ _ _ _ _, ?_, ?_⟩
        · rw [row 120 r (by omega)]; exact a2
        · rw [row 42 (r + 4) (by omega)]; exact a3
        · rw [cS_f (by decide), cS_at]; rfl
        · rw [cS_f (by decide), cS_f (by decide), cS_f (by decide), cS_at]; rfl
        · rw [cS_f (by decide), cS_f (by decide), cS_f (by decide), cS_f (by decide), cS_at]; rfl
        · rw [cS_f (by decide), cS_f (by decide), cS_at]; rfl
        · unfold CRa at a9 ⊢
          rw [row 124 r (by omega), row 520 r (by omega)]
          exact a9
        · unfold cN at a10 ⊢
          rw [row 80 (r + 4) (by omega)]
          exact a10
  exact mk_X8_loseProofsBy_0 s (loop (mR M) 0 c none (by omega) kC_rfl ⟨rfl, rfl⟩ hC)
end
