section
variable {g : Nat → Nat} {c : cc_C} {M : cc_M} {a e t : Nat} {x y : Int32} {X : String → cc_C → Prop}
theorem mRecall_X {i ru : Nat} : mX (mRecall M i ru) = sdF (bk (mW M) (mO M) ru) (mX M) i (mR M) := rfl
theorem mRecall_J {i ru : Nat} : mJ (mRecall M i ru) = upF (mJ M) i (114, (mJ M i).2) ∧ mI (mRecall M i ru) = mI M ∧ mW (mRecall M i ru) = mW M ∧ mO (mRecall M i ru) = mO M ∧ mU (mRecall M i ru) = mU M ∧ mR (mRecall M i ru) = mR M := by
  have hs := sameU_pay (M := mRec0 M i) (i := i) (p := (mJ M i).2) (mU M)
  refine ⟨?_, ?_, ?_, ?_, hs.2.2.2, rfl⟩
  · show (mPay (mRec0 M i) i (mJ M i).2 (mU M)).2.2.1.2 = _
    rw [hs.2.2.1]
    rfl
  · show (mPay (mRec0 M i) i (mJ M i).2 (mU M)).2.2.1.1 = _
    rw [hs.2.2.1]
    rfl
  · show (mPay (mRec0 M i) i (mJ M i).2 (mU M)).2.1.1 = _
    rw [hs.2.1]
    rfl
  · show (mPay (mRec0 M i) i (mJ M i).2 (mU M)).2.1.2 = _
    rw [hs.2.1]
    rfl
theorem w_recall {i ru : Nat} (w : wfM M t) (hi : i < mI M) (hJ : (mJ M i).1 = 115) : wfM (mRecall M i ru) t := by
  obtain ⟨eJ, eI, eW, eO, eU, eR⟩ := mRecall_J (M := M) (i := i) (ru := ru)
  have hU := wU_pay (M := mRec0 M i) (i := i) (p := (mJ M i).2) (t := t) w.2.2.2.1 (mU M) (Nat.le_refl _)
  unfold wfM
  rw [eJ, eI, eW, eO, eR, mRecall_X]
  refine ⟨⟨w.1.1, fun r hr => ?_⟩, w.2.1, ⟨w.2.2.1.1, fun k hk => ?_⟩, hU, w.2.2.2.2⟩
  · have wr := w.1.2 r hr
    by_cases h : rdI (mX M r) = i + 1
    · have e : sdF (bk (mW M) (mO M) ru) (mX M) i (mR M) r = bk (mW M) (mO M) ru (mX M r) := if_pos ⟨hr, h⟩
      rw [e]
      have wb := wfB_bk (ru := ru) (wfB_of w.2.2.1.1 wr) w.2.1
      have hz : rdZ (bk (mW M) (mO M) ru (mX M r)) = 98 ∧ rdO (bk (mW M) (mO M) ru (mX M r)) = 1 ∨ rdZ (bk (mW M) (mO M) ru (mX M r)) = 104 := by
        by_cases ho : rdO (if rdLn (mX M r) ru = true then prv (mW M) (mO M) (noI (mX M r)) else noI (mX M r)) = 1
        · exact Or.inl ⟨if_pos ho, ho⟩
        · exact Or.inr (if_neg ho)
      have hI : rdI (bk (mW M) (mO M) ru (mX M r)) = 0 := by
        unfold bk
        split <;> rfl
      refine ⟨wb.1, ?_, wb.2.1, ⟨by rw [hI]; exact Nat.zero_le _, ⟨fun q => absurd hI q, fun q => ?_⟩, fun q => absurd hI q⟩, fun q => ?_⟩
      · rcases hz with z | z
        · exact Or.inr (Or.inr (Or.inr (Or.inr (Or.inl z.1))))
        · exact Or.inr (Or.inr (Or.inr (Or.inr (Or.inr z))))
      · exfalso
        rcases hz with z | z <;> rcases q with q | q
        · exact absurd (z.1.symm.trans q) (by decide)
        · exact absurd (z.1.symm.trans q) (by decide)
        · exact absurd (z.symm.trans q) (by decide)
        · exact absurd (z.symm.trans q) (by decide)
      · rcases hz with z | z
        · exact z.2
        · rcases q with q | q | q | q <;> exact absurd (z.symm.trans q) (by decide)
    · have e : sdF (bk (mW M) (mO M) ru) (mX M) i (mR M) r = mX M r := if_neg fun z => h z.2
      rw [e]
      refine ⟨wr.1, wr.2.1, wr.2.2.1, ⟨wr.2.2.2.1.1, wr.2.2.2.1.2.1, fun z => ?_⟩, wr.2.2.2.2⟩
      rw [upF_ne (by omega)]
      exact wr.2.2.2.1.2.2 z
  · by_cases hki : k = i
    · rw [hki, upF_at]
      exact ⟨Or.inr (Or.inr rfl), (w.2.2.1.2 i hi).2⟩
    · rw [upF_ne hki]
      exact w.2.2.1.2 k hk
theorem onS_J {ru i : Nat} (h : onS M ru i = true) : (mJ M i).1 = 115 := by
  unfold onS at h
  exact of_decide_eq_true (Bool.and_eq_true _ _ ▸ h : _ ∧ _).1
theorem same_falls {ru : Nat} : ∀ k, mR (mFalls M ru k).1 = mR M ∧ mI (mFalls M ru k).1 = mI M ∧ mW (mFalls M ru k).1 = mW M ∧ mO (mFalls M ru k).1 = mO M ∧ mU (mFalls M ru k).1 = mU M
  | 0 => ⟨rfl, rfl, rfl, rfl, rfl⟩
  | k + 1 => by
    have ih := same_falls (ru := ru) k
    rw [mFalls_s]
    split
    · obtain ⟨eJ, eI, eW, eO, eU, eR⟩ := mRecall_J (M := (mFalls M ru k).1) (i := k) (ru := ru)
      exact ⟨eR.trans ih.1, eI.trans ih.2.1, eW.trans ih.2.2.1, eO.trans ih.2.2.2.1, eU.trans ih.2.2.2.2⟩
    · exact ih
theorem w_falls {ru : Nat} (w : wfM M t) : ∀ k, k ≤ mI M → wfM (mFalls M ru k).1 t
  | 0, _ => w
  | k + 1, hk => by
    have ih := w_falls (ru := ru) w k (by omega)
    have hs := same_falls (M := M) (ru := ru) k
    rw [mFalls_s]
    split
    · rename_i h
      exact w_recall ih (by omega) (onS_J h)
    · exact ih
theorem mFalls_2 {ru : Nat} : ∀ k, (mFalls M ru k).2 ≤ k
  | 0 => Nat.le_refl 0
  | k + 1 => by
    have ih := mFalls_2 (ru := ru) k
    rw [mFalls_s]
    split
    · show (mFalls M ru k).2 + 1 ≤ k + 1
      omega
    · omega
theorem recall_eq {i ru : Nat} : sX (mPay (mRec0 M i) i (mJ M i).2 (mU M)) (mR (mPay (mRec0 M i) i (mJ M i).2 (mU M))) (sdF (bk (mW (mPay (mRec0 M i) i (mJ M i).2 (mU M))) (mO (mPay (mRec0 M i) i (mJ M i).2 (mU M))) ru) (mX (mPay (mRec0 M i) i (mJ M i).2 (mU M))) i (mR (mPay (mRec0 M i) i (mJ M i).2 (mU M)))) = mRecall M i ru := by
  have hs := sameU_pay (M := mRec0 M i) (i := i) (p := (mJ M i).2) (mU M)
  have e1 : mR (mPay (mRec0 M i) i (mJ M i).2 (mU M)) = mR M := by
    show (mPay (mRec0 M i) i (mJ M i).2 (mU M)).1.1 = _
    rw [hs.1]
    rfl
  have e2 : mX (mPay (mRec0 M i) i (mJ M i).2 (mU M)) = mX M := by
    show (mPay (mRec0 M i) i (mJ M i).2 (mU M)).1.2 = _
    rw [hs.1]
    rfl
  have e3 : mW (mPay (mRec0 M i) i (mJ M i).2 (mU M)) = mW M := by
    show (mPay (mRec0 M i) i (mJ M i).2 (mU M)).2.1.1 = _
    rw [hs.2.1]
    rfl
  have e4 : mO (mPay (mRec0 M i) i (mJ M i).2 (mU M)) = mO M := by
    show (mPay (mRec0 M i) i (mJ M i).2 (mU M)).2.1.2 = _
    rw [hs.2.1]
    rfl
  rw [e1, e2, e3, e4]
  rfl
theorem wB_pay {i : Nat} (w : wB M) : wB (mPay (mRec0 M i) i (mJ M i).2 (mU M)) := by
  have hs := sameU_pay (M := mRec0 M i) (i := i) (p := (mJ M i).2) (mU M)
  unfold wB mR mX mW mO
  rw [hs.1, hs.2.1]
  exact w
theorem s_fallLoop {u : Nat} {sp : cc_Sp} {x1 : Int32} (s : sl c 0 0 0 a) (hC : CL c M) (w : wfM M t) (v14 : cV c 14 u 0) (h1 : x1 = nI (10 + u)) (hu : u < 6) (c0 : cc_C) (kc0 : kC c0 c) (l : List String) (hsp : sp = (0, nI (mFalls M (10 + u) (mI M)).2, mLose (mFalls M (10 + u) (mI M)).1 (10 + u) (mR M))) : ec g tb_X8_fall 40 [some (.ref a), some (.int x1), some (.ref (cA c 14 u 0)), some (.int 0), some (.int 0)] [] 1 6 c (okC sp c0) (okX l sp c0) := by
  have b12 := w.2.2.1.1
  have s14 : sl c 14 u 0 (cA c 14 u 0) := ⟨v14, rfl⟩
  have loop : ∀ (n i : Nat) (d : cc_C), i + n = mI M → kC c0 d → kS c d → CL d (mFalls M (10 + u) i).1 → ec g tb_X8_fall 40 [some (.ref a), some (.int x1), some (.ref (cA c 14 u 0)), some (.int (nI (mFalls M (10 + u) i).2)), some (.int (nI i))] [] 1 6 d (okC sp c0) (okX l sp c0) := by
    intro n
    induction n with
    | zero =>
      intro i d hi kc ks hd
      obtain rfl : i = mI M := by omega
      refine ec_cw fun hw => ?_
      have kd := kd_ok hw (ks.sl s).1
      have hs := same_falls (M := M) (ru := 10 + u) (mI M)
      have wk := w_falls (ru := 10 + u) w (mI M) (Nat.le_refl _)
      refine mk_X8_fall_40 (ks.sl s) (ks.sl s14) ⟨⟨by omega, by omega⟩, s_size ⟨kd.2.2.1, rfl⟩ ⟨_, rfl, fun _ => ⟨⟨by omega, by omega⟩, s_loseProofs (ks.sl s) hd (wB_of wk) h1 (by omega) (fun d2 kc2 ks2 hd2 => ⟨rfl, ⟨by omega, by omega⟩, ?_⟩)⟩, fun z => absurd ?_ z⟩⟩
      · rw [hs.1] at hd2
        exact lC hsp rfl (kc.trans kc2) hd2
      · rw [hd.2.2.2.1.1, hs.2.1]
        exact nI_le (Nat.le_refl _) (by omega)
    | succ n ih =>
      intro i d hi kc ks hd
      refine ec_cw fun hw => ?_
      have kd := kd_ok hw (ks.sl s).1
      have hs := same_falls (M := M) (ru := 10 + u) i
      have wk := w_falls (ru := 10 + u) w i (by omega)
      have hiI : i < mI (mFalls M (10 + u) i).1 := by omega
      have b20 := wk.1.1
      obtain ⟨i1, i2, i3⟩ := hd.2.2.2.1.2.2.1 i hiI
      have e := mFalls_s (M := M) (ru := 10 + u) (i := i)
      have hlt : nI i < cS d 42 2 0 := by
        rw [hd.2.2.2.1.1]
        exact nI_lt hiI (by omega)
      refine mk_X8_fall_40 (ks.sl s) (ks.sl s14) ⟨⟨by omega, by omega⟩, s_size ⟨kd.2.2.1, rfl⟩ ⟨_, rfl, fun z => ?_, fun _ => ⟨⟨by omega, by omega⟩, s_get (e := i) ⟨kd.2.2.1, rfl⟩ rfl hlt (by omega) ⟨_, i, rfl, ⟨i1, rfl⟩, ⟨by omega, by omega⟩, s_isOnSaleBy (ks.sl s) hd b20 (wI12 wk) (wS16 wk) hiI h1 (by omega) ⟨_, rfl, fun z => ?_, fun z => ⟨⟨by omega, by omega⟩, s_get (e := i) ⟨kd.2.2.1, rfl⟩ rfl hlt (by omega) ⟨_, i, rfl, ⟨i1, rfl⟩, ⟨by omega, by omega⟩, ?_⟩⟩⟩⟩⟩⟩⟩
      · rw [hd.2.2.2.1.1] at z
        exact absurd z (nI_ge hiI (by omega))
      · have hb : ¬ onS (mFalls M (10 + u) i).1 (10 + u) i = true := fun q => by
          rw [q] at z
          exact absurd z (by decide)
        rw [if_neg hb] at e
        rw [nI_1]
        have := ih (i + 1) d (by omega) kc ks (by rw [e]; exact hd)
        rw [e] at this
        exact this
      · have hb : onS (mFalls M (10 + u) i).1 (10 + u) i = true := by
          cases hb : onS (mFalls M (10 + u) i).1 (10 + u) i with
          | true => rfl
          | false => rw [hb] at z; exact absurd rfl z
        rw [if_pos hb] at e
        have hp := (wk.2.2.1.2 i hiI).2
        have hf : fq (fun f j _ => f = 600 ∧ j = i) d (cset d 600 i 0 114) := fq_rfl.set (by omega)
        have hR0 : CL (cset d 600 i 0 114) (mRec0 (mFalls M (10 + u) i).1 i) := CL_iss hf (fun f i j z => by omega) (cS_at _ _ _ _ _) ((cS_f (by decide)).trans i3) rfl hd
        have kc1 : kC c0 (cset d 600 i 0 114) := kc.trans (kC_fq hf (fun f i j z => by omega))
        have ks1 : kS c (cset d 600 i 0 114) := ⟨hf.1.trans ks.1, hf.2.1.trans ks.2⟩
        have s15 : sl (cset d 600 i 0 114) 15 i 0 (cA d 15 i 0) := ⟨i1, rfl⟩
        have e601 : cS (cset d 600 i 0 114) 601 i 0 = nI (mJ (mFalls M (10 + u) i).1 i).2 := (cS_f (by decide)).trans i3
        have e42 : ∀ d2 : cc_C, ∀ N : cc_M, CL d2 N → mI N = mI (mFalls M (10 + u) i).1 → nI i < cS d2 42 2 0 := fun d2 N h hN => by
          rw [h.2.2.2.1.1, hN]
          exact nI_lt hiI (by omega)
        refine s_get (e := i) ⟨kd.2.2.1, rfl⟩ rfl (e42 _ _ hR0 rfl) (by omega) ⟨_, i, rfl, ⟨i1, rfl⟩, ⟨by omega, by omega⟩, ?_⟩
        refine s_payBack (M := mRec0 (mFalls M (10 + u) i).1 i) (t := t) (ks1.sl s) hR0 wk.2.2.2.1 rfl e601 (by omega) hp (fun d2 kc2 ks2 hd2 => ⟨rfl, ⟨by omega, by omega⟩, ?_⟩)
        have hsp2 := sameU_pay (M := mRec0 (mFalls M (10 + u) i).1 i) (i := i) (p := (mJ (mFalls M (10 + u) i).1 i).2) (mU (mRec0 (mFalls M (10 + u) i).1 i))
        have eI2 : mI (mPay (mRec0 (mFalls M (10 + u) i).1 i) i (mJ (mFalls M (10 + u) i).1 i).2 (mU (mRec0 (mFalls M (10 + u) i).1 i))) = mI (mFalls M (10 + u) i).1 := by
          show (mPay (mRec0 (mFalls M (10 + u) i).1 i) i (mJ (mFalls M (10 + u) i).1 i).2 (mU (mRec0 (mFalls M (10 + u) i).1 i))).2.2.1.1 = _
          rw [hsp2.2.2.1]
          rfl
        have ks2' : kS c d2 := ⟨ks2.1.trans ks1.1, ks2.2.trans ks1.2⟩
        have v15 := (hd2.2.2.2.1.2.2.1 i (by rw [eI2]; exact hiI)).1
        refine wc_cw fun hw2 => ?_
        have kd2 := kd_ok hw2 (ks2'.sl s).1
        refine s_get (e := i) ⟨kd2.2.2.1, rfl⟩ rfl (e42 _ _ hd2 eI2) (by omega) ⟨_, i, rfl, ⟨v15, rfl⟩, ⟨by omega, by omega⟩, ?_⟩
        refine s_takeBack (ks2'.sl s) hd2 (wB_pay (wB_of wk)) (by rw [eI2]; exact hiI) h1 (by omega) (fun d3 kc3 ks3 hd3 => ⟨rfl, ?_⟩)
        have hd3' : CL d3 (mRecall (mFalls M (10 + u) i).1 i (10 + u)) := by
          rw [← recall_eq]
          exact hd3
        rw [nI_1, nI_1]
        have := ih (i + 1) d3 (by omega) ((kc1.trans kc2).trans kc3) ⟨ks3.1.trans ks2'.1, ks3.2.trans ks2'.2⟩ (by rw [e]; exact hd3')
        rw [e] at this
        exact this
  exact loop (mI M) 0 c (by omega) kc0 ⟨rfl, rfl⟩ hC
theorem w_fall0 {u : Nat} (w : wfM M t) : wfM (mFall0 M u) t := by
  refine ⟨w.1, ⟨w.2.1.1, fun k hk => ?_⟩, w.2.2⟩
  show (upF (mO M) u (fl (mO M u)) k).2.1 < 3 ∧ ((upF (mO M) u (fl (mO M u)) k).2.1 = 2 → (upF (mO M) u (fl (mO M u)) k).1 = 109)
  by_cases h : k = u
  · rw [h, upF_at]
    exact w.2.1.2 u (by rw [← h]; exact hk)
  · rw [upF_ne h]
    exact w.2.1.2 k hk
theorem c_fall (s : sl c 0 0 0 a) (hC : CL c M) (w : wfM M t) : wc g (wp_X8_fall g) c [.ref a, .int x] (okC (spFall M x) c) (okX xIU (spFall M x) c) := by
  have b6 := w.2.1.1
  refine mk_X8_fall_0 s (s_findOwnRule s hC.2.2.1 (fun h0 => lX 0 (no1 h0) rfl kC_rfl hC) (fun u hu hx => ?_))
  have e1 : spFall M x = _ := atw hx hu (by omega)
  have hb : cexO (mO M u) < 2 ^ 31 := lcx_31 4 3 (by omega) (by omega)
  obtain ⟨v1, v2⟩ := hC.2.2.1.2.2.1 u hu
  have v561 := (hC.2.2.1.1.2.2 u hu).2.2.2.2
  refine ⟨_, u, rfl, ⟨v1, rfl⟩, ?_⟩
  rw [v2, v561]
  refine ⟨fun q => lX 1 (e1.trans (if_pos (Or.inl ((nI_eq (b := 0) hb (by omega)).mp q)))) rfl kC_rfl hC, fun q => ⟨fun q2 => lX 1 (e1.trans (if_pos (Or.inr ?_))) rfl kC_rfl hC, fun q2 => ?_⟩⟩
  · cases h : (mO M u).2.2.2.2 with
    | false => rfl
    | true => rw [h] at q2; exact absurd q2 (by decide)
  · have e2 := e1.trans (if_neg fun z => z.elim (fun z => q (by rw [z]; rfl)) (fun z => q2 (by rw [z]; rfl)))
    have hf : fr (fun f j => f = 561 ∧ j = u) c (cset c 561 u 0 0) := fr_rfl.set ⟨rfl, rfl⟩
    have hfx : fq (fun f j _ => f = 561 ∧ j = u) c (cset c 561 u 0 0) := fq_rfl.set ⟨rfl, rfl⟩
    have h0 : CL (cset c 561 u 0 0) (mFall0 M u) := by
      obtain ⟨d1, d2, ⟨⟨r1, r2, r3⟩, r4, r5, r6⟩, d4, d5, d6⟩ := hC
      have row : ∀ f, f ≠ 561 → cS (cset c 561 u 0 0) f = cS c f := fun f h => funext fun i => cS_fn (by omega)
      refine ⟨d1, CLR_tr (M := M) (by rw [row 42 (by omega)]) (by rw [row 80 (by omega)]) (fun r hr => CRd_tr id (fun f hf => by rw [row f (by unfold cdR at hf; omega)]) (by rw [row 42 (by omega)]) (by rw [row 80 (by omega)]) (fun z _ => ?_)) (fun _ _ _ q => q) d2, ⟨⟨?_, r2, fun k hk => ?_⟩, ?_, fun k hk => ?_, r6⟩, CLI_tr (M := M) (by rw [row 42 (by omega)]) (by rw [row 80 (by omega)]) (fun i => by rw [row 600 (by omega), row 601 (by omega)]; exact ⟨rfl, rfl⟩) (fun _ => Iff.rfl) d4, CLU_tr (M := M) (by rw [row 42 (by omega)]) (by rw [row 80 (by omega)]) (fun f i hf => by rw [row f (by omega)]) (fun _ => Iff.rfl) (fun _ q => q) d5, d6⟩
      · unfold clC
        rw [row 240 (by omega), row 241 (by omega), row 242 (by omega), row 243 (by omega)]
      · rw [row 42 (by omega)]
        exact r1
      · have r3k := r3 k hk
        show Ov _ _ (upF (mO M) u (fl (mO M u)) k).2.2.1 (nI (upF (mO M) u (fl (mO M u)) k).2.2.2.1) (upF (mO M) u (fl (mO M u)) k).2.1 (upF (mO M) u (fl (mO M u)) k).2.2.2.1 ∧ _ = (upF (mO M) u (fl (mO M u)) k).1 ∧ _ = (upF (mO M) u (fl (mO M u)) k).2.2.1 ∧ _ = nI (upF (mO M) u (fl (mO M u)) k).2.2.2.1 ∧ _ = bI (upF (mO M) u (fl (mO M u)) k).2.2.2.2
        rw [row 560 (by omega), row 563 (by omega), row 564 (by omega), row 565 (by omega)]
        by_cases hk' : k = u
        · rw [hk', upF_at, cS_at]
          rw [hk'] at r3k
          exact ⟨r3k.1, r3k.2.1, r3k.2.2.1, r3k.2.2.2.1, rfl⟩
        · rw [upF_ne hk', cS_ne (by omega)]
          exact r3k
      · unfold cN at r4 ⊢
        rw [row 80 (by omega)]
        exact r4
      · show cV c 14 k 0 ∧ _ = nI (cexO (upF (mO M) u (fl (mO M u)) k))
        rw [row 562 (by omega)]
        by_cases hk' : k = u
        · rw [hk', upF_at]
          exact r5 u hu
        · rw [upF_ne hk']
          exact r5 k hk
    exact s_fallLoop (M := mFall0 M u) (hf.sl s) h0 (w_fall0 w) v1 hx (by omega) c (kC_fr hf (fun f i z => by omega)) xIU e2
theorem w_loses {ru : Nat} (w : wfM M t) : ∀ r, r ≤ mR M → wfM (mLose M ru r) t
  | 0, _ => w
  | r + 1, hr => by
    have ih := w_loses (ru := ru) w r (by omega)
    have hs := (sameX_lose (M := M) (ru := ru) r).1
    rw [mLose_s]
    split
    · refine w_one ih ?_
      have h := ih.1.2 r (by omega)
      have hz : rdZ (ls (mX (mLose M ru r) r)) = 111 := rfl
      exact ⟨h.1, Or.inl rfl, ⟨by show 0 < 4; omega, fun _ => rfl, by show 0 ≤ 36; omega, fun i hi => absurd hi (Nat.not_lt_zero i)⟩, ⟨Nat.zero_le _, ⟨fun z => absurd rfl z, fun z => by rcases z with z | z <;> exact absurd (hz.symm.trans z) (by decide)⟩, fun z => absurd rfl z⟩, fun z => by rcases z with z | z | z | z <;> exact absurd (hz.symm.trans z) (by decide)⟩
    · exact ih
theorem w_fall (w : wfM M t) (ht : t < 512) : wfM (spFall M x).2.2 (t + 1) := by
  unfold spFall ixm
  split
  · exact wf_s w ht
  · rename_i u hu
    try dsimp only
    split
    · exact wf_s w ht
    · have w1 := w_falls (ru := 10 + u) (w_fall0 (u := u) w) (mI M) (Nat.le_refl _)
      have hs := (same_falls (M := mFall0 M u) (ru := 10 + u) (mI M)).1
      exact wf_s (w_loses w1 (mR M) (by rw [hs]; exact Nat.le_refl _)) ht
end
