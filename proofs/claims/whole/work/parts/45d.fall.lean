section
variable {g : Nat → Nat} {c : cc_C} {M : cc_M} {a e t : Nat} {x y : Int32} {X : String → cc_C → Prop}
theorem RF_noI {r i : Nat} (hr : r < mR M) (hI : rdI (mX M r) = i + 1) (hJ : (mJ M i).1 = 114) (hR : RF c M) : RF c (mNoI M r) := by
  obtain ⟨a1, ⟨r1, r2, r3⟩, a3, ⟨b1, b2, b3⟩, a5, a6⟩ := hR
  refine ⟨a1, ⟨r1, fun k hk => ?_, r3⟩, a3, ⟨b1, fun k hk => ⟨(b2 k hk).1, (b2 k hk).2.1, fun z => ?_⟩, b3⟩, a5, a6⟩
  · show RFr c k (upF (mX M) r (noI (mX M r)) k)
    by_cases hkr : k = r
    · rw [hkr, upF_at]
      obtain ⟨z1, z2, z3, z4, z5, z6, z7⟩ := r2 r hr
      exact ⟨z1, z2, z3, z4, z5, z6, fun o => absurd rfl o⟩
    · rw [upF_ne hkr]
      exact r2 k hk
  · refine RFl_X (n := mR M) (n' := mR M) (X := mX M) (X' := upF (mX M) r (noI (mX M r))) (Nat.le_refl _) (fun q hq => ?_) (fun q h1 h2 => absurd h1 (by omega)) ((b2 k hk).2.2 z)
    by_cases hqr : q = r
    · rw [hqr, upF_at]
      refine ⟨fun z2 => ?_, fun z2 => ?_⟩
      · have : (0 : Nat) = k + 1 := z2
        omega
      · have hki : k = i := by omega
        have z' : (mJ M k).1 ≠ 114 := z
        rw [hki] at z'
        exact absurd hJ z'
    · rw [upF_ne hqr]
theorem m_ln2 {R : Option Value → cc_C → Prop} {r ru : Nat} {x : cc_Rd} {x1 x2 : Int32} (s : sl c 21 0 0 e) (h : RFr c r x) (hr : r < 20) (wb : wfB x) (h1 : x1 = nI r) (h2 : x2 = nI ru) (hru : ru < 100) (H : R (some (.int (bI (rdLn x ru)))) c) : wc g (wp_X9_leans g) c [.ref e, .int x1, .int x2] R X :=
  m_leans s hr h1 h2 hru h.2.2.2.2.1 wb.2.1.1 h.2.2.2.2.2.1 wb.2.1.2.2.2 wb.2.1.2.1 H
theorem sdG_at {F : cc_Rd → cc_Rd} {Y : Nat → cc_Rd} {p : Nat → Nat} {k m : Nat} (hk : k < m) (inj : ∀ k k', k < m → k' < m → p k = p k' → k = k') : sdG F Y p k (p k) = Y (p k) := by
  refine if_neg fun z => ?_
  obtain ⟨j, hj, e⟩ := inP_iff.mp z
  have := inj j k (by omega) hk e
  omega
theorem m_back {R : Option Value → cc_C → Prop} {i ru m : Nat} {p : Nat → Nat} {x1 x2 : Int32} (s : sl c 21 0 0 e) (hR : RF c M) (w : wB M) (hi : i < 12) (h1 : x1 = nI i) (h2 : x2 = nI ru) (hru : ru < 100) (hJ : (mJ M i).1 = 114) (hO : ∀ r, r < mR M → rdI (mX M r) = i + 1 → rdO (mX M r) = 1) (f1 : cS c 880 19 i = nI m) (f2 : m ≤ 4) (f3 : ∀ k, k < m → p k < mR M ∧ cS c 880 21 (4 * i + k) = nI (p k) ∧ rdI (mX M (p k)) = i + 1) (f4 : ∀ k k', k < m → k' < m → p k = p k' → k = k') (f5 : ∀ r, r < mR M → rdI (mX M r) = i + 1 → ∃ k, k < m ∧ p k = r) (H : ∀ d, kM c d → RF d (sX M (mR M) (sdF (bk (mW M) (mO M) ru) (mX M) i (mR M))) → R none d) (o4 : Option Value) : ec g tb_X9_recalls 106 [some (.ref e), some (.int x1), some (.int x2), some (.int 0), o4] [] 0 0 c R X := by
  subst h1
  have b20 := w.1
  have ci : (nI i).toNatClampNeg = i := nI_clamp (by omega)
  have v12 := vp_in_nI hi (show 12 < 2 ^ 31 by omega)
  rw [← sdG_end (F := bk (mW M) (mO M) ru) (Y := mX M) (p := p) (i := i) (m := m) (n := mR M) (fun k hk => ⟨(f3 k hk).1, (f3 k hk).2.2⟩) f5] at H
  have loop : ∀ (n k : Nat) (d : cc_C) (o4 : Option Value), k + n = m → kM c d → cS d 880 19 = cS c 880 19 → cS d 880 21 = cS c 880 21 → RF d (sX M (mR M) (sdG (bk (mW M) (mO M) ru) (mX M) p k)) → ec g tb_X9_recalls 106 [some (.ref e), some (.int (nI i)), some (.int x2), some (.int (nI k)), o4] [] 0 0 d R X := by
    intro n
    induction n with
    | zero =>
      intro k d o4 hk km e19 e21 hd
      obtain rfl : k = m := by omega
      refine mk_X9_recalls_106 (km.sl s) ?_
      rw [ci, e19, f1]
      exact ⟨v12, fun _ => H d km hd, fun z => absurd (nI_le (Nat.le_refl _) (by omega)) z⟩
    | succ n ih =>
      intro k d o4 hk km e19 e21 hd
      have hkm : k < m := by omega
      obtain ⟨p1, p2, p3⟩ := f3 k hkm
      have wN : wB (sX M (mR M) (sdG (bk (mW M) (mO M) ru) (mX M) p k)) := ⟨w.1, fun q hq => by
        show wfB (sdG (bk (mW M) (mO M) ru) (mX M) p k q)
        unfold sdG
        split
        · exact wfB_bk (w.2.1 q hq) w.2.2
        · exact w.2.1 q hq, w.2.2⟩
      have eX : mX (sX M (mR M) (sdG (bk (mW M) (mO M) ru) (mX M) p k)) (p k) = mX M (p k) := sdG_at hkm f4
      have eT : mTake (sX M (mR M) (sdG (bk (mW M) (mO M) ru) (mX M) p k)) (p k) ru = sX M (mR M) (sdG (bk (mW M) (mO M) ru) (mX M) p (k + 1)) := by
        rw [mTake_eq, eX, ← sdG_s]
        rfl
      have hr1 := hd.2.1.2.1 (p k) p1
      have cp : (nI (p k)).toNatClampNeg = p k := nI_clamp (by omega)
      have v20 := vp_in_nI (show p k < 20 by omega) (by omega)
      have hN1 : RF d (mNoI (sX M (mR M) (sdG (bk (mW M) (mO M) ru) (mX M) p k)) (p k)) := RF_noI (i := i) p1 (by rw [eX]; exact p3) hJ hd
      have wN1 : wB (mNoI (sX M (mR M) (sdG (bk (mW M) (mO M) ru) (mX M) p k)) (p k)) := wB_up wN (wfB_noI (wN.2.1 _ p1))
      have eN1 : mX (mNoI (sX M (mR M) (sdG (bk (mW M) (mO M) ru) (mX M) p k)) (p k)) (p k) = noI (mX M (p k)) := by
        have : mX (mNoI (sX M (mR M) (sdG (bk (mW M) (mO M) ru) (mX M) p k)) (p k)) (p k) = noI (mX (sX M (mR M) (sdG (bk (mW M) (mO M) ru) (mX M) p k)) (p k)) := mX_up
        rw [this, eX]
      have wm := wB_mid (ru := ru) wN p1
      have hrm : p k < mR (mMid (sX M (mR M) (sdG (bk (mW M) (mO M) ru) (mX M) p k)) (p k) ru) := by
        unfold mMid
        split <;> exact p1
      have fin : ∀ (d1 : cc_C) (z : Int32) (o5 : Option Value), kM c d1 → cS d1 880 19 = cS c 880 19 → cS d1 880 21 = cS c 880 21 → RF d1 (mMid (sX M (mR M) (sdG (bk (mW M) (mO M) ru) (mX M) p k)) (p k) ru) → (if rdO (mX (mMid (sX M (mR M) (sdG (bk (mW M) (mO M) ru) (mX M) p k)) (p k) ru) (p k)) = 1 then 98 else 104) = z → ec g tb_X9_recalls 106 [some (.ref e), some (.int (nI i)), some (.int x2), some (.int (nI (k + 1))), o5] [] 0 0 (cset d1 880 2 (p k) z) R X := by
        intro d1 z o5 km1 h19 h21 hd1 hz
        have key := RF_setZ (r := p k) (z := z) (wB36 wm) (wB8 wm) hrm hd1
        have eT' := eT
        unfold mTake at eT'
        rw [hz] at eT'
        rw [eT'] at key
        exact ih (k + 1) _ o5 (by omega) (km1.trans (kM_fm (P := fun f i j => f = 880) (fm_rfl.set rfl) (fun f i j q => by omega))) ((cS_fn (by omega)).trans h19) ((cS_fn (by omega)).trans h21) key
      refine mk_X9_recalls_106 (km.sl s) ?_
      rw [ci, e19, f1, e21, show (4 : Int32) * nI i = nI (4 * i) from pk_mul 4 i, nI_add, nI_clamp (show 4 * i + k < 2 ^ 31 by omega), p2, cp, nI_1]
      refine ⟨v12, fun z => absurd z (nI_ge (by omega) (by omega)), fun _ => ⟨vp_in_nI (by omega) (by omega), ?_⟩⟩
      rw [eX] at hr1
      refine m_ln2 (km.sl s) hr1 (by omega) (w.2.1 _ p1) rfl h2 hru ⟨_, rfl, fun z => ⟨v20, ?_⟩, fun z => ?_⟩
      · have hb : ¬ rdLn (mX (sX M (mR M) (sdG (bk (mW M) (mO M) ru) (mX M) p k)) (p k)) ru = true := fun q => by
          rw [eX] at q
          rw [q] at z
          exact absurd z (by decide)
        have em : mMid (sX M (mR M) (sdG (bk (mW M) (mO M) ru) (mX M) p k)) (p k) ru = mNoI (sX M (mR M) (sdG (bk (mW M) (mO M) ru) (mX M) p k)) (p k) := if_neg hb
        refine fin d 98 _ km e19 e21 (by rw [em]; exact hN1) ?_
        rw [em, eN1]
        exact if_pos (hO _ p1 p3)
      · have hb : rdLn (mX (sX M (mR M) (sdG (bk (mW M) (mO M) ru) (mX M) p k)) (p k)) ru = true := by
          rw [eX]
          cases hb : rdLn (mX M (p k)) ru with
          | true => rfl
          | false => rw [hb] at z; exact absurd rfl z
        have em : mMid (sX M (mR M) (sdG (bk (mW M) (mO M) ru) (mX M) p k)) (p k) ru = mMake (mNoI (sX M (mR M) (sdG (bk (mW M) (mO M) ru) (mX M) p k)) (p k)) (p k) := if_pos hb
        have w1r := wN1.2.1 (p k) p1
        have o3 : rdO (mX (mMake (mNoI (sX M (mR M) (sdG (bk (mW M) (mO M) ru) (mX M) p k)) (p k)) (p k)) (p k)) < 4 := by
          rw [← em]
          exact (wm.2.1 _ hrm).2.1.1
        refine m_makeR (M := mNoI (sX M (mR M) (sdG (bk (mW M) (mO M) ru) (mX M) p k)) (p k)) (km.sl s) hN1 (wB36 wN1) (wB8 wN1) b20 p1 rfl w1r.1.1 w1r.1.2.1 w1r.1.2.2.2 wN1.2.2 (fun d1 hfr km1 hR1 => ⟨_, rfl, fun q => ⟨v20, ?_⟩, fun q => ⟨v20, ?_⟩⟩)
        · refine fin d1 98 _ (km.trans km1) ((hfr.row (fun z => by unfold pPn at z; omega)).trans e19) ((hfr.row (fun z => by unfold pPn at z; omega)).trans e21) (by rw [em]; exact hR1) ?_
          rw [em]
          exact if_pos ((nI_eq (b := 1) (by omega) (by omega)).mp q)
        · refine fin d1 104 _ (km.trans km1) ((hfr.row (fun z => by unfold pPn at z; omega)).trans e19) ((hfr.row (fun z => by unfold pPn at z; omega)).trans e21) (by rw [em]; exact hR1) ?_
          rw [em]
          exact if_neg (fun z => q (by rw [z]; rfl))
  refine loop m 0 c o4 (by omega) kM_rfl rfl rfl ?_
  have e0 : sdG (bk (mW M) (mO M) ru) (mX M) p 0 = mX M := funext fun q => if_neg (fun h => absurd (show false = true from h) (by decide))
  rw [e0]
  exact hR
theorem m_pay {R : Option Value → cc_C → Prop} {i p : Nat} {x1 x2 : Int32} (s : sl c 21 0 0 e) (hR : RF c M) (w : wU M t) (w36 : ∀ r, r < mR M → rdk (mX M r) ≤ 36) (h1 : x1 = nI i) (hi : i < mI M) (hi12 : i < 12) (hp : p ≤ 1000) (hJ : (mJ M i).2 = p) (H : ∀ d o4, kM c d → cS d 880 19 = cS c 880 19 → cS d 880 21 = cS c 880 21 → RF d (mPay M i p (mU M)) → ec g tb_X9_recalls 106 [some (.ref e), some (.int x1), some (.int x2), some (.int 0), o4] [] 0 0 d R X) : ec g tb_X9_recalls 10 [some (.ref e), some (.int x1), some (.int x2), some (.int 0), none] [] 0 0 c R X := by
  subst h1
  have b8 := w.1
  have ci : (nI i).toNatClampNeg = i := nI_clamp (by omega)
  have v12 := vp_in_nI hi12 (show 12 < 2 ^ 31 by omega)
  have loop : ∀ (n k : Nat) (d : cc_C) (o4 : Option Value), k + n = mU M → kM c d → cS d 880 19 = cS c 880 19 → cS d 880 21 = cS c 880 21 → RF d (mPay M i p k) → ec g tb_X9_recalls 10 [some (.ref e), some (.int (nI i)), some (.int x2), some (.int (nI k)), o4] [] 0 0 d R X := by
    intro n
    induction n with
    | zero =>
      intro k d o4 hk km e19 e21 hd
      obtain rfl : k = mU M := by omega
      have hs := (sameU_pay (M := M) (i := i) (p := p) (mU M)).2.2.2
      refine mk_X9_recalls_10 (km.sl s) ?_
      rw [hd.2.2.2.2.1.1, hs]
      exact ⟨fun _ => H d o4 km e19 e21 hd, fun z => absurd (nI_le (Nat.le_refl _) (by omega)) z⟩
    | succ n ih =>
      intro k d o4 hk km e19 e21 hd
      have hs := sameU_pay (M := M) (i := i) (p := p) k
      have wk := wU_pay (i := i) (p := p) w k (by omega)
      have hmU := hs.2.2.2
      have hkU : k < mU (mPay M i p k) := by omega
      obtain ⟨u1, u2, u3⟩ := hd.2.2.2.2.1.2.1 k hkU
      have c1 := (wk.2 k hkU).1
      have eI : mI (mPay M i p k) = mI M := by
        show (mPay M i p k).2.2.1.1 = _
        rw [hs.2.2.1]
        rfl
      have eJ : mJ (mPay M i p k) = mJ M := by
        show (mPay M i p k).2.2.1.2 = _
        rw [hs.2.2.1]
        rfl
      have e20 : cS d 880 20 i = nI p := by
        have := (hd.2.2.2.1.2.1 i (by rw [eI]; exact hi)).2.1
        rw [this, eJ, hJ]
      have v8 := vp_in_nI (show k < 8 by omega) (by omega)
      have es := mPay_s (M := M) (i := i) (p := p) (k := k)
      have w36k : ∀ r, r < mR (mPay M i p k) → rdk (mX (mPay M i p k) r) ≤ 36 := by
        unfold mR mX
        rw [hs.1]
        exact w36
      have e20' : ∀ v, cS (cset d 880 22 k v) 880 20 i = nI p := fun v => (cS_ne (by omega)).trans e20
      have eP : ∀ v, cP (cset d 880 22 k v) 2 0 = mP (mPay M i p k) := fun v => hd.2.2.2.2.2
      refine mk_X9_recalls_10 (km.sl s) ?_
      rw [hd.2.2.2.2.1.1, show (12 : Int32) * nI k = nI (12 * k) from pk_mul 12 k, nI_add, nI_clamp (show 12 * k + i < 2 ^ 31 by omega), nI_clamp (show k < 2 ^ 31 by omega), ci, u3 i hi12, u1, e20, nI_l c1, nI_l (show p < 2 ^ 31 by omega), lN_add, nI_add, nI_1, e20', eP, e20', eP]
      have key : (lg_cmp (lN ((mV (mPay M i p k) k).1 + p)) (2147483647 : Int64) ≤ 0) ↔ (mV (mPay M i p k) k).1 + p ≤ 2147483647 := by
        rw [lg_cmp_le]
        exact pk_lLE (b := 2147483647) (by omega) (by omega)
      have fin : ∀ v : Int32, v = nI (pyd (mV (mPay M i p k) k) p).1 → (mV (mPay M i p k) k).2.2 i = true → ∀ o5, ec g tb_X9_recalls 10 [some (.ref e), some (.int (nI i)), some (.int x2), some (.int (nI (k + 1))), o5] [] 0 0 (cpset (cset d 880 22 k v) 2 0 (mP (mPay M i p k) - (nI p).toInt64)) R X := by
        intro v hv hb o5
        rw [if_pos hb] at es
        have hf : fm (fun f i' j => f = 880 ∧ i' = 22 ∧ j = k) d (cpset (cset d 880 22 k v) 2 0 (mP (mPay M i p k) - (nI p).toInt64)) := (fm_rfl.set (by omega)).pset
        refine ih (k + 1) _ o5 (by omega) (km.trans (kM_fm hf (fun f i j z => by omega))) ((funext fun j => hf.2.2.2.2 880 19 j (by omega)).trans e19) ((funext fun j => hf.2.2.2.2 880 21 j (by omega)).trans e21) ?_
        rw [es]
        refine RF_cust (v := pyd (mV (mPay M i p k) k) p) hf (fun f i j z => by omega) w36k hkU ⟨?_, (hf.2.2.2.2 880 23 k (by omega)).trans u2, fun j hj => (hf.2.2.2.2 880 24 _ (by omega)).trans (u3 j hj)⟩ (cP_at _ _ _ _) hd
        exact (cS_at d 880 22 k v).trans hv
      refine ⟨fun z => absurd z (nI_ge hkU (by omega)), fun _ => ⟨vp_in_nI (by omega) (by omega), fun z => ?_, fun z => ?_⟩⟩
      · have hb : ¬ (mV (mPay M i p k) k).2.2 i = true := fun q => by
          rw [q] at z
          exact absurd z (by decide)
        rw [if_neg hb] at es
        exact ih (k + 1) d _ (by omega) km e19 e21 (by rw [es]; exact hd)
      · have hb : (mV (mPay M i p k) k).2.2 i = true := by
          cases hb : (mV (mPay M i p k) k).2.2 i with
          | true => rfl
          | false => rw [hb] at z; exact absurd rfl z
        refine ⟨v8, v12, fun z2 => ⟨v8, v12, v8, v12, fin _ ?_ hb _⟩, fun z2 => ⟨v8, v12, fin _ ?_ hb _⟩⟩
        · have := key.mp z2
          show _ = nI (if 2147483647 < (mV (mPay M i p k) k).1 + p then 2147483647 else (mV (mPay M i p k) k).1 + p)
          rw [if_neg (by omega)]
        · have : ¬ (mV (mPay M i p k) k).1 + p ≤ 2147483647 := fun q => z2 (key.mpr q)
          show _ = nI (if 2147483647 < (mV (mPay M i p k) k).1 + p then 2147483647 else (mV (mPay M i p k) k).1 + p)
          rw [if_pos (by omega)]
          rfl
  exact loop (mU M) 0 c none (by omega) kM_rfl rfl rfl hR
theorem m_recalls {R : Option Value → cc_C → Prop} {i ru : Nat} {x1 x2 : Int32} (s : sl c 21 0 0 e) (hR : RF c M) (w : wfM M t) (hi : i < mI M) (hJ : (mJ M i).1 = 115) (h1 : x1 = nI i) (h2 : x2 = nI ru) (hru : ru < 16) (H : ∀ d, kM c d → RF d (mRecall M i ru) → R none d) : wc g (wp_X9_recalls g) c [.ref e, .int x1, .int x2] R X := by
  have b12 := w.2.2.1.1
  obtain ⟨i1, i2, i3⟩ := hR.2.2.2.1.2.1 i hi
  obtain ⟨m, p, f1, f2, f3, f4, f5⟩ := i3 (by rw [hJ]; decide)
  refine mk_X9_recalls_0 s ?_
  rw [h1, nI_clamp (by omega)]
  have hf : fm (fun f i' j => f = 880 ∧ i' = 18 ∧ j = i) c (cset c 880 18 i 114) := fm_rfl.set (by omega)
  have h0 : RF (cset c 880 18 i 114) (mRec0 M i) := RF_iss hf (fun f i j z => by omega) (w36 w) hi (cS_at _ _ _ _ _) ((cS_ne (by omega)).trans i2) (fun z => absurd rfl z) rfl hR
  refine ⟨vp_in_nI (by omega) (by omega), m_pay (M := mRec0 M i) (t := t) (p := (mJ M i).2) (hf.sl s) h0 w.2.2.2.1 (w36 (M := M) w) rfl hi (by omega) (w.2.2.1.2 i hi).2 (by show (upF (mJ M) i (114, (mJ M i).2) i).2 = _; rw [upF_at]) (fun d o4 km e19 e21 hd => ?_)⟩
  have hs := sameU_pay (M := mRec0 M i) (i := i) (p := (mJ M i).2) (mU M)
  have e1 : mR (mPay (mRec0 M i) i (mJ M i).2 (mU M)) = mR M := by
    show (mPay (mRec0 M i) i (mJ M i).2 (mU M)).1.1 = _
    rw [hs.1]
    rfl
  have e2 : mX (mPay (mRec0 M i) i (mJ M i).2 (mU M)) = mX M := by
    show (mPay (mRec0 M i) i (mJ M i).2 (mU M)).1.2 = _
    rw [hs.1]
    rfl
  have e3 : mJ (mPay (mRec0 M i) i (mJ M i).2 (mU M)) = upF (mJ M) i (114, (mJ M i).2) := by
    show (mPay (mRec0 M i) i (mJ M i).2 (mU M)).2.2.1.2 = _
    rw [hs.2.2.1]
    rfl
  refine m_back (M := mPay (mRec0 M i) i (mJ M i).2 (mU M)) (m := m) (p := p) ((km.sl (hf.sl s))) hd (wB_pay (wB_of w)) (by omega) rfl h2 (by omega) ?_ ?_ ?_ f2 ?_ f4 ?_ (fun d2 km2 hd2 => ?_) o4
  · rw [e3, upF_at]
  · rw [e1, e2]
    intro r hr hrI
    have wr := w.1.2 r hr
    have hz : rdZ (mX M r) = 115 := by
      have h3 := wr.2.2.2.1.2.2 (by omega)
      rw [hrI, show i + 1 - 1 = i by omega, hJ] at h3
      by_cases hz : rdZ (mX M r) = 115
      · exact hz
      · rw [if_neg hz] at h3
        exact absurd h3 (by decide)
    exact wr.2.2.2.2 (Or.inr (Or.inl hz))
  · rw [e19, hf.2.2.2.2 880 19 i (by omega)]
    exact f1
  · rw [e1, e2]
    intro k hk
    rw [e21, hf.2.2.2.2 880 21 _ (by omega)]
    exact f3 k hk
  · rw [e1, e2]
    exact f5
  · rw [recall_eq] at hd2
    exact H d2 (((kM_fm hf (fun f i j z => by omega)).trans km).trans km2) hd2
end
