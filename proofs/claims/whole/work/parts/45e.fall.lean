/-! the reference loses proofs -/
def pop (p : Nat → Nat) (k0 : Nat) : Nat → Nat := fun k => if k < k0 then p k else p (k + 1)
section
variable {g : Nat → Nat} {c : cc_C} {M : cc_M} {a e t : Nat} {x y : Int32} {X : String → cc_C → Prop}
theorem m_takesOut {R : Option Value → cc_C → Prop} {i r m k0 : Nat} {p : Nat → Nat} {x1 : Int32} (s : sl c 21 0 0 e) (h1 : x1 = nI r) (hr : r < 20) (hi : i < 12) (h5 : cS c 880 5 r = nI i) (f1 : cS c 880 19 i = nI m) (f2 : m ≤ 4) (f3 : ∀ k, k < m → p k < 20 ∧ cS c 880 21 (4 * i + k) = nI (p k)) (f4 : ∀ k k', k < m → k' < m → p k = p k' → k = k') (hk0 : k0 < m) (hp : p k0 = r) (H : ∀ d, fm (fun f i' j => f = 880 ∧ ((i' = 19 ∧ j = i) ∨ (i' = 21 ∧ 4 * i ≤ j ∧ j < 4 * i + 4))) c d → cP d = cP c → cS d 880 19 i = nI (m - 1) → (∀ k, k < m - 1 → cS d 880 21 (4 * i + k) = nI (pop p k0 k)) → R none d) : wc g (wp_X9_takesOut g) c [.ref e, .int x1] R X := by
  subst h1
  have ci : (nI i).toNatClampNeg = i := nI_clamp (by omega)
  have v12 := vp_in_nI hi (show 12 < 2 ^ 31 by omega)
  have loop : ∀ (n k : Nat) (d : cc_C) (o5 : Option Value), k + n = m → fm (fun f i' j => f = 880 ∧ ((i' = 19 ∧ j = i) ∨ (i' = 21 ∧ 4 * i ≤ j ∧ j < 4 * i + 4))) c d → cP d = cP c → cS d 880 19 i = nI m → (∀ j, j < m → cS d 880 21 (4 * i + j) = nI (if j < (if k ≤ k0 then k else k - 1) then pop p k0 j else p j)) → ec g tb_X9_takesOut 12 [some (.ref e), some (.int (nI r)), some (.int (nI i)), some (.int (nI (if k ≤ k0 then k else k - 1))), some (.int (nI k)), o5] [] 0 0 d R X := by
    intro n
    induction n with
    | zero =>
      intro k d o5 hk hd hPd h19 h21
      obtain rfl : k = m := by omega
      refine mk_X9_takesOut_12 (hd.sl s) ?_
      rw [ci, h19]
      refine ⟨v12, fun _ => ⟨v12, H _ (hd.set (by omega)) hPd ?_ (fun j hj => ?_)⟩, fun z => absurd (nI_le (Nat.le_refl _) (by omega)) z⟩
      · rw [cS_at, if_neg (by omega)]
      · rw [cS_ne (by omega), h21 j (by omega), if_neg (show ¬ k ≤ k0 by omega), if_pos hj]
    | succ n ih =>
      intro k d o5 hk hd hPd h19 h21
      have hkm : k < m := by omega
      obtain ⟨p1, p2⟩ := f3 k hkm
      have rowk : cS d 880 21 (4 * i + k) = nI (p k) := by
        rw [h21 k hkm, if_neg (by split <;> omega)]
      have at_le : (if k ≤ k0 then k else k - 1) ≤ k := by split <;> omega
      refine mk_X9_takesOut_12 (hd.sl s) ?_
      rw [ci, h19, show (4 : Int32) * nI i = nI (4 * i) from pk_mul 4 i, nI_add, nI_add, nI_clamp (show 4 * i + k < 2 ^ 31 by omega), nI_clamp (show 4 * i + (if k ≤ k0 then k else k - 1) < 2 ^ 31 by omega), rowk, nI_1, nI_1]
      refine ⟨v12, fun z => absurd z (nI_ge (by omega) (by omega)), fun _ => ⟨vp_in_nI (by omega) (by omega), fun z => ?_, fun z => ⟨vp_in_nI (by omega) (by omega), ?_⟩⟩⟩
      · have hkk : k = k0 := f4 k k0 hkm hk0 (((nI_eq (by omega) (by omega)).mp z).trans hp.symm)
        have := ih (k + 1) d (some (.int (nI (p k)))) (by omega) hd hPd h19 (fun j hj => by
          rw [h21 j hj, if_pos (show k ≤ k0 by omega), if_neg (show ¬ k + 1 ≤ k0 by omega), show k + 1 - 1 = k by omega])
        rw [if_neg (show ¬ k + 1 ≤ k0 by omega), show k + 1 - 1 = k by omega] at this
        rw [if_pos (show k ≤ k0 by omega)]
        exact this
      · have hkk : k ≠ k0 := fun q => z (by rw [q, hp])
        have e2 : (if k ≤ k0 then k else k - 1) + 1 = (if k + 1 ≤ k0 then k + 1 else k + 1 - 1) := by
          split <;> split <;> omega
        have := ih (k + 1) (cset d 880 21 (4 * i + (if k ≤ k0 then k else k - 1)) (nI (p k))) (some (.int (nI (p k)))) (by omega) (hd.set (by omega)) hPd ((cS_ne (by omega)).trans h19) (fun j hj => by
          rw [← e2]
          by_cases hja : j = (if k ≤ k0 then k else k - 1)
          · rw [hja, cS_at, if_pos (by omega)]
            unfold pop
            by_cases hlt : k < k0
            · rw [if_pos (show k ≤ k0 by omega), if_pos hlt]
            · rw [if_neg (show ¬ k ≤ k0 by omega), if_neg (by omega), show k - 1 + 1 = k by omega]
          · rw [cS_ne (by omega), h21 j hj]
            by_cases hjl : j < (if k ≤ k0 then k else k - 1)
            · rw [if_pos hjl, if_pos (by omega)]
            · rw [if_neg hjl, if_neg (by omega)])
        rw [e2]
        exact this
  refine mk_X9_takesOut_0 s ?_
  rw [nI_clamp (by omega), h5]
  refine ⟨vp_in_nI hr (by omega), ?_⟩
  have := loop m 0 c none (by omega) fm_rfl rfl f1 (fun j hj => by
    rw [(f3 j hj).2, if_neg (by rw [if_pos (Nat.zero_le _)]; omega)])
  rw [if_pos (Nat.zero_le _)] at this
  exact this
theorem RF_lose {d : cc_C} {r : Nat} (w : wfM M t) (hr : r < mR M) (hR : RF c M) (hz : rdZ (mX M r) ≠ 115) (hd : fm (fun f i' j => f = 880 ∧ ((i' = 19 ∧ j = rdI (mX M r) - 1) ∨ (i' = 21 ∧ 4 * (rdI (mX M r) - 1) ≤ j ∧ j < 4 * (rdI (mX M r) - 1) + 4))) c d) (h0 : rdI (mX M r) = 0 → d = c) (h1 : rdI (mX M r) ≠ 0 → ∃ (m k0 : Nat) (p : Nat → Nat), cS c 880 19 (rdI (mX M r) - 1) = nI m ∧ m ≤ 4 ∧ k0 < m ∧ p k0 = r ∧ (∀ k, k < m → p k < mR M ∧ rdI (mX M (p k)) = rdI (mX M r)) ∧ (∀ k k', k < m → k' < m → p k = p k' → k = k') ∧ (∀ q, q < mR M → rdI (mX M q) = rdI (mX M r) → ∃ k, k < m ∧ p k = q) ∧ cS d 880 19 (rdI (mX M r) - 1) = nI (m - 1) ∧ ∀ k, k < m - 1 → cS d 880 21 (4 * (rdI (mX M r) - 1) + k) = nI (pop p k0 k)) (hP : cP d 2 0 = cP c 2 0) : RF (cset (cset d 880 3 r 0) 880 2 r 111) (sX M (mR M) (upF (mX M) r (ls (mX M r)))) := by
  obtain ⟨d1, d2, d3, ⟨j1, j2, j3⟩, d5, d6⟩ := hR
  have b12 := w.2.2.1.1
  have wr := w.1.2 r hr
  have hf : fm (fun f i' j => f = 880 ∧ ((i' = 19 ∧ j = rdI (mX M r) - 1 ∧ rdI (mX M r) ≠ 0) ∨ (i' = 21 ∧ 4 * (rdI (mX M r) - 1) ≤ j ∧ j < 4 * (rdI (mX M r) - 1) + 4 ∧ rdI (mX M r) ≠ 0) ∨ ((i' = 2 ∨ i' = 3) ∧ j = r))) c (cset (cset d 880 3 r 0) 880 2 r 111) := by
    by_cases hI : rdI (mX M r) = 0
    · rw [h0 hI]
      exact (fm_rfl.set (by omega)).set (by omega)
    · exact ((hd.mono (fun f i j z => by omega)).set (by omega)).set (by omega)
  have hh := hf.2.2.2.2
  refine ⟨by rw [hf.2.1]; exact d1, RFR_one (n := 8) hf (fun f i j q => ⟨by omega, fun _ _ => by unfold pOne; omega⟩) (w36 w) (w8 w) hr ?_ d2, RFW_fm (M := M) hf (fun f i j q => by omega) d3, ⟨(hh 872 0 0 (by omega)).trans j1, fun k hk => ?_, fun k h3 h4 => ?_⟩, RFU_fm (M := M) hf (fun f i j q => by omega) d5, hP.trans d6⟩
  · obtain ⟨a1, a2, a3, a4, a5, a6, a7⟩ := d2.2.1 r hr
    refine ⟨(hh 880 0 r (by omega)).trans a1, (hh 880 1 r (by omega)).trans a2, fun k hk => ?_, (cS_at _ _ _ _ _).trans rfl, ((cS_ne (by omega)).trans (cS_at _ _ _ _ _)).trans rfl, fun o => absurd rfl o, fun o => absurd rfl o⟩
    refine Eq.trans ?_ (a3 k hk)
    unfold clM
    rw [hh 880 6 _ (by omega), hh 880 7 _ (by omega), hh 880 8 _ (by omega), hh 880 9 _ (by omega)]
  · obtain ⟨g1, g2, g3⟩ := j2 k hk
    refine ⟨(hh 880 18 k (by omega)).trans g1, (hh 880 20 k (by omega)).trans g2, fun z => ?_⟩
    by_cases hki : rdI (mX M r) = k + 1
    · obtain ⟨m, k0, p, e1, e2, e3, e4, e5, e6, e7, e8, e9⟩ := h1 (by omega)
      rw [hki] at e1 e8 e9
      rw [show k + 1 - 1 = k by omega] at e1 e8 e9
      refine ⟨m - 1, pop p k0, ?_, by omega, fun l hl => ?_, fun l l' hl hl' el => ?_, fun q hq hqi => ?_⟩
      · rw [cS_ne (by omega), cS_ne (by omega)]
        exact e8
      · have hpl : ∃ l', l' < m ∧ l' ≠ k0 ∧ pop p k0 l = p l' := by
          unfold pop
          by_cases hlk : l < k0
          · exact ⟨l, by omega, by omega, if_pos hlk⟩
          · exact ⟨l + 1, by omega, by omega, if_neg hlk⟩
        obtain ⟨l', hl', hne, el⟩ := hpl
        have h5 := e5 l' hl'
        have hpr : p l' ≠ r := fun q => hne (e6 l' k0 hl' e3 (q.trans e4.symm))
        refine ⟨by rw [el]; exact h5.1, ?_, ?_⟩
        · rw [cS_ne (by omega), cS_ne (by omega)]
          exact e9 l hl
        · show rdI (upF (mX M) r (ls (mX M r)) (pop p k0 l)) = k + 1
          rw [el, upF_ne hpr, h5.2, hki]
      · unfold pop at el
        by_cases hlk : l < k0
        · rw [if_pos hlk] at el
          by_cases hlk' : l' < k0
          · rw [if_pos hlk'] at el
            exact e6 l l' (by omega) (by omega) el
          · rw [if_neg hlk'] at el
            have := e6 l (l' + 1) (by omega) (by omega) el
            omega
        · rw [if_neg hlk] at el
          by_cases hlk' : l' < k0
          · rw [if_pos hlk'] at el
            have := e6 (l + 1) l' (by omega) (by omega) el
            omega
          · rw [if_neg hlk'] at el
            have := e6 (l + 1) (l' + 1) (by omega) (by omega) el
            omega
      · have hqi' : rdI (upF (mX M) r (ls (mX M r)) q) = k + 1 := hqi
        by_cases hqr : q = r
        · rw [hqr, upF_at] at hqi'
          exact absurd hqi' (show (0 : Nat) ≠ k + 1 by omega)
        · rw [upF_ne hqr] at hqi'
          obtain ⟨l, hl, el⟩ := e7 q hq (by rw [hqi', hki])
          have hne : l ≠ k0 := fun z => hqr (by rw [← el, z, e4])
          by_cases hlk : l < k0
          · exact ⟨l, by omega, by unfold pop; rw [if_pos hlk]; exact el⟩
          · refine ⟨l - 1, by omega, ?_⟩
            unfold pop
            rw [if_neg (by omega), show l - 1 + 1 = l by omega]
            exact el
    · refine RFl_X (n := mR M) (n' := mR M) (X := mX M) (X' := upF (mX M) r (ls (mX M r))) (Nat.le_refl _) (fun q hq => ?_) (fun q h3 h4 => absurd h3 (by omega)) (RFl_fm hf (by omega) (fun l hl => by omega) (g3 z))
      by_cases hqr : q = r
      · rw [hqr, upF_at]
        exact ⟨fun z => absurd (show (0 : Nat) = k + 1 from z) (by omega), fun z => absurd z hki⟩
      · rw [upF_ne hqr]
  · have h3' : mI M ≤ k := h3
    have := wr.2.2.2.1.1
    rw [hh 880 19 k (by omega), hh 880 20 k (by omega)]
    exact j3 k h3 h4
theorem mLose_X {ru : Nat} : ∀ r q, r ≤ q → mX (mLose M ru r) q = mX M q
  | 0, _, _ => rfl
  | r + 1, q, h => by
    have ih := mLose_X (ru := ru) r q (by omega)
    rw [mLose_s]
    split
    · show upF (mX (mLose M ru r)) r (ls (mX (mLose M ru r) r)) q = _
      rw [upF_ne (by omega)]
      exact ih
    · exact ih
/-- no issue on sale leans on the rule -/
theorem noS {ru : Nat} : ∀ k, ∀ i, i < k → onS (mFalls M ru k).1 ru i = false
  | 0, _, h => absurd h (Nat.not_lt_zero _)
  | k + 1, i, h => by
    have ih := noS (ru := ru) k
    rw [mFalls_s]
    by_cases hb : onS (mFalls M ru k).1 ru k = true
    · rw [if_pos hb]
      show onS (mRecall (mFalls M ru k).1 k ru) ru i = false
      obtain ⟨eJ, eI, eW, eO, eU, eR⟩ := mRecall_J (M := (mFalls M ru k).1) (i := k) (ru := ru)
      unfold onS
      rw [eJ, eR, mRecall_X]
      by_cases hik : i = k
      · rw [hik, upF_at]
        rfl
      · rw [upF_ne hik]
        have hi' := ih i (by omega)
        unfold onS at hi'
        have el : ilE (sdF (bk (mW (mFalls M ru k).1) (mO (mFalls M ru k).1) ru) (mX (mFalls M ru k).1) k (mR (mFalls M ru k).1)) i ru (mR (mFalls M ru k).1) = ilE (mX (mFalls M ru k).1) i ru (mR (mFalls M ru k).1) := by
          rw [Bool.eq_iff_iff, ilE_iff, ilE_iff]
          have key : ∀ q, rdI (sdF (bk (mW (mFalls M ru k).1) (mO (mFalls M ru k).1) ru) (mX (mFalls M ru k).1) k (mR (mFalls M ru k).1) q) = i + 1 ∧ rdLn (sdF (bk (mW (mFalls M ru k).1) (mO (mFalls M ru k).1) ru) (mX (mFalls M ru k).1) k (mR (mFalls M ru k).1) q) ru = true ↔ rdI (mX (mFalls M ru k).1 q) = i + 1 ∧ rdLn (mX (mFalls M ru k).1 q) ru = true := by
            intro q
            unfold sdF
            by_cases hq : q < mR (mFalls M ru k).1 ∧ rdI (mX (mFalls M ru k).1 q) = k + 1
            · rw [if_pos hq]
              have hI : rdI (bk (mW (mFalls M ru k).1) (mO (mFalls M ru k).1) ru (mX (mFalls M ru k).1 q)) = 0 := by
                unfold bk
                split <;> rfl
              rw [hI, hq.2]
              exact ⟨fun z => absurd z.1 (by omega), fun z => absurd z.1 (by omega)⟩
            · rw [if_neg hq]
          constructor
          · rintro ⟨q, h1, h2⟩
            exact ⟨q, h1, (key q).mp h2⟩
          · rintro ⟨q, h1, h2⟩
            exact ⟨q, h1, (key q).mpr h2⟩
        rw [el]
        exact hi'
    · rw [if_neg hb]
      by_cases hik : i = k
      · rw [hik]
        cases hc : onS (mFalls M ru k).1 ru k with
        | false => rfl
        | true => exact absurd hc hb
      · exact ih i (by omega)
theorem m_loses {ru : Nat} {sp : cc_Sp} {x1 x2 : Int32} (s : sl c 21 0 0 e) (hR : RF c M) (w : wfM M t) (hno : ∀ i, i < mI M → onS M ru i = false) (h1 : x1 = nI ru) (hru : ru < 16) (c0 : cc_C) (km0 : kM c0 c) (hsp : sp = (0, x2, mLose M ru (mR M))) : ec g tb_X9_fall 106 [some (.ref e), some (.int x1), some (.int x2), some (.int 0)] [] 0 0 c (okN sp c0) X := by
  have b20 := w.1.1
  have b12 := w.2.2.1.1
  have loop : ∀ (n r : Nat) (d : cc_C), r + n = mR M → kM c0 d → sl d 21 0 0 e → RF d (mLose M ru r) → ec g tb_X9_fall 106 [some (.ref e), some (.int x1), some (.int x2), some (.int (nI r))] [] 0 0 d (okN sp c0) X := by
    intro n
    induction n with
    | zero =>
      intro r d hr km sd hd
      obtain rfl : r = mR M := by omega
      refine mk_X9_fall_106 sd ?_
      rw [hd.2.1.1, (sameX_lose (M := M) (ru := ru) (mR M)).1]
      exact ⟨fun _ => mk_X9_tell_0 sd ⟨_, rfl, lT hsp rfl km hd⟩, fun z => absurd (nI_le (Nat.le_refl _) (by omega)) z⟩
    | succ n ih =>
      intro r d hr km sd hd
      have hs := sameX_lose (M := M) (ru := ru) r
      have hsR := hs.1
      have wN := w_loses (ru := ru) w r (by omega)
      have hr' : r < mR (mLose M ru r) := by omega
      have eX : mX (mLose M ru r) r = mX M r := mLose_X r r (Nat.le_refl _)
      have h := hd.2.1.2.1 r hr'
      have cr : (nI r).toNatClampNeg = r := nI_clamp (by omega)
      have v20 := vp_in_nI (show r < 20 by omega) (by omega)
      have es := mLose_s (M := M) (ru := ru) (r := r)
      have wr := wN.1.2 r hr'
      have eJ : mJ (mLose M ru r) = mJ M := by
        show (mLose M ru r).2.2.1.2 = _
        rw [hs.2]
        rfl
      have eI : mI (mLose M ru r) = mI M := by
        show (mLose M ru r).2.2.1.1 = _
        rw [hs.2]
        rfl
      have no : ¬ rdLn (mX (mLose M ru r) r) ru = true → ec g tb_X9_fall 106 [some (.ref e), some (.int x1), some (.int x2), some (.int (nI (r + 1)))] [] 0 0 d (okN sp c0) X := fun hb => ih (r + 1) d (by omega) km sd (by rw [es, if_neg hb]; exact hd)
      refine mk_X9_fall_106 sd ?_
      rw [hd.2.1.1, cr, h.2.2.2.1, nI_1]
      refine ⟨fun z => absurd z (nI_ge hr' (by omega)), fun _ => ⟨v20, fun z => no (fun hb => ?_), fun z => m_ln sd hd.2.1 wN hr' rfl h1 (by omega) ⟨_, rfl, fun z2 => no (fun hb => ?_), fun z2 => ⟨v20, ?_⟩⟩⟩⟩
      · have hI0 : rdI (mX (mLose M ru r) r) ≠ 0 := wr.2.2.2.1.2.1.mpr (Or.inr z)
        have h3 := wr.2.2.2.1.2.2 hI0
        rw [if_pos z, eJ] at h3
        have hle := wr.2.2.2.1.1
        rw [eI] at hle
        have := hno (rdI (mX (mLose M ru r) r) - 1) (by omega)
        unfold onS at this
        rw [h3] at this
        have hil : ilE (mX M) (rdI (mX (mLose M ru r) r) - 1) ru (mR M) = true := ilE_iff.mpr ⟨r, by omega, by rw [← eX]; omega, by rw [← eX]; exact hb⟩
        rw [hil] at this
        exact absurd this (by decide)
      · rw [hb] at z2
        exact absurd z2 (by decide)
      · have hb : rdLn (mX (mLose M ru r) r) ru = true := by
          cases hb : rdLn (mX (mLose M ru r) r) ru with
          | true => rfl
          | false => rw [hb] at z2; exact absurd rfl z2
        rw [if_pos hb] at es
        rw [h.2.2.2.1]
        refine ⟨fun z3 => ?_, fun z3 => ⟨v20, v20, ?_⟩⟩
        · have hI0 : rdI (mX (mLose M ru r) r) ≠ 0 := wr.2.2.2.1.2.1.mpr (Or.inl z3)
          have hle := wr.2.2.2.1.1
          have hJ := wr.2.2.2.1.2.2 hI0
          rw [if_neg z] at hJ
          obtain ⟨i1, i2, i3⟩ := hd.2.2.2.1.2.1 (rdI (mX (mLose M ru r) r) - 1) (by omega)
          obtain ⟨m, p, f1, f2, f3, f4, f5⟩ := i3 (by rw [hJ]; decide)
          have hIe : rdI (mX (mLose M ru r) r) - 1 + 1 = rdI (mX (mLose M ru r) r) := by omega
          rw [hIe] at f3 f5
          obtain ⟨k0, hk0, ek0⟩ := f5 r hr' rfl
          refine m_takesOut (i := rdI (mX (mLose M ru r) r) - 1) (p := p) (m := m) (k0 := k0) sd rfl (by omega) (by omega) (h.2.2.2.2.2.2 hI0) f1 f2 (fun k hk => ⟨by have := (f3 k hk).1; omega, (f3 k hk).2.1⟩) f4 hk0 ek0 (fun d2 hd2 hPd g19 g21 => ⟨rfl, v20, v20, ?_⟩)
          refine ih (r + 1) _ (by omega) ((km.trans (kM_fm hd2 (fun f i j q => by omega))).trans (kM_fm (P := fun f i j => f = 880) ((fm_rfl.set rfl).set rfl) (fun f i j q => by omega))) (hd2.sl sd) ?_
          rw [es]
          exact RF_lose wN hr' hd z hd2 (fun q => absurd q hI0) (fun _ => ⟨m, k0, p, f1, f2, hk0, ek0, fun k hk => ⟨(f3 k hk).1, (f3 k hk).2.2⟩, f4, f5, g19, g21⟩) (by rw [hPd])
        · have hI0 : rdI (mX (mLose M ru r) r) = 0 := by
            by_cases h0 : rdI (mX (mLose M ru r) r) = 0
            · exact h0
            · rcases wr.2.2.2.1.2.1.mp h0 with q | q
              · exact absurd q z3
              · exact absurd q z
          refine ih (r + 1) _ (by omega) (km.trans (kM_fm (P := fun f i j => f = 880) ((fm_rfl.set rfl).set rfl) (fun f i j q => by omega))) sd ?_
          rw [es]
          exact RF_lose wN hr' hd z fm_rfl (fun _ => rfl) (fun q => absurd hI0 q) rfl
  exact loop (mR M) 0 c (by omega) km0 s hR
end
