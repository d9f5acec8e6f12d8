/-! the reference loses proofs -/
def pop (p : Nat → Nat) (k0 : Nat) : Nat → Nat := fun k => if k < k0 then p k else p (k + 1)
section
variable {g : Nat → Nat} {c : cc_C} {M : cc_M} {a e t : Nat} {x y : Int32} {X : String → cc_C → Prop}
theorem RF_lose {d : cc_C} {r : Nat} (w : wfM M t) (hr : r < mR M) (hR : RF c M) (hz : rdZ (mX M r) ≠ 115) (hd : fm (fun f i' j => f = 880 ∧ ((i' = 19 ∧ j = rdI (mX M r) - 1) ∨ (i' = 21 ∧ 4 * (rdI (mX M r) - 1) ≤ j ∧ j < 4 * (rdI (mX M r) - 1) + 4))) c d) (h0 : rdI (mX M r) = 0 → d = c) (h1 : rdI (mX M r) ≠ 0 → ∃ (m k0 : Nat) (p : Nat → Nat), cS c 880 19 (rdI (mX M r) - 1) = nI m ∧ m ≤ 4 ∧ k0 < m ∧ p k0 = r ∧ (∀ k, k < m → p k < mR M ∧ rdI (mX M (p k)) = rdI (mX M r)) ∧ (∀ k k', k < m → k' < m → p k = p k' → k = k') ∧ (∀ q, q < mR M → rdI (mX M q) = rdI (mX M r) → ∃ k, k < m ∧ p k = q) ∧ cS d 880 19 (rdI (mX M r) - 1) = nI (m - 1) ∧ ∀ k, k < m - 1 → cS d 880 21 (4 * (rdI (mX M r) - 1) + k) = nI (pop p k0 k)) (hP : cP d 2 0 = cP c 2 0) : RF (cset (cset d 880 3 r 0) 880 2 r 111) (sX M (mR M) (upF (mX M) r (ls (mX M r)))) := by
  obtain ⟨d1, d2, d3, ⟨j1, j2, j3⟩, d5, d6⟩ := hR
  have b12 := w.2.2.1.1
  have wr := w.1.2 r hr
  have hf : fm (fun f i' j => f = 880 ∧ ((i' = 19 ∧ j = rdI (mX M r) - 1 ∧ rdI (mX M r) ≠ 0) ∨ (i' = 21 ∧ 4 * (rdI (mX M r) - 1) ≤ j ∧ j < 4 * (rdI (mX M r) - 1) + 4 ∧ rdI (mX M r) ≠ 0) ∨ ((i' = 2 ∨ i' = 3) ∧ j = r))) c (cset (cset d 880 3 r 0) 880 2 r 111) := by
    by_cases hI : rdI (mX M r) = 0
    · rw [h0 hI]
      exact (fm_rfl.set (by omega)).set (by omega)
    · exact ((hd.mono (fun f i j z => by omega)).set (by omega)).set (by omega)
  have hh := hf.2.2.2.2
  refine ⟨by rw [hf.2.1]; exact d1, RFR_one (n := 8) hf (fun f i j q => ⟨by omega, fun _ _ => by unfold pOne; omega⟩) (w36 w) (w8 w) hr ?_ d2, RFW_fm (M := M) hf (fun f i j q => by omega) d3, ⟨(hh 872 0 0 (by omega)).trans j1, fun k hk => ?_, fun k h3 h4 => ?_⟩, RFU_fm (M := M) hf (fun f i j q => by omega) d5, hP.trans d6⟩
  · obtain ⟨a1, a2, a3, a4, a5, a6, a7⟩ := d2.2.1 r hr
    refine ⟨(hh 880 0 r (by omega)).trans a1, (hh 880 1 r (by omega)).trans a2, fun k hk => ?_, (cS_at _ _ _ _ _).trans rfl, ((cS_ne (by omega)).trans (cS_at _ _ _ _ _)).trans rfl, fun o => absurd rfl o, fun o => absurd rfl o⟩
    refine Eq.trans ?_ (a3 k hk)
    unfold clM
    rw [hh 880 6 _ (by omega), hh 880 7 _ (by omega), hh 880 8 _ (by omega), hh 880 9 _ (by omega)]
  · obtain ⟨g1, g2, g3⟩ := j2 k hk
    refine ⟨(hh 880 18 k (by omega)).trans g1, (hh 880 20 k (by omega)).trans g2, fun z => ?_⟩
    by_cases hki : rdI (mX M r) = k + 1
    · obtain ⟨m, k0, p, e1, e2, e3, e4, e5, e6, e7, e8, e9⟩ := h1 (by omega)
      rw [hki] at e1 e8 e9
      rw [show k + 1 - 1 = k by omega] at e1 e8 e9
      refine ⟨m - 1, pop p k0, ?_, by omega, fun l hl => ?_, fun l l' hl hl' el => ?_, fun q hq hqi => ?_⟩
      · rw [cS_ne (by omega), cS_ne (by omega)]
        exact e8
      · have hpl : ∃ l', l' < m ∧ l' ≠ k0 ∧ pop p k0 l = p l' := by
          unfold pop
          by_cases hlk : l < k0
          · exact ⟨l, by omega, by omega, if_pos hlk⟩
          · exact ⟨l + 1, by omega, by omega, if_neg hlk⟩
        obtain ⟨l', hl', hne, el⟩ := hpl
        have h5 := e5 l' hl'
        have hpr : p l' ≠ r := fun q => hne (e6 l' k0 hl' e3 (q.trans e4.symm))
        refine ⟨by rw [el]; exact h5.1, ?_, ?_⟩
        · rw [cS_ne (by omega), cS_ne (by omega)]
          exact e9 l hl
        · show rdI (upF (mX M) r (ls (mX M r)) (pop p k0 l)) = k + 1
          rw [el, upF_ne hpr, h5.2, hki]
      · unfold pop at el
        by_cases hlk : l < k0
        · rw [if_pos hlk] at el
          by_cases hlk' : l' < k0
          · rw [if_pos hlk'] at el
            exact e6 l l' (by omega) (by omega) el
          · rw [if_neg hlk'] at el
            have := e6 l (l' + 1) (by omega) (by omega) el
            omega
        · rw [if_neg hlk] at el
          by_cases hlk' : l' < k0
          · rw [if_pos hlk'] at el
            have := e6 (l + 1) l' (by omega) (by omega) el
            omega
          · rw [if_neg hlk'] at el
            have := e6 (l + 1) (l' + 1) (by omega) (by omega) el
            omega
      · have hqi' : rdI (upF (mX M) r (ls (mX M r)) q) = k + 1 := hqi
        by_cases hqr : q = r
        · rw [hqr, upF_at] at hqi'
          exact absurd hqi' (show (0 : Nat) ≠ k + 1 by omega)
        · rw [upF_ne hqr] at hqi'
          obtain ⟨l, hl, el⟩ := e7 q hq (by rw [hqi', hki])
          have hne : l ≠ k0 := fun z => hqr (by rw [← el, z, e4])
          by_cases hlk : l < k0
          · exact ⟨l, by omega, by unfold pop; rw [if_pos hlk]; exact el⟩
          · refine ⟨l - 1, by omega, ?_⟩
            unfold pop
            rw [if_neg (by omega), show l - 1 + 1 = l by omega]
            exact el
    · refine RFl_X (n := mR M) (n' := mR M) (X := mX M) (X' := upF (mX M) r (ls (mX M r))) (Nat.le_refl _) (fun q hq => ?_) (fun q h3 h4 => absurd h3 (by omega)) (RFl_fm hf (by omega) (fun l hl => by omega) (g3 z))
      by_cases hqr : q = r
      · rw [hqr, upF_at]
        exact ⟨fun z => absurd (show (0 : Nat) = k + 1 from z) (by omega), fun z => absurd z hki⟩
      · rw [upF_ne hqr]
  · have h3' : mI M ≤ k := h3
    have := wr.2.2.2.1.1
    rw [hh 880 19 k (by omega), hh 880 20 k (by omega)]
    exact j3 k h3 h4
theorem mLose_X {ru : Nat} : ∀ r q, r ≤ q → mX (mLose M ru r) q = mX M q
  | 0, _, _ => rfl
  | r + 1, q, h => by
    have ih := mLose_X (ru := ru) r q (by omega)
    rw [mLose_s]
    split
    · show upF (mX (mLose M ru r)) r (ls (mX (mLose M ru r) r)) q = _
      rw [upF_ne (by omega)]
      exact ih
    · exact ih
/-- no issue on sale leans on the rule -/
theorem noS {ru : Nat} : ∀ k, ∀ i, i < k → onS (mFalls M ru k).1 ru i = false
  | 0, _, h => absurd h (Nat.not_lt_zero _)
  | k + 1, i, h => by
    have ih := noS (ru := ru) k
    rw [mFalls_s]
    by_cases hb : onS (mFalls M ru k).1 ru k = true
    · rw [if_pos hb]
      show onS (mRecall (mFalls M ru k).1 k ru) ru i = false
      obtain ⟨eJ, eI, eW, eO, eU, eR⟩ := mRecall_J (M := (mFalls M ru k).1) (i := k) (ru := ru)
      unfold onS
      rw [eJ, eR, mRecall_X]
      by_cases hik : i = k
      · rw [hik, upF_at]
        rfl
      · rw [upF_ne hik]
        have hi' := ih i (by omega)
        unfold onS at hi'
        have el : ilE (sdF (bk (mW (mFalls M ru k).1) (mO (mFalls M ru k).1) ru) (mX (mFalls M ru k).1) k (mR (mFalls M ru k).1)) i ru (mR (mFalls M ru k).1) = ilE (mX (mFalls M ru k).1) i ru (mR (mFalls M ru k).1) := by
          rw [Bool.eq_iff_iff, ilE_iff, ilE_iff]
          have key : ∀ q, rdI (sdF (bk (mW (mFalls M ru k).1) (mO (mFalls M ru k).1) ru) (mX (mFalls M ru k).1) k (mR (mFalls M ru k).1) q) = i + 1 ∧ rdLn (sdF (bk (mW (mFalls M ru k).1) (mO (mFalls M ru k).1) ru) (mX (mFalls M ru k).1) k (mR (mFalls M ru k).1) q) ru = true ↔ rdI (mX (mFalls M ru k).1 q) = i + 1 ∧ rdLn (mX (mFalls M ru k).1 q) ru = true := by
            intro q
            unfold sdF
            by_cases hq : q < mR (mFalls M ru k).1 ∧ rdI (mX (mFalls M ru k).1 q) = k + 1
            · rw [if_pos hq]
              have hI : rdI (bk (mW (mFalls M ru k).1) (mO (mFalls M ru k).1) ru (mX (mFalls M ru k).1 q)) = 0 := by
                unfold bk
                split <;> rfl
              rw [hI, hq.2]
              exact ⟨fun z => absurd z.1 (by omega), fun z => absurd z.1 (by omega)⟩
            · rw [if_neg hq]
          constructor
          · rintro ⟨q, h1, h2⟩
            exact ⟨q, h1, (key q).mp h2⟩
          · rintro ⟨q, h1, h2⟩
            exact ⟨q, h1, (key q).mpr h2⟩
        rw [el]
        exact hi'
    · rw [if_neg hb]
      by_cases hik : i = k
      · rw [hik]
        cases hc : onS (mFalls M ru k).1 ru k with
        | false => rfl
        | true => exact absurd hc hb
      · exact ih i (by omega)
end
