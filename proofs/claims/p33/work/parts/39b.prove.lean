section
variable {g : Nat → Nat} {c : cc_C} {M : cc_M} {a e t : Nat} {x y : Int32} {X : String → cc_C → Prop}
/-- one riddle's rows of the reference -/
def pOne (r n : Nat) (f i j : Nat) : Prop := f = 874 ∨ (f = 880 ∧ (i = 25 ∨ (i < 6 ∧ j = r) ∨ (6 ≤ i ∧ i ≤ 9 ∧ 8 * r + n ≤ j ∧ j < 8 * r + 8) ∨ (10 ≤ i ∧ i ≤ 12 ∧ 36 * r ≤ j ∧ j < 36 * r + 36)))
theorem RF_one {d : cc_C} {r n : Nat} {x' : cc_Rd} (h : fm (pOne r n) c d) (w : ∀ r, r < mR M → rdk (mX M r) ≤ 36) (w8 : ∀ r, r < mR M → rdC (mX M r) ≤ 8) (hr : r < mR M) (hX : RFr d r x') (hP : cP d 2 0 = cP c 2 0) (hI : rdI x' = rdI (mX M r)) (hR : RF c M) : RF d (sX M (mR M) (upF (mX M) r x')) := by
  obtain ⟨a1, ⟨r1, r2, r3⟩, a3, a4, a5, a6⟩ := hR
  have hh := h.2.2.2.2
  refine ⟨by rw [h.2.1]; exact a1, ⟨(hh 870 0 0 (fun q => by unfold pOne at q; omega)).trans r1, fun k hk => ?_, fun k h1 h2 => ?_⟩, RFW_fm h (fun f i j q => by unfold pOne at q; omega) a3, RFI_X (Nat.le_refl _) (fun k hk => ?_) (fun k h1 h2 => absurd h1 (by omega)) (RFI_fm h (fun f i j q => by unfold pOne at q; omega) a4), RFU_fm h (fun f i j q => by unfold pOne at q; omega) a5, hP.trans a6⟩
  · show RFr d k (upF (mX M) r x' k)
    have hk' : k < mR M := hk
    by_cases hkr : k = r
    · rw [hkr, upF_at]
      exact hX
    · rw [upF_ne hkr]
      have b8 := w8 k hk'
      exact RFr_fm h (fun i hi q => by unfold pOne at q; omega) (fun i z hi hz q => by unfold pOne at q; omega) (fun i z hi hz q => by unfold pOne at q; omega) (w k hk') (r2 k hk')
  · have h1' : mR M ≤ k := h1
    rw [hh 880 1 k (fun q => by unfold pOne at q; omega), hh 880 3 k (fun q => by unfold pOne at q; omega)]
    exact r3 k h1 h2
  · by_cases hkr : k = r
    · rw [hkr, upF_at]
      exact hI
    · rw [upF_ne hkr]
theorem RF_setZ {r : Nat} {z : Int32} (w : ∀ r, r < mR M → rdk (mX M r) ≤ 36) (w8 : ∀ r, r < mR M → rdC (mX M r) ≤ 8) (hr : r < mR M) (hR : RF c M) : RF (cset c 880 2 r z) (mSetZ M r z) := by
  have hf : fm (pOne r 8) c (cset c 880 2 r z) := fm_rfl.set (by unfold pOne; omega)
  have hh : ∀ i j, i ≠ 2 → cS (cset c 880 2 r z) 880 i j = cS c 880 i j := fun i j hi => cS_ne (by omega)
  refine RF_one hf w w8 hr ?_ rfl rfl hR
  obtain ⟨a1, a2, a3, a4, a5, a6, a7⟩ := hR.2.1.2.1 r hr
  refine ⟨(hh 0 r (by omega)).trans a1, (hh 1 r (by omega)).trans a2, fun z hz => ?_, cS_at _ _ _ _ _, (hh 3 r (by omega)).trans a5, fun o => ?_, fun o => (hh 5 r (by omega)).trans (a7 o)⟩
  · have := a3 z hz
    unfold clM at this ⊢
    rw [hh 6 _ (by omega), hh 7 _ (by omega), hh 8 _ (by omega), hh 9 _ (by omega)]
    exact this
  · obtain ⟨t1, t2, t3⟩ := a6 o
    refine ⟨(hh 4 r (by omega)).trans t1, t2, fun i hi => ?_⟩
    rw [hh 10 _ (by omega), hh 11 _ (by omega), hh 12 _ (by omega)]
    exact t3 i hi
theorem mMake_w36 {r : Nat} (w : ∀ r, r < mR M → rdk (mX M r) ≤ 36) (hn3 : 3 ≤ rdN (mX M r)) (hn6 : rdN (mX M r) ≤ 6) (hK : ∀ e, e < rdC (mX M r) → KvK (rdN (mX M r)) (rdK (mX M r)) e) (oO : okO (mW M) (mO M)) : ∀ q, q < mR (mMake M r) → rdk (mX (mMake M r) q) ≤ 36 := fun q hq => by
  unfold mMake
  by_cases hqr : q = r
  · rw [hqr, mX_up]
    exact (prf_ok hn3 hn6 hK oO).2
  · rw [mX_ne hqr]
    exact w q hq
theorem mMake_w8 {r : Nat} (hr : r < mR M) (w : ∀ r, r < mR M → rdC (mX M r) ≤ 8) : ∀ q, q < mR (mMake M r) → rdC (mX (mMake M r) q) ≤ 8 := fun q hq => by
  unfold mMake
  by_cases hqr : q = r
  · rw [hqr, mX_up]
    exact w r hr
  · rw [mX_ne hqr]
    exact w q hq
theorem ltr_let {o : Nat} (h : o = 1 ∨ o = 2 ∨ o = 3) : ((ltr o).toUInt32 % 65536).toInt32 = ltr o := by
  rcases h with rfl | rfl | rfl <;> decide
/-- one riddle of the model -/
theorem w_one {r : Nat} {x' : cc_Rd} (w : wfM M t) (hx : wfX (mI M) (mJ M) x') : wfM (sX M (mR M) (upF (mX M) r x')) t := by
  refine ⟨⟨w.1.1, fun k hk => ?_⟩, w.2⟩
  show wfX (mI M) (mJ M) (upF (mX M) r x' k)
  by_cases hkr : k = r
  · rw [hkr, upF_at]
    exact hx
  · rw [upF_ne hkr]
    exact w.1.2 k hk
theorem prv_wf {nI' : Nat} {J : Nat → Int32 × Nat} {nO : Nat} {O : cc_O} {x : cc_Rd} (h : wfX nI' J x) (oO : okO nO O) : (rdO (prv nO O x) < 4 ∧ (rdO (prv nO O x) = 0 → rdk (prv nO O x) = 0) ∧ rdk (prv nO O x) ≤ 36 ∧ ∀ i, i < rdk (prv nO O x) → (rdS (prv nO O x) i).1 < 16) := by
  have h3 := prv_O (nO := nO) (O := O) (x := x)
  have hp := prf_ok (K := rdK x) (nc := rdC x) h.1.1 h.1.2.1 h.1.2.2.2 oO
  exact ⟨by omega, fun z => by omega, hp.2, hp.1⟩
theorem w_prove (w : wfM M t) (ht : t < 512) : wfM (spProve M x).2.2 (t + 1) := by
  unfold spProve ixm
  split
  · exact wf_s w ht
  · rename_i r hq
    have hr := ixo_lt hq
    have wr := w.1.2 r hr
    try dsimp only
    split
    · exact wf_s w ht
    · rename_i hz
      refine wf_s ?_ ht
      have hI0 : rdI (mX M r) = 0 := by
        by_cases h0 : rdI (mX M r) = 0
        · exact h0
        · rcases wr.2.2.2.1.2.1.mp h0 with q | q
          · exact absurd (Or.inl q) hz
          · exact absurd (Or.inr (Or.inl q)) hz
      have pw := prv_wf wr w.2.1
      have e : mSetZ (mMake M r) r (if rdO (mX (mMake M r) r) = 1 then 119 else if rdZ (mX M r) = 104 then 104 else 111) = sX M (mR M) (upF (mX M) r (wiZ (prv (mW M) (mO M) (mX M r)) (if rdO (prv (mW M) (mO M) (mX M r)) = 1 then 119 else if rdZ (mX M r) = 104 then 104 else 111))) := by
        unfold mSetZ mMake
        rw [mX_up]
        show sX _ (mR M) _ = _
        unfold sX
        congr 2
        funext i
        by_cases hi : i = r
        · rw [hi, upF_at, upF_at]
        · rw [upF_ne hi, upF_ne hi]
          exact upF_ne hi
      rw [e]
      refine w_one w ⟨wr.1, ?_, pw, ⟨wr.2.2.2.1.1, ⟨fun z => absurd hI0 z, fun z => ?_⟩, fun z => absurd hI0 z⟩, fun z => ?_⟩
      · show (if _ then (119 : Int32) else _) = 111 ∨ _
        by_cases h1 : rdO (prv (mW M) (mO M) (mX M r)) = 1
        · exact Or.inr (Or.inl (if_pos h1))
        · by_cases h2 : rdZ (mX M r) = 104
          · exact Or.inr (Or.inr (Or.inr (Or.inr (Or.inr (by show (if _ then (119 : Int32) else _) = 104; rw [if_neg h1, if_pos h2])))))
          · exact Or.inl (by rw [if_neg h1, if_neg h2])
      · exfalso
        have z' : (if rdO (prv (mW M) (mO M) (mX M r)) = 1 then (119 : Int32) else if rdZ (mX M r) = 104 then 104 else 111) = 105 ∨ (if rdO (prv (mW M) (mO M) (mX M r)) = 1 then (119 : Int32) else if rdZ (mX M r) = 104 then 104 else 111) = 115 := z
        split at z'
        · rcases z' with z' | z' <;> exact absurd z' (by decide)
        · split at z' <;> rcases z' with z' | z' <;> exact absurd z' (by decide)
      · have z' : (if rdO (prv (mW M) (mO M) (mX M r)) = 1 then (119 : Int32) else if rdZ (mX M r) = 104 then 104 else 111) = 105 ∨ (if rdO (prv (mW M) (mO M) (mX M r)) = 1 then (119 : Int32) else if rdZ (mX M r) = 104 then 104 else 111) = 115 ∨ (if rdO (prv (mW M) (mO M) (mX M r)) = 1 then (119 : Int32) else if rdZ (mX M r) = 104 then 104 else 111) = 98 ∨ (if rdO (prv (mW M) (mO M) (mX M r)) = 1 then (119 : Int32) else if rdZ (mX M r) = 104 then 104 else 111) = 119 := z
        by_cases h1 : rdO (prv (mW M) (mO M) (mX M r)) = 1
        · exact h1
        · exfalso
          rw [if_neg h1] at z'
          split at z' <;> rcases z' with z' | z' | z' | z' <;> exact absurd z' (by decide)
end
