/-! a fall keeps it -/
def hG (W : Nat) (O : cc_O) (ru : Nat) (x : cc_Rd) : Prop := (rdN x = 3 ∨ rdN x = 4) ∧ (rdLn x ru = false → rdG W O x)
theorem pay_own {M : cc_M} {i p : Nat} (q : Nat) : ∀ k, (mV (mPay M i p k) q).2.2 = (mV M q).2.2
  | 0 => rfl
  | k + 1 => by
    rw [mPay_s]
    split
    · show (upF (mV (mPay M i p k)) k (pyd (mV (mPay M i p k) k) p) q).2.2 = _
      by_cases e : q = k
      · subst e
        rw [upF_at]
        exact pay_own q q
      · rw [upF_ne e]
        exact pay_own q k
    · exact pay_own q k
theorem bk_G {W ru : Nat} {O : cc_O} {x : cc_Rd} (h : hG W O ru x) (h8 : rdC x ≤ 8) (hK : ∀ e, e < rdC x → KvK (rdN x) (rdK x) e) (hO : okO W O) : rdG W O (bk W O ru x) := by
  have key : rdG W O (if rdLn x ru = true then prv W O (noI x) else noI x) := by
    by_cases e : rdLn x ru = true
    · rw [if_pos e]
      exact rdG_prv (x := noI x) h.1 h8 hK hO
    · rw [if_neg e]
      exact h.2 (Bool.eq_false_iff.mpr e)
  exact key
def hF (M N : cc_M) (O : cc_O) (ru : Nat) : Prop := mR N = mR M ∧ mW N = mW M ∧ mO N = O ∧ mI N = mI M ∧ mU N = mU M ∧ (∀ r, r < mR M → hG (mW M) O ru (mX N r)) ∧ gU N
theorem hF_recall {M N : cc_M} {O : cc_O} {ru i t : Nat} (h : hF M N O ru) (w : wfM N t) (hi : i < mI M) : hF M (mRecall N i ru) O ru := by
  obtain ⟨h1, h2, h3, h4, h5, h6, h7⟩ := h
  obtain ⟨e1, e2, e3, e4⟩ := sameU_pay (M := mRec0 N i) (i := i) (p := (mJ N i).2) (mU N)
  refine ⟨h1, ?_, ?_, ?_, ?_, fun r hr => ?_, fun q hq z hz => ?_⟩
  · show mW (mPay (mRec0 N i) i (mJ N i).2 (mU N)) = mW M
    unfold mW at h2 ⊢
    rw [e2]
    exact h2
  · show mO (mPay (mRec0 N i) i (mJ N i).2 (mU N)) = O
    unfold mO at h3 ⊢
    rw [e2]
    exact h3
  · show mI (mPay (mRec0 N i) i (mJ N i).2 (mU N)) = mI M
    have e : mI (mRec0 N i) = mI M := h4
    unfold mI at e ⊢
    rw [e3]
    exact e
  · show mU (mPay (mRec0 N i) i (mJ N i).2 (mU N)) = mU M
    rw [e4]
    exact h5
  · show hG (mW M) O ru (sdF (bk (mW N) (mO N) ru) (mX N) i (mR N) r)
    unfold sdF
    split
    · have wx := (w.1.2 r (by rw [h1]; exact hr)).1
      have ok := w.2.1
      rw [h2, h3] at ok ⊢
      have b := bk_G (h6 r hr) wx.2.2.1 wx.2.2.2 ok
      exact ⟨b.1, fun _ => b⟩
    · exact h6 r hr
  · have hz' : (mV (mPay (mRec0 N i) i (mJ N i).2 (mU N)) q).2.2 z = true := hz
    rw [pay_own] at hz'
    have hq' : q < mU N := by
      have : q < mU (mPay (mRec0 N i) i (mJ N i).2 (mU N)) := hq
      rw [e4] at this
      exact this
    have h := h7 q hq' z hz'
    have hI : mI (mRecall N i ru) = mI N := by
      show mI (mPay (mRec0 N i) i (mJ N i).2 (mU N)) = mI N
      have e : mI (mRec0 N i) = mI N := rfl
      unfold mI at e ⊢
      rw [e3]
      exact e
    refine ⟨by rw [hI]; exact h.1, ?_⟩
    show (mJ (mPay (mRec0 N i) i (mJ N i).2 (mU N)) z).1 ≠ 109
    have hJ : mJ (mPay (mRec0 N i) i (mJ N i).2 (mU N)) = upF (mJ N) i (114, (mJ N i).2) := by
      unfold mJ at e3 ⊢
      rw [e3]
      rfl
    rw [hJ]
    by_cases e : z = i
    · rw [e, upF_at]
      exact (by decide : (114 : Int32) ≠ 109)
    · rw [upF_ne e]
      exact h.2
theorem hF_falls {M M0 : cc_M} {O : cc_O} {ru t : Nat} (h : hF M M0 O ru) (w : wfM M0 t) : ∀ k, k ≤ mI M → hF M (mFalls M0 ru k).1 O ru
  | 0, _ => h
  | k + 1, hk => by
    have ih := hF_falls h w k (by omega)
    have wk := w_falls (ru := ru) w k (by rw [h.2.2.2.1]; omega)
    rw [mFalls_s]
    split
    · exact hF_recall ih wk (by omega)
    · exact ih
theorem lose_G {N : cc_M} {ru : Nat} (h : ∀ r, r < mR N → hG (mW N) (mO N) ru (mX N r)) : ∀ k, k ≤ mR N → mR (mLose N ru k) = mR N ∧ (mLose N ru k).2 = N.2 ∧ ∀ r, r < mR N → hG (mW N) (mO N) ru (mX (mLose N ru k) r) ∧ (r < k → rdG (mW N) (mO N) (mX (mLose N ru k) r))
  | 0, _ => ⟨rfl, rfl, fun r hr => ⟨h r hr, fun q => absurd q (Nat.not_lt_zero r)⟩⟩
  | k + 1, hk => by
    obtain ⟨i1, i2, i3⟩ := lose_G h k (by omega)
    rw [mLose_s]
    by_cases e : rdLn (mX (mLose N ru k) k) ru = true
    · rw [if_pos e]
      refine ⟨i1, i2, fun r hr => ?_⟩
      show hG (mW N) (mO N) ru (upF (mX (mLose N ru k)) k (ls (mX (mLose N ru k) k)) r) ∧ (r < k + 1 → rdG (mW N) (mO N) (upF (mX (mLose N ru k)) k (ls (mX (mLose N ru k) k)) r))
      by_cases q : r = k
      · subst q
        rw [upF_at]
        have g0 : rdG (mW N) (mO N) (ls (mX (mLose N ru r) r)) := rdG_0 (i3 r hr).1.1 rfl (show (0 : Nat) ≠ 1 by decide)
        exact ⟨⟨(i3 r hr).1.1, fun _ => g0⟩, fun _ => g0⟩
      · rw [upF_ne q]
        exact ⟨(i3 r hr).1, fun z => (i3 r hr).2 (by omega)⟩
    · rw [if_neg e]
      refine ⟨i1, i2, fun r hr => ⟨(i3 r hr).1, fun z => ?_⟩⟩
      by_cases q : r = k
      · subst q
        exact (i3 r hr).1.2 (Bool.eq_false_iff.mpr e)
      · exact (i3 r hr).2 (by omega)
theorem g_fall0 {M : cc_M} {u : Nat} (g : gM M) : hF M (mFall0 M u) (upF (mO M) u (fl (mO M u))) (10 + u) := by
  refine ⟨rfl, rfl, rfl, rfl, rfl, fun r hr => ⟨(g.1 r hr).1, fun hl => rdG_mono (g.1 r hr) (fun i hi h => stG_fl h (ln_no hl i hi))⟩, g.2⟩
theorem ixw_lt {n u : Nat} {x : Int32} (hn : n < 1000) (h : ixw n x = some u) : u < n ∧ x = nI (10 + u) := by
  unfold ixw at h
  by_cases c : x < 10 ∨ nI (10 + n) ≤ x
  · rw [if_pos c] at h
    cases h
  · rw [if_neg c] at h
    cases h
    have c1 : ¬ x < 10 := fun q => c (Or.inl q)
    have c2 : x < nI (10 + n) := Int32.not_le.mp (fun q => c (Or.inr q))
    have c0 : ¬ x < 0 := fun q => c1 (Int32.lt_trans q (by decide))
    obtain ⟨j, hj, rfl⟩ := ix_of (by omega) c0 c2
    have : 10 ≤ j := by
      refine Classical.byContradiction fun z => c1 ?_
      exact nI_lt (b := 10) (by omega) (by omega)
    rw [nI_clamp (by omega)]
    exact ⟨by omega, by rw [show 10 + (j - 10) = j by omega]⟩
/-- the model behind a fall: no riddle leans on the rule -/
theorem g_fallen {M : cc_M} {t u : Nat} (g : gM M) (w : wfM M t) : gM (mLose (mFalls (mFall0 M u) (10 + u) (mI M)).1 (10 + u) (mR M)) ∧ mR (mLose (mFalls (mFall0 M u) (10 + u) (mI M)).1 (10 + u) (mR M)) = mR M ∧ mW (mLose (mFalls (mFall0 M u) (10 + u) (mI M)).1 (10 + u) (mR M)) = mW M ∧ mO (mLose (mFalls (mFall0 M u) (10 + u) (mI M)).1 (10 + u) (mR M)) = upF (mO M) u (fl (mO M u)) ∧ mU (mLose (mFalls (mFall0 M u) (10 + u) (mI M)).1 (10 + u) (mR M)) = mU M := by
  have hf := hF_falls (g_fall0 (u := u) g) (w_fall0 (u := u) w) (mI M) (Nat.le_refl _)
  generalize (mFalls (mFall0 M u) (10 + u) (mI M)).1 = N at hf
  obtain ⟨h1, h2, h3, h4, h5, h6, h7⟩ := hf
  have hl := lose_G (N := N) (ru := 10 + u) (fun r hr => by rw [h2, h3]; exact h6 r (by rw [← h1]; exact hr)) (mR M) (by rw [h1]; exact Nat.le_refl _)
  obtain ⟨l1, l2, l3⟩ := hl
  have eW : mW (mLose N (10 + u) (mR M)) = mW N := by unfold mW; rw [l2]
  have eO : mO (mLose N (10 + u) (mR M)) = mO N := by unfold mO; rw [l2]
  have eU : mU (mLose N (10 + u) (mR M)) = mU N := by unfold mU; rw [l2]
  refine ⟨⟨fun r hr => ?_, fun q hq i hi => ?_⟩, l1.trans h1, eW.trans h2, eO.trans h3, eU.trans h5⟩
  · rw [eW, eO]
    rw [l1] at hr
    exact (l3 r hr).2 (by rw [← h1]; exact hr)
  · have a1 : mU (mLose N (10 + u) (mR M)) = mU N := by unfold mU; rw [l2]
    have a2 : mV (mLose N (10 + u) (mR M)) = mV N := by unfold mV; rw [l2]
    have a3 : mI (mLose N (10 + u) (mR M)) = mI N := by unfold mI; rw [l2]
    have a4 : mJ (mLose N (10 + u) (mR M)) = mJ N := by unfold mJ; rw [l2]
    rw [a1] at hq
    rw [a2] at hi
    rw [a3, a4]
    exact h7 q hq i hi
theorem g_fall {M : cc_M} {t : Nat} {x : Int32} (g : gM M) (w : wfM M t) : gM (spFall M x).2.2 := by
  unfold spFall
  refine ixm_g g (fun u hu => ?_)
  split
  · exact g
  · exact (g_fallen g w).1
