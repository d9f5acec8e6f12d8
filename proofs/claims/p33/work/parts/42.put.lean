/-! riddles of an issue -/
def cnI (X : Nat → cc_Rd) (i : Nat) : Nat → Nat
  | 0 => 0
  | r + 1 => cnI X i r + (if rdI (X r) = i + 1 then 1 else 0)
theorem cnI_le {X : Nat → cc_Rd} {i : Nat} : ∀ n, cnI X i n ≤ n
  | 0 => Nat.le_refl 0
  | r + 1 => by
    have := cnI_le (X := X) (i := i) r
    show cnI X i r + (if rdI (X r) = i + 1 then 1 else 0) ≤ r + 1
    split <;> omega
theorem cnI_bij {X : Nat → cc_Rd} {i : Nat} : ∀ {n m : Nat} {p : Nat → Nat}, (∀ k, k < m → p k < n ∧ rdI (X (p k)) = i + 1) → (∀ k k', k < m → k' < m → p k = p k' → k = k') → (∀ r, r < n → rdI (X r) = i + 1 → ∃ k, k < m ∧ p k = r) → cnI X i n = m
  | 0, m, p, h1, _, _ => by
    by_cases hm : m = 0
    · rw [hm]
      rfl
    · exact absurd (h1 0 (by omega)).1 (Nat.not_lt_zero _)
  | n + 1, m, p, h1, h2, h3 => by
    show cnI X i n + (if rdI (X n) = i + 1 then 1 else 0) = m
    by_cases h : rdI (X n) = i + 1
    · rw [if_pos h]
      obtain ⟨k0, hk0, e0⟩ := h3 n (by omega) h
      have := cnI_bij (X := X) (i := i) (n := n) (m := m - 1) (p := fun k => if k < k0 then p k else p (k + 1)) (fun k hk => ?_) (fun k k' hk hk' e => ?_) (fun r hr hi => ?_)
      · omega
      · show (if k < k0 then p k else p (k + 1)) < n ∧ rdI (X (if k < k0 then p k else p (k + 1))) = i + 1
        by_cases hkk : k < k0
        · rw [if_pos hkk]
          have := h1 k (by omega)
          refine ⟨?_, this.2⟩
          have hne : p k ≠ n := fun z => by
            have := h2 k k0 (by omega) hk0 (z.trans e0.symm)
            omega
          omega
        · rw [if_neg hkk]
          have := h1 (k + 1) (by omega)
          refine ⟨?_, this.2⟩
          have hne : p (k + 1) ≠ n := fun z => by
            have := h2 (k + 1) k0 (by omega) hk0 (z.trans e0.symm)
            omega
          omega
      · have e' : (if k < k0 then p k else p (k + 1)) = (if k' < k0 then p k' else p (k' + 1)) := e
        by_cases hkk : k < k0
        · rw [if_pos hkk] at e'
          by_cases hkk' : k' < k0
          · rw [if_pos hkk'] at e'
            exact h2 k k' (by omega) (by omega) e'
          · rw [if_neg hkk'] at e'
            have := h2 k (k' + 1) (by omega) (by omega) e'
            omega
        · rw [if_neg hkk] at e'
          by_cases hkk' : k' < k0
          · rw [if_pos hkk'] at e'
            have := h2 (k + 1) k' (by omega) (by omega) e'
            omega
          · rw [if_neg hkk'] at e'
            have := h2 (k + 1) (k' + 1) (by omega) (by omega) e'
            omega
      · obtain ⟨k, hk, e⟩ := h3 r (by omega) hi
        have hne : k ≠ k0 := fun z => by
          rw [z, e0] at e
          omega
        by_cases hkk : k < k0
        · exact ⟨k, by omega, by show (if k < k0 then p k else p (k + 1)) = r; rw [if_pos hkk]; exact e⟩
        · refine ⟨k - 1, by omega, ?_⟩
          show (if k - 1 < k0 then p (k - 1) else p (k - 1 + 1)) = r
          rw [if_neg (by omega), show k - 1 + 1 = k by omega]
          exact e
    · rw [if_neg h]
      refine cnI_bij (p := p) (fun k hk => ?_) h2 (fun r hr hi => h3 r (by omega) hi)
      have := h1 k hk
      have hne : p k ≠ n := fun z => by
        rw [z] at this
        exact h this.2
      exact ⟨by omega, this.2⟩
def putX (x : cc_Rd) (i : Nat) : cc_Rd := (x.1, (105, rdO x, i + 1), x.2.2)
def spPut (M : cc_M) (x y : Int32) : cc_Sp := ixm (ixo (mI M) x) M fun i => ixm (ixo (mR M) y) M fun r => if (mJ M i).1 = 109 ∧ (rdZ (mX M r) = 119 ∨ rdZ (mX M r) = 98) then (if 4 ≤ cnI (mX M) i (mR M) then (3, 0, M) else (0, nI (cnI (mX M) i (mR M) + 1), sX M (mR M) (upF (mX M) r (putX (mX M r) i)))) else (2, 0, M)
def xIUS : List String := ["java/lang/IndexOutOfBoundsException", "java/lang/UnsupportedOperationException", "java/lang/IllegalStateException"]
section
variable {g : Nat → Nat} {c : cc_C} {M : cc_M} {a e t : Nat} {x y : Int32} {X : String → cc_C → Prop}
theorem iss_is {r i : Nat} (h : CRd c r (mX M r)) (hb : rdI (mX M r) ≤ 12) : (cS c 126 r 0 = 0 ↔ rdI (mX M r) = 0) ∧ (rdI (mX M r) ≠ 0 → (cN c 126 r - 1 = i ↔ rdI (mX M r) = i + 1)) := by
  have h126 := h.2.2.2.2.2.2.2.1
  refine ⟨?_, fun h0 => ?_⟩
  · rw [h126]
    exact nI_eq (b := 0) (by omega) (by omega)
  · rw [cN_nI h126 (by omega)]
    omega
theorem s_countRiddles {R : Option Value → cc_C → Prop} {i : Nat} (s : sl c 0 0 0 a) (hC : CL c M) (h20 : mR M ≤ 20) (hI : ∀ r, r < mR M → rdI (mX M r) ≤ 12) (hi : cV c 15 i 0) (H : R (some (.int (nI (cnI (mX M) i (mR M))))) c) : wc g (wp_X8_countRiddlesOf g) c [.ref a, .ref (cA c 15 i 0)] R X := by
  refine wc_cw fun hw => ?_
  have k := kd_ok hw s.1
  have loop : ∀ (w r : Nat), r + w = mR M → ec g tb_X8_countRiddlesOf 4 [some (.ref a), some (.ref (cA c 15 i 0)), some (.int (nI (cnI (mX M) i r))), some (.int (nI r))] [] 0 0 c R X := by
    intro w
    induction w with
    | zero =>
      intro r hr
      obtain rfl : r = mR M := by omega
      refine mk_X8_countRiddlesOf_4 s ⟨hi, rfl⟩ (s_size ⟨k.1, rfl⟩ ⟨_, rfl, fun _ => H, fun z => absurd ?_ z⟩)
      rw [hC.2.1.1]
      exact nI_le (Nat.le_refl _) (by omega)
    | succ w ih =>
      intro r hr
      have r1 := ih (r + 1) (by omega)
      have hr' : r < mR M := by omega
      have h := hC.2.1.2.2.1 r hr'
      have e1 : cnI (mX M) i (r + 1) = cnI (mX M) i r + (if rdI (mX M r) = i + 1 then 1 else 0) := rfl
      rw [e1] at r1
      obtain ⟨i1, i2⟩ := iss_is (i := i) h (hI r hr')
      refine mk_X8_countRiddlesOf_4 s ⟨hi, rfl⟩ (s_size ⟨k.1, rfl⟩ ⟨_, rfl, fun z => ?_, fun _ => s_get (e := r) ⟨k.1, rfl⟩ rfl (by rw [hC.2.1.1]; exact nI_lt hr' (by omega)) (by omega) ⟨_, r, rfl, ⟨h.1, rfl⟩, fun z => ⟨fun z2 => ?_, fun z2 => ?_⟩, fun z => ?_⟩⟩)
      · rw [hC.2.1.1] at z
        exact absurd z (nI_ge hr' (by omega))
      · rw [if_pos ((i2 (fun q => z (i1.mpr q))).mp z2)] at r1
        rw [nI_1, nI_1]
        exact r1
      · rw [if_neg (fun q => z2 ((i2 (fun q => z (i1.mpr q))).mpr q)), Nat.add_zero] at r1
        rw [nI_1]
        exact r1
      · rw [if_neg (fun q => by rw [i1.mp z] at q; omega), Nat.add_zero] at r1
        rw [nI_1]
        exact r1
  exact mk_X8_countRiddlesOf_0 s ⟨hi, rfl⟩ (loop (mR M) 0 (by omega))
theorem wI12 (w : wfM M t) : ∀ r, r < mR M → rdI (mX M r) ≤ 12 := fun r hr => by
  have := (w.1.2 r hr).2.2.2.1.1
  have := w.2.2.1.1
  omega
theorem s_isReady {R : Option Value → cc_C → Prop} {r : Nat} (h : CRd c r (mX M r)) (H0 : ¬ (rdZ (mX M r) = 119 ∨ rdZ (mX M r) = 98) → R (some (.int 0)) c) (H1 : (rdZ (mX M r) = 119 ∨ rdZ (mX M r) = 98) → R (some (.int 1)) c) : wc g (wp_X8_isReady g) c [.ref (cA c 3 r 0)] R X := by
  refine mk_X8_isReady_0 ⟨h.1, rfl⟩ ?_
  rw [h.2.2.2.2.1]
  exact ⟨fun z => H1 (Or.inl z), fun z1 => ⟨fun z => H1 (Or.inr z), fun z2 => H0 (fun q => q.elim z1 z2)⟩⟩
theorem c_put (s : sl c 0 0 0 a) (hC : CL c M) (w : wfM M t) : wc g (wp_X8_put g) c [.ref a, .int x, .int y] (okC (spPut M x y) c) (okX xIUS (spPut M x y) c) := by
  have b12 := w.2.2.1.1
  have b20 := w.1.1
  refine wc_cw fun hw => mk_X8_put_0 s (s_findIssue s hC.2.2.2.1 b12 (fun h => lX 0 (no1 h) rfl kC_rfl hC) (fun i hi hx => ?_))
  obtain ⟨i1, i2, i3⟩ := hC.2.2.2.1.2.2.1 i hi
  have e1 : spPut M x y = _ := at1 hx hi (by omega)
  refine ⟨_, i, rfl, ⟨i1, rfl⟩, s_findRiddle s hC.2.1 b20 (fun h => lX 0 (e1.trans (no1 h)) rfl kC_rfl hC) (fun r hr hy => ?_)⟩
  have e2 := e1.trans (at1 hy hr (by omega))
  have h := hC.2.1.2.2.1 r hr
  refine ⟨_, r, rfl, ⟨h.1, rfl⟩, ?_⟩
  rw [i2]
  refine ⟨fun z => s_isReady h (fun h0 => ⟨_, rfl, fun _ => lX 1 (e2.trans (if_neg fun q => h0 q.2)) rfl kC_rfl hC, fun q => absurd rfl q⟩) (fun h1 => ⟨_, rfl, fun q => absurd q (by decide), fun _ => ?_⟩), fun z => lX 1 (e2.trans (if_neg fun q => z q.1)) rfl kC_rfl hC⟩
  have e3 := e2.trans (if_pos ⟨z, h1⟩)
  have bc := cnI_le (X := mX M) (i := i) (mR M)
  refine s_countRiddles s hC b20 (wI12 w) i1 ⟨_, rfl, fun z2 => ⟨by omega, ?_⟩, fun z2 => lX 2 (e3.trans (if_pos (Nat.le_of_not_lt fun q => z2 (nI_lt (b := 4) q (by omega))))) rfl kC_rfl hC⟩
  have hlt := (nI_ltI (b := 4) (by omega) (by omega)).mp z2
  have hf : fr (fun f j => j = r ∧ (f = 125 ∨ f = 126)) c (cset (cset c 125 r 0 105) 126 r 0 (Int32.ofNat (i + 1))) := (fr_rfl.set (by omega)).set (by omega)
  rw [show nI (cnI (mX M) i (mR M)) + 1 = nI (cnI (mX M) i (mR M) + 1) from nI_1 _]
  refine lC (e3.trans (if_neg (by omega))) rfl (kC_fr hf (fun f i q => by omega)) (CL_one (hf.x (Q := fun f j => j = r ∧ (f = 125 ∨ f = 126)) (fun f i q _ _ _ => q) (fun f i q => by omega)) hw (w8 w) (fun f i q => ⟨by unfold pRd; omega, q.1⟩) (fun _ hh hk => ?_) hC)
  obtain ⟨a1, a2, a3, a4, a5, a6, a7, a8, a9, a10⟩ := hh
  refine ⟨a1, (cS_f (by decide)).trans ((cS_f (by decide)).trans a2), (cS_f (by decide)).trans ((cS_f (by decide)).trans a3), a4, ?_, (cS_f (by decide)).trans ((cS_f (by decide)).trans a6), stC_fr hf (fun f h q => by omega) a7, cS_at _ _ _ _ _, ?_, ?_⟩
  · rw [cS_f (by decide), cS_at]
    rfl
  · unfold CRa at a9 ⊢
    rw [hf.row (f := 124) (i := r) (by omega), hf.row (f := 520) (i := r) (by omega)]
    exact a9
  · unfold cN at a10 ⊢
    rw [hf.row (f := 80) (i := r + 4) (by omega)]
    exact a10
theorem RFR_one {d : cc_C} {P : Nat → Nat → Nat → Prop} {r n : Nat} {x' : cc_Rd} (h : fm P c d) (hp : ∀ f i j, P f i j → f ≠ 870 ∧ (f = 880 → i < 13 → pOne r n f i j)) (w : ∀ r, r < mR M → rdk (mX M r) ≤ 36) (w8 : ∀ r, r < mR M → rdC (mX M r) ≤ 8) (hr : r < mR M) (hX : RFr d r x') (hR : RFR c M) : RFR d (sX M (mR M) (upF (mX M) r x')) := by
  obtain ⟨r1, r2, r3⟩ := hR
  have hh := h.2.2.2.2
  have no : ∀ i j, i < 13 → ¬ pOne r n 880 i j → ¬ P 880 i j := fun i j hi h1 q => h1 ((hp 880 i j q).2 rfl hi)
  refine ⟨(hh 870 0 0 (fun q => (hp _ _ _ q).1 rfl)).trans r1, fun k hk => ?_, fun k h1 h2 => ?_⟩
  · show RFr d k (upF (mX M) r x' k)
    have hk' : k < mR M := hk
    by_cases hkr : k = r
    · rw [hkr, upF_at]
      exact hX
    · rw [upF_ne hkr]
      have b8 := w8 k hk'
      exact RFr_fm h (fun i hi => no i k (by omega) (fun q => by unfold pOne at q; omega)) (fun i z hi hz => no i _ (by omega) (fun q => by unfold pOne at q; omega)) (fun i z hi hz => no i _ (by omega) (fun q => by unfold pOne at q; omega)) (w k hk') (r2 k hk')
  · have h1' : mR M ≤ k := h1
    rw [hh 880 1 k (no 1 k (by omega) (fun q => by unfold pOne at q; omega)), hh 880 3 k (no 3 k (by omega) (fun q => by unfold pOne at q; omega))]
    exact r3 k h1 h2
theorem w_put (w : wfM M t) (ht : t < 512) : wfM (spPut M x y).2.2 (t + 1) := by
  unfold spPut ixm
  split
  · exact wf_s w ht
  · rename_i i hq
    have hi := ixo_lt hq
    try dsimp only
    split
    · exact wf_s w ht
    · rename_i r hq2
      have hr := ixo_lt hq2
      try dsimp only
      split
      · rename_i hJ
        split
        · exact wf_s w ht
        · refine wf_s (w_one w ?_) ht
          have wr := w.1.2 r hr
          have o1 : rdO (mX M r) = 1 := wr.2.2.2.2 (by rcases hJ.2 with q | q; exact Or.inr (Or.inr (Or.inr q)); exact Or.inr (Or.inr (Or.inl q)))
          have z105 : rdZ (putX (mX M r) i) = 105 := rfl
          refine ⟨wr.1, Or.inr (Or.inr (Or.inl rfl)), wr.2.2.1, ⟨by show i + 1 ≤ mI M; omega, ⟨fun _ => Or.inl rfl, fun _ => by show i + 1 ≠ 0; omega⟩, fun _ => ?_⟩, fun _ => o1⟩
          rw [if_neg (fun z => absurd (z105.symm.trans z) (by decide))]
          exact hJ.1
      · exact wf_s w ht
end
