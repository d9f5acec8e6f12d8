section
variable {g : Nat → Nat} {c : cc_C} {M : cc_M} {a e t q : Nat} {x y : Int32} {xa xb xc : Int32} {X : String → cc_C → Prop}
theorem CL_x0 {d : cc_C} (h : frx (fun _ _ => False) c d) (hw : cw c) (w8 : ∀ r, r < mR M → rdC (mX M r) ≤ 8) (hC : CL c M) : CL d M := by
  have := CL_one (r := 0) (x' := mX M 0) h hw w8 (fun f i z => z.elim) (fun hr hx hk => CRd_x h hw (w8 0 hr) (fun f _ z => z) (fun z => z) (fun z => z) hx) hC
  rw [sX_same] at this
  exact this
theorem c_clue (hq : q < 65536) (s : sl c 0 0 0 a) (hC : CL c M) (w : wfM M t) : wc g (wp_X8_clue g) c [.ref a, .int x, .int (nI q), .int xa, .int xb, .int xc] (okC (spClue M x (nI q) xa xb xc) c) (okX xIAUS (spClue M x (nI q) xa xb xc) c) := by
  refine wc_cw fun hw => mk_X8_clue_0 s (s_findRiddle s hC.2.1 w.1.1 (fun h => lX 0 (no1 h) rfl kC_rfl hC) (fun r hr hx => ?_))
  have wr := w.1.2 r hr
  have e1 : spClue M x (nI q) xa xb xc = _ := at1 hx hr (by have := w.1.1; omega)
  refine ⟨_, r, rfl, ⟨(hC.2.1.2.2.1 r hr).1, rfl⟩, s_newClue (pk_charN hq) (fun b wb => ⟨b, ⟨Or.inr ⟨rfl, rfl, rfl⟩, if_pos ⟨rfl, rfl, rfl⟩⟩, ?_⟩)⟩
  have hx1 : frx (fun _ _ => False) c (dK c b (nI q) xa xb xc) := frx_dK wb
  have hC1 := CL_x0 hx1 hw (w8 w) hC
  have kc1 : kC c (dK c b (nI q) xa xb xc) := kC_frx hx1 (fun f i z => z.elim)
  obtain ⟨k0, k1, k2, k3⟩ := dK_at (c := c) (a := b) (x0 := nI q) (x1 := xa) (x2 := xb) (x3 := xc)
  have sb : sl (dK c b (nI q) xa xb xc) 6 b 0 b := ⟨Or.inr ⟨rfl, rfl, rfl⟩, if_pos ⟨rfl, rfl, rfl⟩⟩
  have hA3 : cA (dK c b (nI q) xa xb xc) 3 r 0 = cA c 3 r 0 := hx1.2.1 3 r 0 (by decide) (by decide) (by decide)
  refine wc_cw fun hw1 => ?_
  rw [← hA3]
  clear hx1
  generalize dK c b (nI q) xa xb xc = d at *
  have h := hC1.2.1.2.2.1 r hr
  have k13 := (hw1.2.2.1 r h.1).1
  rw [h.2.1]
  have hcl : ∀ P : Prop, (clP (rdN (mX M r)) (cS d 240 b 0) (cS d 241 b 0) (cS d 242 b 0) (cS d 243 b 0) → P) → (clP (rdN (mX M r)) (nI q) xa xb xc → P) := fun P hP => by rw [k0, k1, k2, k3] at hP; exact hP
  refine s_isFor sb k0 hq rfl (fun hno => ⟨_, rfl, fun _ => lX 1 (e1.trans (if_neg (fun z => hcl _ hno z))) rfl kc1 hC1, fun q => absurd rfl q⟩) (fun hyes => ⟨_, rfl, fun q => absurd q (by decide), fun _ => ?_⟩)
  rw [k0, k1, k2, k3] at hyes
  have e2 := e1.trans (if_pos hyes)
  rw [h.2.2.2.2.2.1]
  refine ⟨fun z => ?_, fun z => lX 2 (e2.trans (if_neg fun q => z ((ltr_45 wr.2.2.1.1).mpr q))) rfl kc1 hC1⟩
  have e3 := e2.trans (if_pos ((ltr_45 wr.2.2.1.1).mp z))
  have h8 := wr.1.2.2.1
  refine s_size ⟨k13, rfl⟩ ⟨_, rfl, fun z2 => ?_, fun z2 => lX 3 (e3.trans (if_pos ?_)) rfl kc1 hC1⟩
  · rw [h.2.2.1] at z2
    have hlt := (nI_ltI (b := 8) (by omega) (by omega)).mp z2
    have n42 : cN d 42 (r + 4) = rdC (mX M r) := cN_nI h.2.2.1 (by omega)
    have ex : elx d (r + 4) b = b := if_neg (by omega)
    refine mk_X7_addClue_0 ⟨h.1, rfl⟩ sb (s_add (i := r + 4) ⟨k13, rfl⟩ (by rw [ex]; exact sb) (by rw [n42]; omega) h.2.2.2.2.2.2.2.2.2 (fun p zc hz => ⟨_, rfl, rfl, s_size ⟨Or.inl k13, rfl⟩ ⟨_, rfl, ?_⟩⟩))
    have row : ∀ f i j, ¬ (i = r + 4 ∧ (f = 40 ∨ f = 42 ∨ f = 80)) → ¬ (f = 124 ∧ i = r ∧ j = 0) → cS (cset (dL d (r + 4) b p zc) 124 r 0 (-1)) f i j = cS d f i j := fun f i j h1 h2 => (cS_ne h2).trans (dL_S h1)
    have e42 : cS (cset (dL d (r + 4) b p zc) 124 r 0 (-1)) 42 (r + 4) 0 = nI (rdC (mX M r) + 1) := by
      rw [cS_f (by decide), dL_s42, h.2.2.1, nI_1]
    rw [e42]
    have vv : ∀ k i, k ≠ 2 → (cV (cset (dL d (r + 4) b p zc) 124 r 0 (-1)) k i 0 ↔ cV d k i 0) := fun k i hk => ⟨fun h => h.elim id (fun h => absurd h.1 hk), Or.inl⟩
    obtain ⟨d1, ⟨r1, r2, r3, r4⟩, d3, d4, d5, d6⟩ := hC1
    refine lC (e3.trans (if_neg (by omega))) rfl (kc1.trans ⟨fun f hf => funext fun i => funext fun j => row f i j (by omega) (by omega), fun i _ => rfl, rfl⟩) ⟨Or.inl d1, ⟨?_, ?_, fun k hk => ?_, fun k hk => ?_⟩, CLW_tr (row _ _ _ (by omega) (by omega)) (row _ _ _ (by omega) (by omega)) (fun f i hf => row _ _ _ (by omega) (by omega)) (fun u => vv 14 u (by decide)) d3, CLI_tr (row _ _ _ (by omega) (by omega)) (row _ _ _ (by omega) (by omega)) (fun i => ⟨row _ _ _ (by omega) (by omega), row _ _ _ (by omega) (by omega)⟩) (fun u => vv 15 u (by decide)) d4, CLU_tr (row _ _ _ (by omega) (by omega)) (row _ _ _ (by omega) (by omega)) (fun f i hf => funext fun j => row _ _ _ (by omega) (by omega)) (fun u => vv 16 u (by decide)) (fun u => (vv 17 u (by decide)).mp) d5, d6⟩
    · exact (row 42 0 0 (by omega) (by omega)).trans r1
    · unfold cN at r2 ⊢
      rw [row 80 0 0 (by omega) (by omega)]
      exact r2
    · show CRd _ k (upF (mX M) r (addK (mX M r) (nI q) xa xb xc) k)
      by_cases hkr : k = r
      · subst hkr
        rw [upF_at]
        obtain ⟨a1, a2, a3, a4, a5, a6, a7, a8, a9, a10⟩ := h
        refine ⟨Or.inl a1, (row 120 _ 0 (by omega) (by omega)).trans a2, e42, fun i hi => ?_, (row 125 _ 0 (by omega) (by omega)).trans a5, (row 284 _ 0 (by omega) (by omega)).trans a6, ?_, (row 126 _ 0 (by omega) (by omega)).trans a8, Or.inl (cS_at _ _ _ _ _), ?_⟩
        · show clC _ k i = if i = rdC (mX M k) then (nI q, xa, xb, xc) else rdK (mX M k) i
          have hi' : i < rdC (mX M k) + 1 := hi
          by_cases hin : i = rdC (mX M k)
          · rw [if_pos hin]
            have hA : cA (cset (dL d (k + 4) b p zc) 124 k 0 (-1)) 5 k i = b := by
              rw [hin, ← n42]
              exact dL_a5 (q := p) (z := zc)
            unfold clC
            rw [hA, row 240 _ 0 (by omega) (by omega), row 241 _ 0 (by omega) (by omega), row 242 _ 0 (by omega) (by omega), row 243 _ 0 (by omega) (by omega), k0, k1, k2, k3]
          · rw [if_neg hin]
            have hA : cA (cset (dL d (k + 4) b p zc) 124 k 0 (-1)) 5 k i = cA d 5 k i := (show cA (dL d (k + 4) b p zc) 5 k i = cA d 5 k i from dL_A (by omega) (by omega))
            refine Eq.trans ?_ (a4 i (by omega))
            unfold clC
            rw [hA, row 240 _ 0 (by omega) (by omega), row 241 _ 0 (by omega) (by omega), row 242 _ 0 (by omega) (by omega), row 243 _ 0 (by omega) (by omega)]
        · obtain ⟨t1, t2, t3, t4⟩ := a7
          refine ⟨(row 283 _ 0 (by omega) (by omega)).trans t1, t2, fun i hi => ?_, (row 286 _ 0 (by omega) (by omega)).trans t4⟩
          rw [row 320 _ i (by omega) (by omega), row 360 _ i (by omega) (by omega), row 400 _ i (by omega) (by omega)]
          exact t3 i hi
        · unfold cN
          rw [cS_f (by decide), dL_s80, nI_clamp (by omega)]
          exact hz
      · rw [upF_ne hkr]
        refine CRd_tr Or.inl (fun f hf => funext fun j => row f k j (by unfold cdR at hf; omega) (by omega)) (row _ _ _ (by omega) (by omega)) (row _ _ _ (by omega) (by omega)) (fun i _ => ?_) (r3 k hk)
        have hA : cA (cset (dL d (r + 4) b p zc) 124 r 0 (-1)) 5 k i = cA d 5 k i := (show cA (dL d (r + 4) b p zc) 5 k i = cA d 5 k i from dL_A (by omega) (by omega))
        unfold clC
        rw [hA, row 240 _ 0 (by omega) (by omega), row 241 _ 0 (by omega) (by omega), row 242 _ 0 (by omega) (by omega), row 243 _ 0 (by omega) (by omega)]
    · obtain ⟨b1, b2, b3⟩ := r4 k hk
      have hk' : mR M ≤ k := hk
      exact ⟨fun i hi z => b1 i hi ((vv i k (by omega)).mp z), fun z => b2 ((vv 1 _ (by decide)).mp z), fun w => w.elim b3 (fun w => by omega)⟩
  · rw [h.2.2.1] at z2
    have : ¬ rdC (mX M r) < 8 := fun z => z2 (nI_lt (b := 8) z (by omega))
    omega
theorem w_clue (w : wfM M t) (ht : t < 512) : wfM (spClue M x y xa xb xc).2.2 (t + 1) := by
  unfold spClue ixm
  split
  · exact wf_s w ht
  · rename_i r hq
    have hr := ixo_lt hq
    have wr := w.1.2 r hr
    try dsimp only
    by_cases h1 : clP (rdN (mX M r)) y xa xb xc
    · rw [if_pos h1]
      split
      · split
        · exact wf_s w ht
        · rename_i h2 h3
          refine wf_s (w_one w ⟨⟨wr.1.1, wr.1.2.1, ?_, fun i hi => ?_⟩, wr.2⟩) ht
          · show rdC (mX M r) + 1 ≤ 8
            have := wr.1.2.2.1
            omega
          · have hi' : i < rdC (mX M r) + 1 := hi
            show Kv (rdN (mX M r)) _ _ _ _
            by_cases hin : i = rdC (mX M r)
            · have eK : rdK (addK (mX M r) y xa xb xc) i = (y, xa, xb, xc) := if_pos hin
              rw [eK]
              exact clP_Kv wr.1.2.1 h1
            · have eK : rdK (addK (mX M r) y xa xb xc) i = rdK (mX M r) i := if_neg hin
              rw [eK]
              exact wr.1.2.2.2 i (by omega)
      · exact wf_s w ht
    · rw [if_neg h1]
      exact wf_s w ht
end
