/-! a riddle is proved -/
def prv (nO : Nat) (O : cc_O) (x : cc_Rd) : cc_Rd := (x.1, (rdZ x, outN (prf (rdK x) O (rdN x) (rdC x) nO).1 (rdN x), rdI x), ((prf (rdK x) O (rdN x) (rdC x) nO).2.1, (prf (rdK x) O (rdN x) (rdC x) nO).2.2))
def wiZ (x : cc_Rd) (z : Int32) : cc_Rd := (x.1, (z, x.2.1.2), x.2.2)
def mMake (M : cc_M) (r : Nat) : cc_M := sX M (mR M) (upF (mX M) r (prv (mW M) (mO M) (mX M r)))
def mSetZ (M : cc_M) (r : Nat) (z : Int32) : cc_M := sX M (mR M) (upF (mX M) r (wiZ (mX M r) z))
theorem mX_up {M : cc_M} {n r : Nat} {x : cc_Rd} : mX (sX M n (upF (mX M) r x)) r = x := upF_at
theorem mX_ne {M : cc_M} {n r q : Nat} {x : cc_Rd} (h : q ≠ r) : mX (sX M n (upF (mX M) r x)) q = mX M q := upF_ne h
theorem mSetZ_same {M : cc_M} {r : Nat} {z : Int32} (h : rdZ (mX M r) = z) : mSetZ M r z = M := by
  have : wiZ (mX M r) z = mX M r := by rw [← h]; rfl
  unfold mSetZ
  rw [this]
  exact sX_same
def spProve (M : cc_M) (x : Int32) : cc_Sp := ixm (ixo (mR M) x) M fun r => if rdZ (mX M r) = 105 ∨ rdZ (mX M r) = 115 ∨ rdZ (mX M r) = 98 then (2, 0, M) else (0, ltr (rdO (mX (mMake M r) r)), mSetZ (mMake M r) r (if rdO (mX (mMake M r) r) = 1 then 119 else if rdZ (mX M r) = 104 then 104 else 111))
section
variable {g : Nat → Nat} {c : cc_C} {M : cc_M} {a e t : Nat} {x y : Int32} {X : String → cc_C → Prop}
theorem fr_s {P : Nat → Nat → Prop} {c d : cc_C} (h : fr P c d) : kS c d := ⟨h.1, h.2.1⟩
theorem kS.sl {c d : cc_C} (h : kS c d) {k i j a : Nat} (s : sl c k i j a) : sl d k i j a := ⟨by rw [h.2]; exact s.1, by rw [h.1]; exact s.2⟩
theorem CL_setZ {r : Nat} {z : Int32} (hw : cw c) (h8 : ∀ r, r < mR M → rdC (mX M r) ≤ 8) (hC : CL c M) : CL (cset c 125 r 0 z) (mSetZ M r z) := by
  have hf : fr (fun f i => f = 125 ∧ i = r) c (cset c 125 r 0 z) := fr_rfl.set ⟨rfl, rfl⟩
  refine CL_one (hf.x (P := fun f i => f = 125 ∧ i = r) (Q := fun f i => f = 125 ∧ i = r) (fun f i q _ _ _ => q) (fun f i q => by omega)) hw h8 (fun f i q => ⟨by unfold pRd; omega, q.2⟩) (fun hr h hk => ?_) hC
  obtain ⟨a1, a2, a3, a4, a5, a6, a7, a8, a9, a10⟩ := h
  refine ⟨a1, (cS_f (by decide)).trans a2, (cS_f (by decide)).trans a3, a4, cS_at _ _ _ _ _, (cS_f (by decide)).trans a6, stC_fr hf (fun f h q => by omega) a7, (cS_f (by decide)).trans a8, ?_, ?_⟩
  · unfold CRa at a9 ⊢
    rw [hf.row (f := 124) (i := r) (by omega), hf.row (f := 520) (i := r) (by omega)]
    exact a9
  · unfold cN at a10 ⊢
    rw [hf.row (f := 80) (i := r + 4) (by omega)]
    exact a10
theorem s_makeR {R : Option Value → cc_C → Prop} {r : Nat} (s : sl c 0 0 0 a) (hC : CL c M) (w1 : ∀ r, r < mR M → rdC (mX M r) ≤ 8) (hr : r < mR M) (hn3 : 3 ≤ rdN (mX M r)) (hn6 : rdN (mX M r) ≤ 6) (hK : ∀ e, e < rdC (mX M r) → KvK (rdN (mX M r)) (rdK (mX M r)) e) (oO : okO (mW M) (mO M)) (H : ∀ d, fr (pMk r) c d → CL d (mMake M r) → R none d) : wc g (wp_X6_make g) c [.ref (cA c 7 r 0), .ref (cA c 1 (r + 4) 0), .ref (cA c 1 1 0)] R X := by
  refine wc_cw fun hw => ?_
  have h := hC.2.1.2.2.1 r hr
  have k3 := hw.2.2.1 r h.1
  have o : ansOk c r (rdN (mX M r)) (rdC (mX M r)) := by
    refine ⟨k3.1, hw, cN_nI h.2.1 (by omega), hn6, hn3, h.2.2.1, w1 r hr, fun e he => ?_⟩
    have := hK e he
    unfold KvK at this ⊢
    rw [h.2.2.2.1 e he]
    exact this
  refine s_make ⟨k3.2.1, rfl⟩ ⟨k3.1, rfl⟩ ⟨(kd_ok hw s.1).2.1, rfl⟩ o hC.2.2.1.1 oO (fun z hz hst hout => H z hz ?_)
  rw [prf_C h] at hst hout
  refine CL_one (hz.x (Q := pMk r) (fun f i q _ _ _ => q) (fun f i q => by unfold pMk at q; omega)) hw w1 (fun f i q => by unfold pMk at q; unfold pRd; omega) (fun _ h hk => ?_) hC
  obtain ⟨a1, a2, a3, a4, a5, a6, a7, a8, a9, a10⟩ := h
  have row : ∀ f, f = 120 ∨ f = 124 ∨ f = 125 ∨ f = 126 ∨ f = 520 → cS z f r = cS c f r := fun f hf => hz.row (fun q => by unfold pMk at q; omega)
  refine ⟨by rw [hz.2.1]; exact a1, ?_, ?_, fun e he => (hk e he).trans (a4 e he), ?_, hout.trans (outS_ltr _ _), hst, ?_, ?_, ?_⟩
  · rw [row 120 (by omega)]; exact a2
  · rw [hz.row (f := 42) (i := r + 4) (fun q => by unfold pMk at q; omega)]; exact a3
  · rw [row 125 (by omega)]; exact a5
  · rw [row 126 (by omega)]; exact a8
  · unfold CRa at a9 ⊢
    rw [row 124 (by omega), row 520 (by omega)]
    exact a9
  · unfold cN at a10 ⊢
    rw [hz.row (f := 80) (i := r + 4) (fun q => by unfold pMk at q; omega)]
    exact a10
theorem w8 (w : wfM M t) : ∀ r, r < mR M → rdC (mX M r) ≤ 8 := fun r hr => (w.1.2 r hr).1.2.2.1
theorem ltr_nch {o : Nat} : narrow .char (.int (ltr o)) = .int (ltr o) := by
  unfold ltr
  split
  · exact (pk_charN (q := 45) (by decide)).1
  · split
    · exact (pk_charN (q := 119) (by decide)).1
    · split
      · exact (pk_charN (q := 110) (by decide)).1
      · exact (pk_charN (q := 102) (by decide)).1
theorem prv_O {nO : Nat} {O : cc_O} {x : cc_Rd} : rdO (prv nO O x) = 1 ∨ rdO (prv nO O x) = 2 ∨ rdO (prv nO O x) = 3 := outN_in _ _
theorem c_prove (s : sl c 0 0 0 a) (hC : CL c M) (w : wfM M t) : wc g (wp_X8_prove g) c [.ref a, .int x] (okC (spProve M x) c) (okX xIU (spProve M x) c) := by
  refine wc_cw fun hw => mk_X8_prove_0 s (s_findRiddle s hC.2.1 w.1.1 (fun h => lX 0 (no1 h) rfl kC_rfl hC) (fun r hr hx => ?_))
  have h := hC.2.1.2.2.1 r hr
  have wr := w.1.2 r hr
  have e1 : spProve M x = _ := at1 hx hr (by have := w.1.1; omega)
  refine ⟨_, r, rfl, ⟨h.1, rfl⟩, ?_⟩
  rw [h.2.2.2.2.1]
  refine ⟨fun z => lX 1 (e1.trans (if_pos (Or.inl z))) rfl kC_rfl hC, fun z1 => ⟨fun z => lX 1 (e1.trans (if_pos (Or.inr (Or.inl z)))) rfl kC_rfl hC, fun z2 => ⟨fun z => lX 1 (e1.trans (if_pos (Or.inr (Or.inr z)))) rfl kC_rfl hC, fun z3 => ?_⟩⟩⟩
  have e2 := e1.trans (if_neg fun q => by rcases q with q | q | q; exact z1 q; exact z2 q; exact z3 q)
  refine s_makeR s hC (w8 w) hr wr.1.1 wr.1.2.1 wr.1.2.2.2 w.2.1 (fun d hd hC1 => ⟨rfl, ?_⟩)
  have hwd := hd.cws (fun i q => by unfold pMk at q; omega) (fun i q => by unfold pMk at q; omega) (fun i q => by unfold pMk at q; omega) hw
  have h1 := hC1.2.1.2.2.1 r hr
  have e284 := h1.2.2.2.2.2.1
  have e125 := h1.2.2.2.2.1
  have o3 : rdO (mX (mMake M r) r) < 4 := by
    unfold mMake
    rw [mX_up]
    rcases prv_O (nO := mW M) (O := mO M) (x := mX M r) with q | q | q <;> omega
  have kd : kC c d := kC_fr hd (fun f i q => by unfold pMk at q; omega)
  have w8' : ∀ q, q < mR (mMake M r) → rdC (mX (mMake M r) q) ≤ 8 := fun q hq => by
    unfold mMake
    by_cases hqr : q = r
    · rw [hqr, mX_up]; exact wr.1.2.2.1
    · rw [mX_ne hqr]; exact w8 w q hq
  have fin : ∀ z, (if rdO (mX (mMake M r) r) = 1 then 119 else if rdZ (mX M r) = 104 then 104 else 111) = z → narrow .char (.int (cS (cset d 125 r 0 z) 284 r 0)) = .int (cS (cset d 125 r 0 z) 284 r 0) ∧ okC (spProve M x) c (some (.int (cS (cset d 125 r 0 z) 284 r 0))) (cset d 125 r 0 z) := by
    intro z hz
    rw [hz] at e2
    rw [cS_f (by decide), e284]
    exact ⟨ltr_nch, lC e2 rfl (kd.trans (kC_fr (P := fun f i => f = 125) (fr_rfl.set rfl) (fun f i q => by omega))) (CL_setZ hwd w8' hC1)⟩
  have eZ : rdZ (mX (mMake M r) r) = rdZ (mX M r) := by
    unfold mMake
    rw [mX_up]
    rfl
  rw [e284, e125, eZ]
  refine ⟨fun q => fin 119 (if_pos ((ltr_119 o3).mp q)), fun q => ?_⟩
  have q1 : ¬ rdO (mX (mMake M r) r) = 1 := fun z => q ((ltr_119 o3).mpr z)
  refine ⟨fun q2 => ?_, fun q2 => ?_⟩
  · rw [if_neg q1, if_pos q2, mSetZ_same (eZ.trans q2)] at e2
    exact ⟨ltr_nch, lC e2 rfl kd hC1⟩
  · have := fin 111 (by rw [if_neg q1, if_neg q2])
    rw [cS_f (by decide), e284] at this
    rw [cS_f (by decide), e284]
    exact this
end
