/-! calls that only ask: the class -/
def spState (M : cc_M) (x : Int32) : cc_Sp := ixm (ixo (mR M) x) M fun r => (0, rdZ (mX M r), M)
def spSteps (M : cc_M) (x : Int32) : cc_Sp := ixm (ixo (mR M) x) M fun r => if rdO (mX M r) = 0 then (2, 0, M) else (0, nI (rdk (mX M r)), M)
def spAt (F : Nat × Nat × Nat → Nat) (M : cc_M) (x y : Int32) : cc_Sp := ixm (ixo (mR M) x) M fun r => match ixo (rdk (mX M r)) y with
  | none => (2, 0, M)
  | some i => (0, nI (F (rdS (mX M r) i)), M)
def spLeans (M : cc_M) (x y : Int32) : cc_Sp := ixm (ixo (mR M) x) M fun r => ixm (ixo (10 + mW M) y) M fun u => (0, bI (rdLn (mX M r) u), M)
def spStands (M : cc_M) (x : Int32) : cc_Sp := ixm (ixo (10 + mW M) x) M fun u => (0, bI (decide (u < 10) || (mO M (u - 10)).2.2.2.2), M)
def spCex (M : cc_M) (x : Int32) : cc_Sp := ixm (ixw (mW M) x) M fun u => if cexO (mO M u) = 0 then (2, 0, M) else (0, nI (cexO (mO M u)), M)
def spIst (M : cc_M) (x : Int32) : cc_Sp := ixm (ixo (mI M) x) M fun i => (0, (mJ M i).1, M)
def spCred (M : cc_M) (x : Int32) : cc_Sp := ixm (ixo (mU M) x) M fun q => (0, nI (mV M q).1, M)
def spHas (M : cc_M) (x y : Int32) : cc_Sp := ixm (ixo (mU M) x) M fun q => ixm (ixo (mI M) y) M fun i => (0, bI ((mV M q).2.2 i), M)
def spAnsw (M : cc_M) (x : Int32) : cc_Sp := ixm (ixo (mR M) x) M fun r => (0, nI (rdA (mX M r)), M)
def spAns (M : cc_M) (x y : Int32) : cc_Sp := ixm (ixo (mR M) x) M fun r => ixm (ixo (rdN (mX M r)) y) M fun p => if rdA (mX M r) = 0 then (2, 0, M) else (0, nI (ofL (rdF (mX M r)) p), M)
def xI : List String := ["java/lang/IndexOutOfBoundsException"]
def xIN : List String := ["java/lang/IndexOutOfBoundsException", "java/util/NoSuchElementException"]
theorem cntL_le {n : Nat} {P : List Nat → Bool} : ∀ {m : Nat} {l : List Nat}, cntL n P m l ≤ m + 1
  | 0, l => by
    show (if P l then 1 else 0) ≤ 0 + 1
    split <;> omega
  | m + 1, l => by
    show (if P l then 1 else 0) + (match goL n l with | none => 0 | some l' => cntL n P m l') ≤ m + 1 + 1
    have h1 : (if P l then 1 else 0) ≤ 1 := by split <;> omega
    cases h : goL n l with
    | none => show _ + 0 ≤ _; omega
    | some l' =>
      have := cntL_le (n := n) (P := P) (m := m) (l := l')
      show _ + cntL n P m l' ≤ _
      omega
theorem rdA_le {x : cc_Rd} (h3 : 3 ≤ rdN x) (h6 : rdN x ≤ 6) : rdA x ≤ 720 := by
  have h1 := (chainN h3 h6).2
  have h2 := cntL_le (n := rdN x) (P := fun l => aF (rdK x) l (rdC x)) (m := fuelN (rdN x)) (l := List.range (rdN x))
  unfold rdA
  omega
theorem nI_m1 {n : Nat} (h : n < 2 ^ 31) : ¬ nI n = -1 := fun q => nI_pos h (by rw [q]; decide)
theorem nch {z : Int32} (h : z = 111 ∨ z = 119 ∨ z = 105 ∨ z = 115 ∨ z = 98 ∨ z = 104) : narrow .char (.int z) = .int z := by
  rcases h with rfl | rfl | rfl | rfl | rfl | rfl
  · exact (pk_charN (q := 111) (by decide)).1
  · exact (pk_charN (q := 119) (by decide)).1
  · exact (pk_charN (q := 105) (by decide)).1
  · exact (pk_charN (q := 115) (by decide)).1
  · exact (pk_charN (q := 98) (by decide)).1
  · exact (pk_charN (q := 104) (by decide)).1
theorem nch2 {z : Int32} (h : z = 109 ∨ z = 115 ∨ z = 114) : narrow .char (.int z) = .int z := by
  rcases h with rfl | rfl | rfl
  · exact (pk_charN (q := 109) (by decide)).1
  · exact (pk_charN (q := 115) (by decide)).1
  · exact (pk_charN (q := 114) (by decide)).1
theorem ltr_45 {o : Nat} (h : o < 4) : ltr o = 45 ↔ o = 0 := by
  rcases (show o = 0 ∨ o = 1 ∨ o = 2 ∨ o = 3 by omega) with rfl | rfl | rfl | rfl <;> decide
theorem ltr_119 {o : Nat} (h : o < 4) : ltr o = 119 ↔ o = 1 := by
  rcases (show o = 0 ∨ o = 1 ∨ o = 2 ∨ o = 3 by omega) with rfl | rfl | rfl | rfl <;> decide
section
variable {g : Nat → Nat} {c : cc_C} {M : cc_M} {a t : Nat} {x y : Int32}
theorem s_hasStep {R : Option Value → cc_C → Prop} {X : String → cc_C → Prop} {r b k : Nat} {S : cc_St} (s : sl c 7 r 0 b) (st : stC c r k S) (H0 : ixo k y = none → R (some (.int 0)) c) (H1 : ∀ i, i < k → y = nI i → R (some (.int 1)) c) : wc g (wp_X6_hasStep g) c [.ref b, .int y] R X := by
  obtain ⟨t1, t2, -⟩ := st
  refine mk_X6_hasStep_0 s ⟨fun q => H0 (ixo_no (Or.inl q)), fun q => ?_⟩
  rw [t1]
  refine ⟨fun q2 => H0 (ixo_no (Or.inr q2)), fun q2 => ?_⟩
  obtain ⟨i, hi, rfl⟩ := ix_of (n := k) (by omega) q (Int32.not_le.mp q2)
  exact ⟨fun q3 => absurd q3 (nI_ge (b := 36) (by omega) (by omega)), fun _ => H1 i hi rfl⟩
theorem c_state (s : sl c 0 0 0 a) (hC : CL c M) (w : wfM M t) : wc g (wp_X8_state g) c [.ref a, .int x] (okC (spState M x) c) (okX xI (spState M x) c) := by
  refine mk_X8_state_0 s (s_findRiddle s hC.2.1 w.1.1 (fun h => lX 0 (no1 h) rfl kC_rfl hC) (fun r hr hx => ?_))
  have h := hC.2.1.2.2.1 r hr
  refine ⟨_, r, rfl, ⟨h.1, rfl⟩, nch ?_, lC (at1 hx hr (by have := w.1.1; omega)) h.2.2.2.2.1 kC_rfl hC⟩
  rw [h.2.2.2.2.1]
  exact (w.1.2 r hr).2.1
theorem c_steps (s : sl c 0 0 0 a) (hC : CL c M) (w : wfM M t) : wc g (wp_X8_steps g) c [.ref a, .int x] (okC (spSteps M x) c) (okX xIN (spSteps M x) c) := by
  refine mk_X8_steps_0 s (s_findRiddle s hC.2.1 w.1.1 (fun h => lX 0 (no1 h) rfl kC_rfl hC) (fun r hr hx => ?_))
  have h := hC.2.1.2.2.1 r hr
  have o4 := (w.1.2 r hr).2.2.1.1
  have e := at1 (M := M) (f := fun r => if rdO (mX M r) = 0 then (2, 0, M) else (0, nI (rdk (mX M r)), M)) hx hr (by have := w.1.1; omega)
  refine ⟨_, r, rfl, ⟨h.1, rfl⟩, ?_⟩
  rw [h.2.2.2.2.2.1]
  exact ⟨fun q => lX 1 (e.trans (if_pos ((ltr_45 o4).mp q))) rfl kC_rfl hC, fun q => lC (e.trans (if_neg fun z => q ((ltr_45 o4).mpr z))) h.2.2.2.2.2.2.1.1 kC_rfl hC⟩
theorem c_ruleAt (s : sl c 0 0 0 a) (hC : CL c M) (w : wfM M t) : wc g (wp_X8_ruleAt g) c [.ref a, .int x, .int y] (okC (spAt (fun z => z.1) M x y) c) (okX xIN (spAt (fun z => z.1) M x y) c) := by
  refine wc_cw fun hw => mk_X8_ruleAt_0 s (s_findRiddle s hC.2.1 w.1.1 (fun h => lX 0 (no1 h) rfl kC_rfl hC) (fun r hr hx => ?_))
  have h := hC.2.1.2.2.1 r hr
  have st := h.2.2.2.2.2.2.1
  have e : spAt (fun z => z.1) M x y = _ := at1 hx hr (by have := w.1.1; omega)
  refine ⟨_, r, rfl, ⟨h.1, rfl⟩, s_hasStep ⟨(hw.2.2.1 r h.1).2.1, rfl⟩ st (fun h0 => ⟨_, rfl, fun _ => lX (M := M) (y := 0) 1 (e.trans (by rw [h0])) rfl kC_rfl hC, fun q => absurd rfl q⟩) (fun i hi hy => ⟨_, rfl, fun q => absurd q (by decide), fun _ => ?_⟩)⟩
  subst hy
  refine ⟨vp_in_nI (by have := st.2.1; omega) (by omega), lC (M := M) (y := nI (rdS (mX M r) i).1) (e.trans (by rw [ixo_at (by have := st.2.1; omega) hi])) ?_ kC_rfl hC⟩
  rw [nI_clamp (by have := st.2.1; omega)]
  exact (st.2.2.1 i hi).1
theorem c_causeAt (s : sl c 0 0 0 a) (hC : CL c M) (w : wfM M t) : wc g (wp_X8_causeAt g) c [.ref a, .int x, .int y] (okC (spAt (fun z => z.2.1) M x y) c) (okX xIN (spAt (fun z => z.2.1) M x y) c) := by
  refine wc_cw fun hw => mk_X8_causeAt_0 s (s_findRiddle s hC.2.1 w.1.1 (fun h => lX 0 (no1 h) rfl kC_rfl hC) (fun r hr hx => ?_))
  have h := hC.2.1.2.2.1 r hr
  have st := h.2.2.2.2.2.2.1
  have e : spAt (fun z => z.2.1) M x y = _ := at1 hx hr (by have := w.1.1; omega)
  refine ⟨_, r, rfl, ⟨h.1, rfl⟩, s_hasStep ⟨(hw.2.2.1 r h.1).2.1, rfl⟩ st (fun h0 => ⟨_, rfl, fun _ => lX (M := M) (y := 0) 1 (e.trans (by rw [h0])) rfl kC_rfl hC, fun q => absurd rfl q⟩) (fun i hi hy => ⟨_, rfl, fun q => absurd q (by decide), fun _ => ?_⟩)⟩
  subst hy
  refine ⟨vp_in_nI (by have := st.2.1; omega) (by omega), lC (M := M) (y := nI (rdS (mX M r) i).2.1) (e.trans (by rw [ixo_at (by have := st.2.1; omega) hi])) ?_ kC_rfl hC⟩
  rw [nI_clamp (by have := st.2.1; omega)]
  exact (st.2.2.1 i hi).2.1
theorem c_takenAt (s : sl c 0 0 0 a) (hC : CL c M) (w : wfM M t) : wc g (wp_X8_takenAt g) c [.ref a, .int x, .int y] (okC (spAt (fun z => z.2.2) M x y) c) (okX xIN (spAt (fun z => z.2.2) M x y) c) := by
  refine wc_cw fun hw => mk_X8_takenAt_0 s (s_findRiddle s hC.2.1 w.1.1 (fun h => lX 0 (no1 h) rfl kC_rfl hC) (fun r hr hx => ?_))
  have h := hC.2.1.2.2.1 r hr
  have st := h.2.2.2.2.2.2.1
  have e : spAt (fun z => z.2.2) M x y = _ := at1 hx hr (by have := w.1.1; omega)
  refine ⟨_, r, rfl, ⟨h.1, rfl⟩, s_hasStep ⟨(hw.2.2.1 r h.1).2.1, rfl⟩ st (fun h0 => ⟨_, rfl, fun _ => lX (M := M) (y := 0) 1 (e.trans (by rw [h0])) rfl kC_rfl hC, fun q => absurd rfl q⟩) (fun i hi hy => ⟨_, rfl, fun q => absurd q (by decide), fun _ => ?_⟩)⟩
  subst hy
  refine ⟨vp_in_nI (by have := st.2.1; omega) (by omega), lC (M := M) (y := nI (rdS (mX M r) i).2.2) (e.trans (by rw [ixo_at (by have := st.2.1; omega) hi])) ?_ kC_rfl hC⟩
  rw [nI_clamp (by have := st.2.1; omega)]
  exact (st.2.2.1 i hi).2.2
theorem c_leansOn (s : sl c 0 0 0 a) (hC : CL c M) (w : wfM M t) : wc g (wp_X8_leansOn g) c [.ref a, .int x, .int y] (okC (spLeans M x y) c) (okX xI (spLeans M x y) c) := by
  have h6 := w.2.1.1
  refine wc_cw fun hw => mk_X8_leansOn_0 s (s_findRiddle s hC.2.1 w.1.1 (fun h => lX 0 (no1 h) rfl kC_rfl hC) (fun r hr hx => ?_))
  have h := hC.2.1.2.2.1 r hr
  have e : spLeans M x y = _ := at1 hx hr (by have := w.1.1; omega)
  refine ⟨_, r, rfl, ⟨h.1, rfl⟩, s_checkRule s hC.2.2.1 (fun h0 => lX 0 (e.trans (no1 h0)) rfl kC_rfl hC) (fun u hu hy => ⟨rfl, ?_⟩)⟩
  exact s_hasStepBy ⟨(hw.2.2.1 r h.1).2.1, rfl⟩ h.2.2.2.2.2.2.1 (w.1.2 r hr).2.2.1.2.2.2 hy (by omega) ⟨_, rfl, nb_bI _, lC (e.trans (at1 hy hu (by omega))) rfl kC_rfl hC⟩
theorem c_stands (s : sl c 0 0 0 a) (hC : CL c M) (w : wfM M t) : wc g (wp_X8_stands g) c [.ref a, .int x] (okC (spStands M x) c) (okX xI (spStands M x) c) := by
  have h6 := w.2.1.1
  refine mk_X8_stands_0 s (s_checkRule s hC.2.2.1 (fun h0 => lX 0 (no1 h0) rfl kC_rfl hC) (fun u hu hx => ⟨rfl, ?_⟩))
  have e : spStands M x = _ := at1 hx hu (by omega)
  subst hx
  refine ⟨fun q => lC e ?_ kC_rfl hC, fun q => ?_⟩
  · have : u < 10 := (nI_ltI (b := 10) (by omega) (by omega)).mp q
    rw [decide_eq_true this]
    rfl
  · have hu10 : ¬ u < 10 := fun z => q (nI_lt (b := 10) z (by omega))
    refine s_findOwnRule s hC.2.2.1 (fun h0 => ?_) (fun v hv hx => ?_)
    · exfalso
      have := ixw_at (n := mW M) (j := u - 10) (by omega) (by omega)
      rw [show 10 + (u - 10) = u by omega] at this
      rw [this] at h0
      cases h0
    · have hv2 : u = 10 + v := (nI_eq (by omega) (by omega)).mp hx
      refine ⟨_, v, rfl, ⟨(hC.2.2.1.2.2.1 v hv).1, rfl⟩, ?_⟩
      rw [(hC.2.2.1.1.2.2 v hv).2.2.2.2]
      rw [show u - 10 = v by omega, decide_eq_false hu10, Bool.false_or] at e
      cases hb : (mO M v).2.2.2.2 with
      | true => rw [hb] at e; exact ⟨fun q => absurd q (by decide), fun _ => lC e rfl kC_rfl hC⟩
      | false => rw [hb] at e; exact ⟨fun _ => lC e rfl kC_rfl hC, fun q => absurd rfl q⟩
theorem c_counterexample (s : sl c 0 0 0 a) (hC : CL c M) (w : wfM M t) : wc g (wp_X8_counterexample g) c [.ref a, .int x] (okC (spCex M x) c) (okX xIN (spCex M x) c) := by
  have h6 := w.2.1.1
  refine mk_X8_counterexample_0 s (s_findOwnRule s hC.2.2.1 (fun h0 => lX 0 (no1 h0) rfl kC_rfl hC) (fun u hu hx => ?_))
  have e : spCex M x = _ := atw hx hu (by omega)
  have hb : cexO (mO M u) < 2 ^ 31 := lcx_31 4 3 (by omega) (by omega)
  obtain ⟨v1, v2⟩ := hC.2.2.1.2.2.1 u hu
  refine ⟨_, u, rfl, ⟨v1, rfl⟩, ?_⟩
  rw [v2]
  exact ⟨fun q => lX 1 (e.trans (if_pos ((nI_eq (b := 0) hb (by omega)).mp q))) rfl kC_rfl hC, fun q => lC (e.trans (if_neg fun z => q (by rw [z]; rfl))) rfl kC_rfl hC⟩
theorem c_issueState (s : sl c 0 0 0 a) (hC : CL c M) (w : wfM M t) : wc g (wp_X8_issueState g) c [.ref a, .int x] (okC (spIst M x) c) (okX xI (spIst M x) c) := by
  refine mk_X8_issueState_0 s (s_findIssue s hC.2.2.2.1 w.2.2.1.1 (fun h => lX 0 (no1 h) rfl kC_rfl hC) (fun i hi hx => ?_))
  obtain ⟨h1, h2, h3⟩ := hC.2.2.2.1.2.2.1 i hi
  refine ⟨_, i, rfl, ⟨h1, rfl⟩, nch2 ?_, lC (at1 hx hi (by have := w.2.2.1.1; omega)) h2 kC_rfl hC⟩
  rw [h2]
  exact (w.2.2.1.2 i hi).1
theorem c_credits (s : sl c 0 0 0 a) (hC : CL c M) (w : wfM M t) : wc g (wp_X8_credits g) c [.ref a, .int x] (okC (spCred M x) c) (okX xI (spCred M x) c) := by
  refine mk_X8_credits_0 s (s_findCustomer s hC.2.2.2.2.1 w.2.2.2.1.1 (fun h => lX 0 (no1 h) rfl kC_rfl hC) (fun q hq hx => ?_))
  obtain ⟨h1, h2, h3⟩ := hC.2.2.2.2.1.2.2.1 q hq
  exact ⟨_, q, rfl, ⟨h1, rfl⟩, lC (at1 hx hq (by have := w.2.2.2.1.1; omega)) h2 kC_rfl hC⟩
theorem s_isOwnerOf {R : Option Value → cc_C → Prop} {X : String → cc_C → Prop} {q b i : Nat} {f : Nat → Bool} (s : sl c 16 q 0 b) (h : ∀ i, i < 12 → cS c 680 q i = bI (f i)) (hx : x = nI i) (hi : i < 12) (H : R (some (.int (bI (f i)))) c) : wc g (wp_X1_isOwnerOf g) c [.ref b, .int x] R X := by
  subst hx
  refine mk_X1_isOwnerOf_0 s ⟨fun z => absurd z (nI_pos (by omega)), fun _ => ⟨fun z => absurd z (nI_ge (b := 12) (by omega) (by omega)), fun _ => ⟨vp_in_nI hi (by omega), ?_⟩⟩⟩
  rw [nI_clamp (by omega), h i hi]
  cases hb : f i with
  | true => rw [hb] at H; exact ⟨fun q => absurd q (by decide), fun _ => H⟩
  | false => rw [hb] at H; exact ⟨fun _ => H, fun q => absurd rfl q⟩
theorem c_has (s : sl c 0 0 0 a) (hC : CL c M) (w : wfM M t) : wc g (wp_X8_has g) c [.ref a, .int x, .int y] (okC (spHas M x y) c) (okX xI (spHas M x y) c) := by
  have b12 := w.2.2.1.1
  refine mk_X8_has_0 s (s_findCustomer s hC.2.2.2.2.1 w.2.2.2.1.1 (fun h => lX 0 (no1 h) rfl kC_rfl hC) (fun q hq hx => ?_))
  obtain ⟨h1, h2, h3, h4⟩ := hC.2.2.2.2.1.2.2.1 q hq
  have e : spHas M x y = _ := at1 hx hq (by have := w.2.2.2.1.1; omega)
  refine ⟨_, q, rfl, ⟨h1, rfl⟩, s_findIssue s hC.2.2.2.1 b12 (fun h => lX 0 (e.trans (no1 h)) rfl kC_rfl hC) (fun i hi hy => ?_)⟩
  exact ⟨_, i, rfl, ⟨(hC.2.2.2.1.2.2.1 i hi).1, rfl⟩, s_isOwnerOf ⟨h1, rfl⟩ h4 hy (by omega) ⟨_, rfl, nb_bI _, lC (e.trans (at1 hy hi (by omega))) rfl kC_rfl hC⟩⟩
theorem s_ansOf {R : Option Value → cc_C → Prop} {X : String → cc_C → Prop} {r : Nat} (hC : CL c M) (w : wfM M t) (hr : r < mR M) (H : ∀ d, frx (pA2 r) c d → CL d M → cS d 124 r 0 = nI (rdA (mX M r)) → (0 < rdA (mX M r) → Rp (rdN (mX M r)) (ofL (rdF (mX M r))) (cS d 520 r)) → R none d) : wc g (wp_X7_findAnswers g) c [.ref (cA c 3 r 0)] R X := by
  refine wc_cw fun hw => ?_
  have h := hC.2.1.2.2.1 r hr
  have wr := w.1.2 r hr
  have eA : (fun l => aF (clC c r) l (rdC (mX M r))) = fun l => aF (rdK (mX M r)) l (rdC (mX M r)) := ans_C (n := 0) h.2.2.2.1
  have b720 := rdA_le wr.1.1 wr.1.2.1
  refine s_findAnswers ⟨h.1, rfl⟩ (ansOk_of hw h wr) h.2.1 (fun q => ?_) (fun _ d hd h1 h2 => ?_)
  · rcases h.2.2.2.2.2.2.2.2.1 with z | ⟨z1, z2⟩
    · exact absurd z q
    · exact H c (fr_rfl.x (P := fun _ _ => False) (fun _ _ z => z.elim) (fun _ _ z => z.elim)) hC z1 z2
  · rw [eA] at h1 h2
    refine H d hd ?_ h1 h2
    have := CL_one (r := r) (x' := mX M r) hd hw (fun q hq => (w.1.2 q hq).1.2.2.1) (fun f i q => by unfold pA2 at q; unfold pRd; omega) (fun _ hr' hk => ?_) hC
    · rw [sX_same] at this
      exact this
    · obtain ⟨a1, a2, a3, a4, a5, a6, a7, a8, a9, a10⟩ := hr'
      have no : ∀ f, f ≠ 124 → f ≠ 520 → ¬ pA2 r f r := fun f b1 b2 q => by unfold pA2 at q; omega
      refine ⟨by rw [hd.v (by omega)]; exact a1, ?_, ?_, fun e he => (hk e he).trans (a4 e he), ?_, ?_, ?_, ?_, Or.inr ⟨h1, h2⟩, ?_⟩
      · rw [hd.r0 (no 120 (by omega) (by omega)) (by omega)]; exact a2
      · rw [hd.r0 (f := 42) (i := r + 4) (fun q => by unfold pA2 at q; omega) (by omega)]; exact a3
      · rw [hd.r0 (no 125 (by omega) (by omega)) (by omega)]; exact a5
      · rw [hd.r0 (no 284 (by omega) (by omega)) (by omega)]; exact a6
      · unfold stC at a7 ⊢
        rw [hd.r0 (no 283 (by omega) (by omega)) (by omega), hd.r0 (no 320 (by omega) (by omega)) (by omega), hd.r0 (no 360 (by omega) (by omega)) (by omega), hd.r0 (no 400 (by omega) (by omega)) (by omega), hd.r0 (no 286 (by omega) (by omega)) (by omega)]
        exact a7
      · rw [hd.r0 (no 126 (by omega) (by omega)) (by omega)]; exact a8
      · unfold cN at a10 ⊢
        rw [hd.r0 (f := 80) (i := r + 4) (fun q => by unfold pA2 at q; omega) (by omega)]
        exact a10
theorem kC_A2 {d : cc_C} {r : Nat} (h : frx (pA2 r) c d) : kC c d := kC_frx h (fun f i q => by unfold pA2 at q; omega)
theorem c_answers (s : sl c 0 0 0 a) (hC : CL c M) (w : wfM M t) : wc g (wp_X8_answers g) c [.ref a, .int x] (okC (spAnsw M x) c) (okX xI (spAnsw M x) c) := by
  refine mk_X8_answers_0 s (s_findRiddle s hC.2.1 w.1.1 (fun h => lX 0 (no1 h) rfl kC_rfl hC) (fun r hr hx => ?_))
  have h := hC.2.1.2.2.1 r hr
  refine ⟨_, r, rfl, ⟨h.1, rfl⟩, s_ansOf hC w hr (fun d hd hC' h1 _ => ⟨rfl, lC (at1 hx hr (by have := w.1.1; omega)) h1 (kC_A2 hd) hC'⟩)⟩
theorem c_answer (s : sl c 0 0 0 a) (hC : CL c M) (w : wfM M t) : wc g (wp_X8_answer g) c [.ref a, .int x, .int y] (okC (spAns M x y) c) (okX xIN (spAns M x y) c) := by
  refine mk_X8_answer_0 s (s_findRiddle s hC.2.1 w.1.1 (fun h => lX 0 (no1 h) rfl kC_rfl hC) (fun r hr hx => ?_))
  have h := hC.2.1.2.2.1 r hr
  have wr := w.1.2 r hr
  have b6 := wr.1.2.1
  have b720 := rdA_le wr.1.1 wr.1.2.1
  have e : spAns M x y = _ := at1 hx hr (by have := w.1.1; omega)
  have hn : Int32.ofNat (cN c 120 r) = nI (rdN (mX M r)) := by
    unfold cN
    rw [h.2.1, nI_clamp (by omega)]
    rfl
  refine ⟨_, r, rfl, ⟨h.1, rfl⟩, fun q => lX 0 (e.trans (no1 (ixo_no (Or.inl q)))) rfl kC_rfl hC, fun q => ?_⟩
  rw [hn]
  refine ⟨fun q2 => ?_, fun q2 => lX 0 (e.trans (no1 (ixo_no (Or.inr (Int32.not_lt.mp q2))))) rfl kC_rfl hC⟩
  obtain ⟨p, hp, hy⟩ := ix_of (by omega) q q2
  have e2 := e.trans (at1 hy hp (by omega))
  subst hy
  refine s_ansOf hC w hr (fun d hd hC' h1 h2 => ⟨rfl, ?_⟩)
  have hn' : cN d 120 r = rdN (mX M r) := by
    unfold cN
    rw [(hC'.2.1.2.2.1 r hr).2.1, nI_clamp (by omega)]
  rw [h1, hn']
  refine ⟨fun q3 => lX 1 (e2.trans (if_pos ((nI_eq (b := 0) (by omega) (by omega)).mp q3))) rfl (kC_A2 hd) hC', fun q3 => ⟨vp_in_nI hp (by omega), ?_⟩⟩
  have h0 : rdA (mX M r) ≠ 0 := fun z => q3 (by rw [z]; rfl)
  refine lC (e2.trans (if_neg h0)) ?_ (kC_A2 hd) hC'
  rw [nI_clamp (by omega)]
  exact h2 (by omega) p hp
end
