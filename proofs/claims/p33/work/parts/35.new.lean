/-! states with more in them -/
def fe (K : Nat → Nat → Prop) (P : Nat → Nat → Prop) (c d : cc_C) : Prop := (∀ k i, ¬ K k i → (cV d k i 0 ↔ cV c k i 0)) ∧ (∀ r e, cA d 5 r e = cA c 5 r e) ∧ cP d = cP c ∧ cD d = cD c ∧ ∀ f i, ¬ P f i → cS d f i = cS c f i
section
variable {c d : cc_C} {M : cc_M} {K P : Nat → Nat → Prop}
theorem kC_fe (h : fe K P c d) (hp : ∀ f i, P f i → f < 869) : kC c d := ⟨fun f hf => funext fun i => h.2.2.2.2 f i (fun q => by have := hp f i q; omega), fun i _ => by rw [h.2.2.1], h.2.2.2.1⟩
theorem CRd_fe {r : Nat} {x : cc_Rd} (h : fe K P c d) (hk : ¬ K 3 r) (hp : ∀ f, cdR f → ¬ P f r) (h1 : ¬ P 42 (r + 4)) (h2 : ¬ P 80 (r + 4)) (h4 : ∀ f i, 240 ≤ f ∧ f ≤ 243 → ¬ P f i) (hr : CRd c r x) : CRd d r x := by
  refine CRd_tr (h.1 3 r hk).mpr (fun f hf => h.2.2.2.2 f r (hp f hf)) (by rw [h.2.2.2.2 _ _ h1]) (by rw [h.2.2.2.2 _ _ h2]) (fun e _ => ?_) hr
  unfold clC
  rw [h.2.1 r e, h.2.2.2.2 240 _ (h4 240 _ (by omega)), h.2.2.2.2 241 _ (h4 241 _ (by omega)), h.2.2.2.2 242 _ (h4 242 _ (by omega)), h.2.2.2.2 243 _ (h4 243 _ (by omega))]
theorem CLR_fe (h : fe K P c d) (hk : ∀ k i, K k i → ¬ (k = 1 ∨ k = 3 ∨ (7 ≤ k ∧ k ≤ 13)) ∧ (k = 2 → i < 4)) (hp : ∀ f i, P f i → ¬ (cdR f ∨ (240 ≤ f ∧ f ≤ 243)) ∧ (f = 42 ∨ f = 80 → i ≠ 0 ∧ i < 4)) (hc : CLR c M) : CLR d M := by
  obtain ⟨a1, a2, a3, a4⟩ := hc
  have e42 := h.2.2.2.2 42 0 (fun q => by have := hp 42 0 q; omega)
  have e80 := h.2.2.2.2 80 0 (fun q => by have := hp 80 0 q; omega)
  refine ⟨by rw [e42]; exact a1, by unfold cN at a2 ⊢; rw [e80]; exact a2, fun r hr => CRd_fe h (fun q => by have := hk 3 r q; omega) (fun f hf q => (hp f r q).1 (Or.inl hf)) (fun q => by have := (hp 42 _ q).2; omega) (fun q => by have := (hp 80 _ q).2; omega) (fun f i hf q => (hp f i q).1 (Or.inr hf)) (a3 r hr), fun r hr => ?_⟩
  obtain ⟨b1, b2, b3⟩ := a4 r hr
  exact ⟨fun k hkk q => b1 k hkk ((h.1 k r (fun z => by have := hk k r z; omega)).mp q), fun q => b2 ((h.1 1 _ (fun z => by have := hk 1 _ z; omega)).mp q), fun q => b3 ((h.1 2 _ (fun z => by have := hk 2 _ z; omega)).mp q)⟩
theorem CLW_fe (h : fe K P c d) (hk : ∀ u, ¬ K 14 u) (hp : ∀ f i, P f i → ¬ (560 ≤ f ∧ f ≤ 565) ∧ (f = 42 ∨ f = 80 → i ≠ 1)) (hc : CLW c M) : CLW d M :=
  CLW_tr (by rw [h.2.2.2.2 42 1 (fun q => by have := hp 42 1 q; omega)]) (by rw [h.2.2.2.2 80 1 (fun q => by have := hp 80 1 q; omega)]) (fun f i hf => by rw [h.2.2.2.2 f i (fun q => (hp f i q).1 hf)]) (fun u => h.1 14 u (hk u)) hc
theorem CLI_fe (h : fe K P c d) (hk : ∀ u, ¬ K 15 u) (hp : ∀ f i, P f i → ¬ (f = 600 ∨ f = 601) ∧ (f = 42 ∨ f = 80 → i ≠ 2)) (hc : CLI c M) : CLI d M :=
  CLI_tr (by rw [h.2.2.2.2 42 2 (fun q => by have := hp 42 2 q; omega)]) (by rw [h.2.2.2.2 80 2 (fun q => by have := hp 80 2 q; omega)]) (fun i => by rw [h.2.2.2.2 600 i (fun q => (hp 600 i q).1 (by omega)), h.2.2.2.2 601 i (fun q => (hp 601 i q).1 (by omega))]; exact ⟨rfl, rfl⟩) (fun u => h.1 15 u (hk u)) hc
theorem CLU_fe (h : fe K P c d) (hk : ∀ u, ¬ K 16 u ∧ ¬ K 17 u) (hp : ∀ f i, P f i → ¬ (f = 640 ∨ f = 641 ∨ f = 680) ∧ (f = 42 ∨ f = 80 → i ≠ 3)) (hc : CLU c M) : CLU d M :=
  CLU_tr (by rw [h.2.2.2.2 42 3 (fun q => by have := hp 42 3 q; omega)]) (by rw [h.2.2.2.2 80 3 (fun q => by have := hp 80 3 q; omega)]) (fun f i hf => h.2.2.2.2 f i (fun q => (hp f i q).1 hf)) (fun u => h.1 16 u (hk u).1) (fun u => (h.1 17 u (hk u).2).mp) hc
theorem fe.trans {K' P' : Nat → Nat → Prop} {e : cc_C} (h : fe K P c d) (h2 : fe K' P' d e) : fe (fun k i => K k i ∨ K' k i) (fun f i => P f i ∨ P' f i) c e :=
  ⟨fun k i hk => (h2.1 k i (fun z => hk (Or.inr z))).trans (h.1 k i (fun z => hk (Or.inl z))), fun r e => (h2.2.1 r e).trans (h.2.1 r e), h2.2.2.1.trans h.2.2.1, h2.2.2.2.1.trans h.2.2.2.1, fun f i hp => (h2.2.2.2.2 f i (fun z => hp (Or.inr z))).trans (h.2.2.2.2 f i (fun z => hp (Or.inl z)))⟩
theorem fe_dL {i b q z : Nat} (hi : i < 4) : fe (fun k i' => k = 2 ∧ i' = i) (fun f i' => i' = i ∧ (f = 40 ∨ f = 42 ∨ f = 80)) c (dL c i b q z) :=
  ⟨fun k i' hk => ⟨fun h => h.elim id (fun h => absurd ⟨h.1, h.2.1⟩ hk), Or.inl⟩, fun r e => dL_A (by omega) (by omega), rfl, rfl, fun f i' hp => funext fun j => dL_S hp⟩
theorem fe_dI {m a : Nat} : fe (fun k i' => k = 15 ∧ i' = m) (fun f i' => i' = m ∧ (f = 600 ∨ f = 601)) c (dI c m a) :=
  ⟨fun k i' hk => ⟨fun h => h.elim id (fun h => absurd ⟨h.1, h.2.1⟩ hk), Or.inl⟩, fun r e => dI_A (by omega), rfl, rfl, fun f i' hp => funext fun j => dI_S (by omega)⟩
theorem fe_dU {m a q : Nat} : fe (fun k i' => (k = 16 ∨ k = 17) ∧ i' = m) (fun f i' => i' = m ∧ (f = 640 ∨ f = 641 ∨ f = 680)) c (dU c m a q) :=
  ⟨fun k i' hk => ⟨fun h => h.elim id (fun h => absurd (by omega) hk), Or.inl⟩, fun r e => dU_A (by omega), rfl, rfl, fun f i' hp => funext fun j => dU_S (by omega)⟩
theorem fe_dW {m a : Nat} {kd p fst x : Int32} : fe (fun k i' => k = 14 ∧ i' = m) (fun f i' => i' = m ∧ 560 ≤ f ∧ f ≤ 565) c (dW c m a kd p fst x) :=
  ⟨fun k i' hk => ⟨fun h => h.elim id (fun h => absurd ⟨h.1, h.2.1⟩ hk), Or.inl⟩, fun r e => dW_A (by omega), rfl, rfl, fun f i' hp => funext fun j => dW_S (by omega)⟩
def kR (r k i : Nat) : Prop := (k = 1 ∧ i = r + 4) ∨ ((k = 3 ∨ (7 ≤ k ∧ k ≤ 13)) ∧ i = r)
def pR (r f i : Nat) : Prop := ((pRd f ∨ f = 120) ∧ i = r) ∨ ((f = 40 ∨ f = 42 ∨ f = 80) ∧ i = r + 4)
theorem fe_dR {r n a3 a1 a7 a8 a9 a10 a11 a12 a13 : Nat} : fe (kR r) (pR r) c (dR c r n a3 a1 a7 a8 a9 a10 a11 a12 a13) :=
  ⟨fun k i' hk => ⟨fun h => h.elim id (fun h => absurd (by unfold kR; omega) hk), Or.inl⟩, fun r e => dR_A (by omega), rfl, rfl, fun f i' hp => funext fun j => dR_S (by unfold pR pRd at hp; omega)⟩
theorem cN_nI {f i n : Nat} (h : cS c f i 0 = nI n) (hn : n < 2 ^ 31) : cN c f i = n := by
  unfold cN
  rw [h]
  exact nI_clamp hn
end
def xAS : List String := ["java/lang/IllegalArgumentException", "java/lang/IllegalStateException"]
def xS : List String := ["java/lang/IllegalStateException"]
def newX (n : Nat) : cc_Rd := ((n, 0, fun _ => (0, 0, 0, 0)), (111, 0, 0), (0, fun _ => (0, 0, 0)))
def spRiddle (M : cc_M) (x : Int32) : cc_Sp := if x < 3 ∨ ¬ x ≤ 6 then (1, 0, M) else if mR M = 20 then (2, 0, M) else (0, nI (mR M), sX M (mR M + 1) (upF (mX M) (mR M) (newX x.toNatClampNeg)))
def spIssue (M : cc_M) : cc_Sp := if mI M = 12 then (1, 0, M) else (0, nI (mI M), sJ M (mI M + 1) (upF (mJ M) (mI M) (109, 0)))
def spCust (M : cc_M) : cc_Sp := if mU M = 8 then (1, 0, M) else (0, nI (mU M), sV M (mU M + 1) (upF (mV M) (mU M) (0, 0, fun _ => false)))
section
variable {g : Nat → Nat} {c : cc_C} {M : cc_M} {a t : Nat} {x : Int32}
theorem c_riddle (s : sl c 0 0 0 a) (hC : CL c M) (w : wfM M t) : wc g (wp_X8_riddle g) c [.ref a, .int x] (okC (spRiddle M x) c) (okX xAS (spRiddle M x) c) := by
  have b20 := w.1.1
  refine wc_cw fun hw => ?_
  have k := kd_ok hw s.1
  have hC' := hC
  obtain ⟨d1, ⟨r1, r2, r3, r4⟩, d3, d4, d5, d6⟩ := hC'
  refine mk_X8_riddle_0 s ⟨fun q => lX 0 (if_pos (Or.inl q)) rfl kC_rfl hC, fun q => ⟨fun q6 => s_size ⟨k.1, rfl⟩ ⟨_, rfl, fun q2 => ?_, fun q2 => ?_⟩, fun q6 => lX 0 (if_pos (Or.inr q6)) rfl kC_rfl hC⟩⟩
  · rw [r1] at q2
    have hlt : mR M < 20 := (nI_ltI (b := 20) (by omega) (by omega)).mp q2
    obtain ⟨n, hn, rfl⟩ := nI_of (x := x) (fun z => q (Int32.lt_trans z (by decide)))
    have hn3 : 3 ≤ n := Nat.le_of_not_lt fun z => q (nI_lt (b := 3) z (by omega))
    have hn6 : n ≤ 6 := (nI_leI (b := 6) hn (by omega)).mp q6
    have e : spRiddle M (nI n) = (0, nI (mR M), sX M (mR M + 1) (upF (mX M) (mR M) (newX n))) := by
      unfold spRiddle
      rw [if_neg (fun z => by
        rcases z with z | z
        · exact q z
        · exact z q6), if_neg (by omega), nI_clamp hn]
    obtain ⟨f1, f2, f3⟩ := r4 (mR M) (Nat.le_refl _)
    refine s_newRiddle (n := n) (r := mR M) rfl hn6 (f1 3 (by omega)) f2 f3 (f1 7 (by omega)) (f1 8 (by omega)) (f1 9 (by omega)) (f1 10 (by omega)) (f1 11 (by omega)) (f1 12 (by omega)) (f1 13 (by omega)) (fun b a1 a7 a8 a9 a10 a11 a12 a13 => ⟨mR M, ⟨Or.inr (by omega), dR_a3⟩, ?_⟩)
    have hfe := fe_dR (c := c) (r := mR M) (n := n) (a3 := b) (a1 := a1) (a7 := a7) (a8 := a8) (a9 := a9) (a10 := a10) (a11 := a11) (a12 := a12) (a13 := a13)
    have e0 : ∀ f, f = 42 ∨ f = 80 → cS (dR c (mR M) n b a1 a7 a8 a9 a10 a11 a12 a13) f 0 = cS c f 0 := fun f hf => hfe.2.2.2.2 f 0 (fun z => by unfold pR pRd at z; omega)
    have n42 : cN (dR c (mR M) n b a1 a7 a8 a9 a10 a11 a12 a13) 42 0 = mR M := cN_nI (by rw [e0 42 (by omega)]; exact r1) (by omega)
    refine s_add (i := 0) ⟨Or.inl k.1, dR_A (by omega)⟩ ⟨Or.inr (by show 3 = 3 ∧ cN _ 42 0 = mR M ∧ 0 = 0 ∨ _; omega), ?_⟩ (by rw [n42]; omega) ?_ (fun q z hz => ⟨_, rfl, s_size ⟨Or.inl (Or.inl k.1), rfl⟩ ⟨_, rfl, ?_⟩⟩)
    · show cA _ 3 (cN _ 42 0) 0 = b
      rw [n42]
      exact dR_a3
    · unfold cN
      rw [e0 80 (by omega)]
      exact r2
    have hf2 := hfe.trans (fe_dL (c := dR c (mR M) n b a1 a7 a8 a9 a10 a11 a12 a13) (i := 0) (b := b) (q := q) (z := z) (by omega))
    have e42 : cS (dL (dR c (mR M) n b a1 a7 a8 a9 a10 a11 a12 a13) 0 b q z) 42 0 0 = nI (mR M + 1) := by
      rw [dL_s42, e0 42 (by omega), r1, nI_1]
    refine lC e (by rw [e42]; exact pk_sub (b := 1) (by omega)) (kC_fe hf2 (fun f i z => by unfold pR pRd at z; omega)) ⟨(hf2.1 0 0 (fun z => by unfold kR at z; omega)).mpr d1, ⟨e42, ?_, fun r hr => ?_, fun r hr => ?_⟩, CLW_fe hf2 (fun u z => by unfold kR at z; omega) (fun f i z => by unfold pR pRd at z; omega) d3, CLI_fe hf2 (fun u z => by unfold kR at z; omega) (fun f i z => by unfold pR pRd at z; omega) d4, CLU_fe hf2 (fun u => ⟨fun z => by unfold kR at z; omega, fun z => by unfold kR at z; omega⟩) (fun f i z => by unfold pR pRd at z; omega) d5, d6⟩
    · unfold cN
      rw [dL_s80, nI_clamp (by omega)]
      exact hz
    · show CRd _ r (upF (mX M) (mR M) (newX n) r)
      by_cases hrr : r = mR M
      · subst hrr
        rw [upF_at]
        have row : ∀ f i j, ¬ (i = 0 ∧ (f = 40 ∨ f = 42 ∨ f = 80)) → cS (dL (dR c (mR M) n b a1 a7 a8 a9 a10 a11 a12 a13) 0 b q z) f i j = cS (dR c (mR M) n b a1 a7 a8 a9 a10 a11 a12 a13) f i j := fun f i j h => dL_S h
        refine ⟨Or.inl (Or.inr (by omega)), ?_, ?_, fun e he => absurd he (Nat.not_lt_zero e), ?_, ?_, ⟨?_, by show 0 ≤ 36; omega, fun i hi => absurd hi (Nat.not_lt_zero i), ?_⟩, ?_, Or.inl ?_, ?_⟩
        · rw [row 120 _ 0 (by omega)]; exact dR_s120
        · rw [row 42 _ 0 (by omega)]; exact dR_s42
        · rw [row 125 _ 0 (by omega)]; exact dR_s125
        · rw [row 284 _ 0 (by omega)]; exact dR_s284
        · rw [row 283 _ 0 (by omega)]; exact dR_s283
        · rw [row 286 _ 0 (by omega)]; exact dR_s286
        · rw [row 126 _ 0 (by omega)]; exact dR_s126
        · rw [row 124 _ 0 (by omega)]; exact dR_s124
        · unfold cN
          rw [row 80 _ 0 (by omega), dR_s80]
          decide
      · rw [upF_ne hrr]
        have hr' : r < mR M := by
          have : r < mR M + 1 := hr
          omega
        exact CRd_fe hf2 (fun z => by unfold kR at z; omega) (fun f hf z => by unfold cdR at hf; unfold pR pRd at z; omega) (fun z => by unfold pR pRd at z; omega) (fun z => by unfold pR pRd at z; omega) (fun f i hf z => by unfold pR pRd at z; omega) (r3 r hr')
    · have hr' : mR M + 1 ≤ r := hr
      obtain ⟨b1, b2, b3⟩ := r4 r (by omega)
      exact ⟨fun k hkk q => b1 k hkk ((hf2.1 k r (fun z => by unfold kR at z; omega)).mp q), fun q => b2 ((hf2.1 1 _ (fun z => by unfold kR at z; omega)).mp q), fun q => b3 ((hf2.1 2 _ (fun z => by unfold kR at z; omega)).mp q)⟩
  · rw [r1] at q2
    have : mR M = 20 := by
      have : ¬ mR M < 20 := fun z => q2 (nI_lt (b := 20) z (by omega))
      omega
    refine lX (M := M) (y := 0) 1 ?_ rfl kC_rfl hC
    unfold spRiddle
    rw [if_neg (fun z => by
      rcases z with z | z
      · exact q z
      · exact z q6), if_pos this]
theorem c_issue (s : sl c 0 0 0 a) (hC : CL c M) (w : wfM M t) : wc g (wp_X8_issue g) c [.ref a] (okC (spIssue M) c) (okX xS (spIssue M) c) := by
  have b12 := w.2.2.1.1
  refine wc_cw fun hw => ?_
  have k := kd_ok hw s.1
  have hC' := hC
  obtain ⟨d1, d2, d3, ⟨r1, r2, r3, r4⟩, d5, d6⟩ := hC'
  refine mk_X8_issue_0 s (s_size ⟨k.2.2.1, rfl⟩ ⟨_, rfl, fun q2 => ?_, fun q2 => ?_⟩)
  · rw [r1] at q2
    have hlt : mI M < 12 := (nI_ltI (b := 12) (by omega) (by omega)).mp q2
    refine s_newIssue (m := mI M) (r4 (mI M) (Nat.le_refl _)) (fun b => ⟨mI M, ⟨Or.inr (by omega), dI_a15⟩, ?_⟩)
    have hfe := fe_dI (c := c) (m := mI M) (a := b)
    have e0 : ∀ f, f = 42 ∨ f = 80 → cS (dI c (mI M) b) f 2 = cS c f 2 := fun f hf => hfe.2.2.2.2 f 2 (fun z => by omega)
    have n42 : cN (dI c (mI M) b) 42 2 = mI M := cN_nI (by rw [e0 42 (by omega)]; exact r1) (by omega)
    refine s_add (i := 2) ⟨Or.inl k.2.2.1, dI_A (by omega)⟩ ⟨Or.inr (by show 15 = 15 ∧ cN _ 42 2 = mI M ∧ 0 = 0; omega), ?_⟩ (by rw [n42]; omega) ?_ (fun q z hz => ⟨_, rfl, s_size ⟨Or.inl (Or.inl k.2.2.1), rfl⟩ ⟨_, rfl, ?_⟩⟩)
    · show cA _ 15 (cN _ 42 2) 0 = b
      rw [n42]
      exact dI_a15
    · unfold cN
      rw [e0 80 (by omega)]
      exact r2
    have hf2 := hfe.trans (fe_dL (c := dI c (mI M) b) (i := 2) (b := b) (q := q) (z := z) (by omega))
    have e42 : cS (dL (dI c (mI M) b) 2 b q z) 42 2 0 = nI (mI M + 1) := by
      rw [dL_s42, e0 42 (by omega), r1, nI_1]
    refine lC (if_neg (by omega)) (by rw [e42]; exact pk_sub (b := 1) (by omega)) (kC_fe hf2 (fun f i z => by omega)) ⟨(hf2.1 0 0 (fun z => by omega)).mpr d1, CLR_fe hf2 (fun k i z => by omega) (fun f i z => by unfold cdR; omega) d2, CLW_fe hf2 (fun u z => by omega) (fun f i z => by omega) d3, ⟨e42, ?_, fun r hr => ?_, fun r hr => ?_⟩, CLU_fe hf2 (fun u => ⟨fun z => by omega, fun z => by omega⟩) (fun f i z => by omega) d5, d6⟩
    · unfold cN
      rw [dL_s80, nI_clamp (by omega)]
      exact hz
    · show cV _ 15 r 0 ∧ _ = (upF (mJ M) (mI M) (109, 0) r).1 ∧ _ = nI (upF (mJ M) (mI M) (109, 0) r).2
      by_cases hrr : r = mI M
      · subst hrr
        rw [upF_at, dL_S (by omega), dL_S (by omega)]
        exact ⟨Or.inl (Or.inr ⟨rfl, rfl, rfl⟩), dI_s600, dI_s601⟩
      · rw [upF_ne hrr]
        have hr' : r < mI M := by
          have : r < mI M + 1 := hr
          omega
        obtain ⟨b1, b2, b3⟩ := r3 r hr'
        rw [hf2.2.2.2.2 600 r (by omega), hf2.2.2.2.2 601 r (by omega)]
        exact ⟨(hf2.1 15 r (by omega)).mpr b1, b2, b3⟩
    · have hr' : mI M + 1 ≤ r := hr
      exact fun q => r4 r (by omega) ((hf2.1 15 r (by omega)).mp q)
  · rw [r1] at q2
    have : mI M = 12 := by
      have : ¬ mI M < 12 := fun z => q2 (nI_lt (b := 12) z (by omega))
      omega
    exact lX 0 (if_pos this) rfl kC_rfl hC
theorem c_customer (s : sl c 0 0 0 a) (hC : CL c M) (w : wfM M t) : wc g (wp_X8_customer g) c [.ref a] (okC (spCust M) c) (okX xS (spCust M) c) := by
  have b8 := w.2.2.2.1.1
  refine wc_cw fun hw => ?_
  have k := kd_ok hw s.1
  have hC' := hC
  obtain ⟨d1, d2, d3, d4, ⟨r1, r2, r3, r4⟩, d6⟩ := hC'
  refine mk_X8_customer_0 s (s_size ⟨k.2.2.2, rfl⟩ ⟨_, rfl, fun q2 => ?_, fun q2 => ?_⟩)
  · rw [r1] at q2
    have hlt : mU M < 8 := (nI_ltI (b := 8) (by omega) (by omega)).mp q2
    refine s_newCustomer (m := mU M) (r4 (mU M) (Nat.le_refl _)).1 (r4 (mU M) (Nat.le_refl _)).2 (fun b b2 => ⟨mU M, ⟨Or.inr (by omega), dU_a16⟩, ?_⟩)
    have hfe := fe_dU (c := c) (m := mU M) (a := b) (q := b2)
    have e0 : ∀ f, f = 42 ∨ f = 80 → cS (dU c (mU M) b b2) f 3 = cS c f 3 := fun f hf => hfe.2.2.2.2 f 3 (fun z => by omega)
    have n42 : cN (dU c (mU M) b b2) 42 3 = mU M := cN_nI (by rw [e0 42 (by omega)]; exact r1) (by omega)
    refine s_add (i := 3) ⟨Or.inl k.2.2.2, dU_A (by omega)⟩ ⟨Or.inr (by show 16 = 16 ∧ cN _ 42 3 = mU M ∧ 0 = 0 ∨ _; omega), ?_⟩ (by rw [n42]; omega) ?_ (fun q z hz => ⟨_, rfl, s_size ⟨Or.inl (Or.inl k.2.2.2), rfl⟩ ⟨_, rfl, ?_⟩⟩)
    · show cA _ 16 (cN _ 42 3) 0 = b
      rw [n42]
      exact dU_a16
    · unfold cN
      rw [e0 80 (by omega)]
      exact r2
    have hf2 := hfe.trans (fe_dL (c := dU c (mU M) b b2) (i := 3) (b := b) (q := q) (z := z) (by omega))
    have e42 : cS (dL (dU c (mU M) b b2) 3 b q z) 42 3 0 = nI (mU M + 1) := by
      rw [dL_s42, e0 42 (by omega), r1, nI_1]
    refine lC (if_neg (by omega)) (by rw [e42]; exact pk_sub (b := 1) (by omega)) (kC_fe hf2 (fun f i z => by omega)) ⟨(hf2.1 0 0 (fun z => by omega)).mpr d1, CLR_fe hf2 (fun k i z => by omega) (fun f i z => by unfold cdR; omega) d2, CLW_fe hf2 (fun u z => by omega) (fun f i z => by omega) d3, CLI_fe hf2 (fun u z => by omega) (fun f i z => by omega) d4, ⟨e42, ?_, fun r hr => ?_, fun r hr => ?_⟩, d6⟩
    · unfold cN
      rw [dL_s80, nI_clamp (by omega)]
      exact hz
    · show cV _ 16 r 0 ∧ _ = nI (upF (mV M) (mU M) (0, 0, fun _ => false) r).1 ∧ _ = nI (upF (mV M) (mU M) (0, 0, fun _ => false) r).2.1 ∧ ∀ i, i < 12 → _ = bI ((upF (mV M) (mU M) (0, 0, fun _ => false) r).2.2 i)
      by_cases hrr : r = mU M
      · subst hrr
        rw [upF_at]
        refine ⟨Or.inl (Or.inr (by omega)), ?_, ?_, fun i hi => ?_⟩
        · rw [dL_S (by omega)]; exact dU_s640
        · rw [dL_S (by omega)]; exact dU_s641
        · rw [dL_S (by omega)]; exact dU_s680
      · rw [upF_ne hrr]
        have hr' : r < mU M := by
          have : r < mU M + 1 := hr
          omega
        obtain ⟨b1, b2, b3, b4⟩ := r3 r hr'
        rw [hf2.2.2.2.2 640 r (by omega), hf2.2.2.2.2 641 r (by omega), hf2.2.2.2.2 680 r (by omega)]
        exact ⟨(hf2.1 16 r (by omega)).mpr b1, b2, b3, b4⟩
    · have hr' : mU M + 1 ≤ r := hr
      exact ⟨fun q => (r4 r (by omega)).1 ((hf2.1 16 r (by omega)).mp q), fun q => (r4 r (by omega)).2 ((hf2.1 17 r (by omega)).mp q)⟩
  · rw [r1] at q2
    have : mU M = 8 := by
      have : ¬ mU M < 8 := fun z => q2 (nI_lt (b := 8) z (by omega))
      omega
    exact lX 0 (if_pos this) rfl kC_rfl hC
end
