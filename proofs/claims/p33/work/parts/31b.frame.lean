/-! frames of the class's picture -/
section
variable {c d : cc_C} {M : cc_M} {P : Nat → Nat → Prop}
theorem clC_x {r : Nat} {x : cc_Rd} (h : frx P c d) (hw : cw c) (hr : CRd c r x) (h8 : rdC x ≤ 8) : ∀ e, e < rdC x → clC d r e = clC c r e := by
  intro e he
  have h42 : cN c 42 (r + 4) = rdC x := by
    unfold cN
    rw [hr.2.2.1]
    exact nI_clamp (by omega)
  have hl := (el_slot hw (hw.2.2.1 r hr.1).1 (by omega : e < cN c 42 (r + 4))).1
  have hA : cA d 5 r e = cA c 5 r e := h.2.1 5 r e (by decide) (by decide) (by decide)
  have hh : ∀ f, 240 ≤ f → f ≤ 243 → cS d f (cA c 5 r e) = cS c f (cA c 5 r e) := fun f h1 h2 => h.2.2.2.2.2.2 _ f hl h1 h2
  unfold clC
  rw [hA, hh 240 (by omega) (by omega), hh 241 (by omega) (by omega), hh 242 (by omega) (by omega), hh 243 (by omega) (by omega)]
theorem frx.r0 (h : frx P c d) {f i : Nat} (hp : ¬ P f i) (h1 : f ≠ 720 ∧ f ≠ 760 ∧ ¬ (240 ≤ f ∧ f ≤ 243)) : cS d f i = cS c f i := h.2.2.2.2.2.1 f i hp h1.1 h1.2.1 h1.2.2
theorem frx.v (h : frx P c d) {k i j : Nat} (h1 : k ≠ 18 ∧ k ≠ 19 ∧ k ≠ 6) : cV d k i j = cV c k i j := h.1 k i j h1.1 h1.2.1 h1.2.2
theorem CRd_x {r : Nat} {x : cc_Rd} (h : frx P c d) (hw : cw c) (h8 : rdC x ≤ 8) (hp : ∀ f, cdR f → ¬ P f r) (h1 : ¬ P 42 (r + 4)) (h2 : ¬ P 80 (r + 4)) (hr : CRd c r x) : CRd d r x := by
  refine CRd_tr (by rw [h.v (by omega)]; exact id) (fun f hf => h.r0 (hp f hf) (by unfold cdR at hf; omega)) (by rw [h.r0 h1 (by omega)]) (by rw [h.r0 h2 (by omega)]) (clC_x h hw hr h8) hr
theorem CLW_x (h : frx P c d) (hp : ∀ f i, f = 42 ∨ f = 80 ∨ (560 ≤ f ∧ f ≤ 565) → ¬ P f i) (hc : CLW c M) : CLW d M :=
  CLW_tr (by rw [h.r0 (hp 42 1 (by omega)) (by omega)]) (by rw [h.r0 (hp 80 1 (by omega)) (by omega)]) (fun f i hf => by rw [h.r0 (hp f i (by omega)) (by omega)]) (fun u => by rw [h.v (by omega)]) hc
theorem CLI_x (h : frx P c d) (hp : ∀ f i, f = 42 ∨ f = 80 ∨ f = 600 ∨ f = 601 → ¬ P f i) (hc : CLI c M) : CLI d M :=
  CLI_tr (by rw [h.r0 (hp 42 2 (by omega)) (by omega)]) (by rw [h.r0 (hp 80 2 (by omega)) (by omega)]) (fun i => by rw [h.r0 (hp 600 i (by omega)) (by omega), h.r0 (hp 601 i (by omega)) (by omega)]; exact ⟨rfl, rfl⟩) (fun u => by rw [h.v (by omega)]) hc
theorem CLU_x (h : frx P c d) (hp : ∀ f i, f = 42 ∨ f = 80 ∨ f = 640 ∨ f = 641 ∨ f = 680 → ¬ P f i) (hc : CLU c M) : CLU d M :=
  CLU_tr (by rw [h.r0 (hp 42 3 (by omega)) (by omega)]) (by rw [h.r0 (hp 80 3 (by omega)) (by omega)]) (fun f i hf => h.r0 (hp f i (by omega)) (by omega)) (fun u => by rw [h.v (by omega)]) (fun u => by rw [h.v (by omega)]; exact id) hc
theorem CLR_x {X' : Nat → cc_Rd} (h : frx P c d) (hw : cw c) (h8 : ∀ r, r < mR M → rdC (mX M r) ≤ 8) (hp : ∀ f i, f = 42 ∨ f = 80 → ¬ P f i) (hX : ∀ r, r < mR M → CRd c r (mX M r) → (∀ e, e < rdC (mX M r) → clC d r e = clC c r e) → CRd d r (X' r)) (hc : CLR c M) : CLR d (sX M (mR M) X') := by
  obtain ⟨a1, a2, a3, a4⟩ := hc
  refine ⟨by rw [h.r0 (hp 42 0 (by omega)) (by omega)]; exact a1, ?_, fun r hr => hX r hr (a3 r hr) (clC_x h hw (a3 r hr) (h8 r hr)), fun r hr => ?_⟩
  · unfold cN at a2 ⊢
    rw [h.r0 (hp 80 0 (by omega)) (by omega)]
    exact a2
  · obtain ⟨b1, b2, b3⟩ := a4 r hr
    exact ⟨fun k hk => by rw [h.v (by omega)]; exact b1 k hk, by rw [h.v (by omega)]; exact b2, by rw [h.v (by omega)]; exact b3⟩
/-- codes of riddles -/
def pRd (f : Nat) : Prop := f = 124 ∨ f = 125 ∨ f = 126 ∨ f = 283 ∨ f = 284 ∨ f = 286 ∨ f = 320 ∨ f = 360 ∨ f = 400 ∨ f = 480 ∨ f = 520
/-- one riddle's codes change -/
theorem CL_one {r : Nat} {x' : cc_Rd} (h : frx P c d) (hw : cw c) (h8 : ∀ r, r < mR M → rdC (mX M r) ≤ 8) (hp : ∀ f i, P f i → pRd f ∧ i = r) (hX : r < mR M → CRd c r (mX M r) → (∀ e, e < rdC (mX M r) → clC d r e = clC c r e) → CRd d r x') (hc : CL c M) : CL d (sX M (mR M) (upF (mX M) r x')) := by
  obtain ⟨a1, a2, a3, a4, a5, a6⟩ := hc
  have hp' : ∀ f i, ¬ pRd f → ¬ P f i := fun f i z q => z (hp f i q).1
  have no : ∀ f, f = 42 ∨ f = 80 ∨ (560 ≤ f ∧ f ≤ 565) ∨ f = 600 ∨ f = 601 ∨ f = 640 ∨ f = 641 ∨ f = 680 → ¬ pRd f := fun f hf q => by
    unfold pRd at q
    omega
  refine ⟨by rw [h.v (by omega)]; exact a1, CLR_x h hw h8 (fun f i hf => hp' f i (no f (by omega))) (fun q hq hr hk => ?_) a2, CLW_x h (fun f i hf => hp' f i (no f (by omega))) a3, CLI_x h (fun f i hf => hp' f i (no f (by omega))) a4, CLU_x h (fun f i hf => hp' f i (no f (by omega))) a5, by rw [h.2.2.2.1]; exact a6⟩
  by_cases hqr : q = r
  · subst hqr
    rw [upF_at]
    exact hX hq hr hk
  · rw [upF_ne hqr]
    exact CRd_x h hw (h8 q hq) (fun f _ z => hqr (hp f q z).2) (hp' 42 _ (no 42 (by omega))) (hp' 80 _ (no 80 (by omega))) hr
theorem sX_same {r : Nat} : sX M (mR M) (upF (mX M) r (mX M r)) = M := by
  have : upF (mX M) r (mX M r) = mX M := funext fun i => by
    by_cases h : i = r
    · rw [h, upF_at]
    · rw [upF_ne h]
  rw [this]
  rfl
theorem ansOk_of {r : Nat} {x : cc_Rd} {nI : Nat} {J : Nat → Int32 × Nat} (hw : cw c) (hr : CRd c r x) (w : wfX nI J x) : ansOk c r (rdN x) (rdC x) := by
  obtain ⟨a1, a2, a3, a4, -⟩ := hr
  obtain ⟨w1, w2, w3, w4⟩ := w.1
  refine ⟨(hw.2.2.1 r a1).1, hw, ?_, w2, w1, a3, w3, fun e he => ?_⟩
  · unfold cN
    rw [a2]
    exact nI_clamp (by omega)
  · have := w4 e he
    unfold KvK at this ⊢
    rw [a4 e he]
    exact this
theorem prf_C {r : Nat} {x : cc_Rd} (hr : CRd c r x) (O : cc_O) (nO : Nat) : prf (clC c r) O (rdN x) (rdC x) nO = prf (rdK x) O (rdN x) (rdC x) nO := prf_congr hr.2.2.2.1
theorem ans_C {K K' : cc_K} {n nc : Nat} (h : ∀ e, e < nc → K e = K' e) : (fun l => aF K l nc) = fun l => aF K' l nc := funext fun _ => aF_congr h
theorem kd_ok (hw : cw c) (s : cV c 0 0 0) : cV c 1 0 0 ∧ cV c 1 1 0 ∧ cV c 1 2 0 ∧ cV c 1 3 0 := hw.2.1 s
end
/-! numbers of a call -/
theorem ix_of {x : Int32} {n : Nat} (hn : n < 2 ^ 31) (h0 : ¬ x < 0) (h1 : x < nI n) : ∃ j : Nat, j < n ∧ x = nI j := by
  rcases pk_ix x hn with h | h | h
  · exact absurd h h0
  · exact absurd h1 (Int32.not_lt.mpr h)
  · exact h
/-- the place of a number below n: none if there is none -/
def ixo (n : Nat) (x : Int32) : Option Nat := if x < 0 ∨ nI n ≤ x then none else some x.toNatClampNeg
theorem ixo_no {n : Nat} {x : Int32} (h : x < 0 ∨ nI n ≤ x) : ixo n x = none := if_pos h
theorem ixo_at {n j : Nat} (hn : n < 2 ^ 31) (h : j < n) : ixo n (nI j) = some j := by
  unfold ixo
  rw [if_neg (fun q => by
    rcases q with q | q
    · exact nI_pos (by omega) q
    · exact nI_ge h hn q), nI_clamp (by omega)]
section
variable {g : Nat → Nat} {c : cc_C} {M : cc_M} {a : Nat} {x : Int32} {R : Option Value → cc_C → Prop} {X : String → cc_C → Prop}
theorem s_findRiddle (s : sl c 0 0 0 a) (hl : CLR c M) (hb : mR M ≤ 20) (HX : ixo (mR M) x = none → X "java/lang/IndexOutOfBoundsException" c) (H : ∀ r, r < mR M → x = nI r → R (some (.ref (cA c 3 r 0))) c) : wc g (wp_X8_findRiddle g) c [.ref a, .int x] R X := by
  refine wc_cw fun hw => ?_
  have k := kd_ok hw s.1
  refine mk_X8_findRiddle_0 s ⟨fun q => HX (ixo_no (Or.inl q)), fun q => s_size ⟨k.1, rfl⟩ ⟨_, rfl, fun q2 => ?_, fun q2 => HX (ixo_no (Or.inr ?_))⟩⟩
  · rw [hl.1] at q2
    obtain ⟨r, hr, rfl⟩ := ix_of (by omega) q q2
    exact s_get ⟨k.1, rfl⟩ rfl (by rw [hl.1]; exact q2) (by omega) ⟨_, r, rfl, ⟨(hl.2.2.1 r hr).1, rfl⟩, H r hr rfl⟩
  · rw [hl.1] at q2
    exact Int32.not_lt.mp q2
theorem s_findIssue (s : sl c 0 0 0 a) (hl : CLI c M) (hb : mI M ≤ 12) (HX : ixo (mI M) x = none → X "java/lang/IndexOutOfBoundsException" c) (H : ∀ r, r < mI M → x = nI r → R (some (.ref (cA c 15 r 0))) c) : wc g (wp_X8_findIssue g) c [.ref a, .int x] R X := by
  refine wc_cw fun hw => ?_
  have k := kd_ok hw s.1
  refine mk_X8_findIssue_0 s ⟨fun q => HX (ixo_no (Or.inl q)), fun q => s_size ⟨k.2.2.1, rfl⟩ ⟨_, rfl, fun q2 => ?_, fun q2 => HX (ixo_no (Or.inr ?_))⟩⟩
  · rw [hl.1] at q2
    obtain ⟨r, hr, rfl⟩ := ix_of (by omega) q q2
    exact s_get ⟨k.2.2.1, rfl⟩ rfl (by rw [hl.1]; exact q2) (by omega) ⟨_, r, rfl, ⟨(hl.2.2.1 r hr).1, rfl⟩, H r hr rfl⟩
  · rw [hl.1] at q2
    exact Int32.not_lt.mp q2
theorem s_findCustomer (s : sl c 0 0 0 a) (hl : CLU c M) (hb : mU M ≤ 8) (HX : ixo (mU M) x = none → X "java/lang/IndexOutOfBoundsException" c) (H : ∀ r, r < mU M → x = nI r → R (some (.ref (cA c 16 r 0))) c) : wc g (wp_X8_findCustomer g) c [.ref a, .int x] R X := by
  refine wc_cw fun hw => ?_
  have k := kd_ok hw s.1
  refine mk_X8_findCustomer_0 s ⟨fun q => HX (ixo_no (Or.inl q)), fun q => s_size ⟨k.2.2.2, rfl⟩ ⟨_, rfl, fun q2 => ?_, fun q2 => HX (ixo_no (Or.inr ?_))⟩⟩
  · rw [hl.1] at q2
    obtain ⟨r, hr, rfl⟩ := ix_of (by omega) q q2
    exact s_get ⟨k.2.2.2, rfl⟩ rfl (by rw [hl.1]; exact q2) (by omega) ⟨_, r, rfl, ⟨(hl.2.2.1 r hr).1, rfl⟩, H r hr rfl⟩
  · rw [hl.1] at q2
    exact Int32.not_lt.mp q2
theorem s_checkRule (s : sl c 0 0 0 a) (hl : CLW c M) (HX : ixo (10 + mW M) x = none → X "java/lang/IndexOutOfBoundsException" c) (H : ∀ r, r < 10 + mW M → x = nI r → R none c) : wc g (wp_X8_checkRule g) c [.ref a, .int x] R X := by
  refine wc_cw fun hw => ?_
  have k := kd_ok hw s.1
  have h6 := hl.1.2.1
  have e : (10 : Int32) + cS c 42 1 0 = nI (10 + mW M) := by rw [hl.1.1]; exact nI_add 10 _
  refine mk_X8_checkRule_0 s ⟨fun q => HX (ixo_no (Or.inl q)), fun q => s_size ⟨k.2.1, rfl⟩ ⟨_, rfl, fun q2 => ?_, fun q2 => HX (ixo_no (Or.inr ?_))⟩⟩
  · rw [e] at q2
    obtain ⟨r, hr, rfl⟩ := ix_of (by omega) q q2
    exact H r hr rfl
  · rw [e] at q2
    exact Int32.not_lt.mp q2
/-- own rules from 10 on -/
def ixw (n : Nat) (x : Int32) : Option Nat := if x < 10 ∨ nI (10 + n) ≤ x then none else some (x.toNatClampNeg - 10)
theorem ixw_no {n : Nat} {x : Int32} (h : x < 10 ∨ nI (10 + n) ≤ x) : ixw n x = none := if_pos h
theorem ixw_at {n j : Nat} (hn : n < 1000) (h : j < n) : ixw n (nI (10 + j)) = some j := by
  unfold ixw
  rw [if_neg (fun q => by
    rcases q with q | q
    · exact nI_nlt (a := 10 + j) (b := 10) (by omega) (by omega) q
    · exact nI_ge (a := 10 + j) (b := 10 + n) (by omega) (by omega) q), nI_clamp (by omega), show 10 + j - 10 = j by omega]
theorem ixw_of {x : Int32} {n : Nat} (hn : n < 1000) (h : ¬ (x < 10 ∨ nI (10 + n) ≤ x)) : ∃ j : Nat, j < n ∧ x = nI (10 + j) := by
  have h1 : ¬ x < 10 := fun q => h (Or.inl q)
  have h2 : ¬ nI (10 + n) ≤ x := fun q => h (Or.inr q)
  obtain ⟨j, hj, rfl⟩ := ix_of (n := 10 + n) (by omega) (fun q => h1 (Int32.lt_trans q (by decide))) (Int32.not_le.mp h2)
  have : 10 ≤ j := Nat.le_of_not_lt fun q => h1 (nI_lt (b := 10) q (by omega))
  exact ⟨j - 10, by omega, by rw [show 10 + (j - 10) = j by omega]⟩
theorem s_findOwnRule (s : sl c 0 0 0 a) (hl : CLW c M) (HX : ixw (mW M) x = none → X "java/lang/IndexOutOfBoundsException" c) (H : ∀ u, u < mW M → x = nI (10 + u) → R (some (.ref (cA c 14 u 0))) c) : wc g (wp_X8_findOwnRule g) c [.ref a, .int x] R X := by
  refine wc_cw fun hw => ?_
  have k := kd_ok hw s.1
  have h6 := hl.1.2.1
  by_cases h : x < 10 ∨ nI (10 + mW M) ≤ x
  · refine mk_X8_findOwnRule_0 s ⟨fun q => HX (ixw_no h), fun q => s_size ⟨k.2.1, rfl⟩ ⟨_, rfl, fun q2 => ?_, fun q2 => HX (ixw_no h)⟩⟩
    exfalso
    rcases h with h | h
    · exact q h
    · have h10 : (10 : Int32) ≤ x := Int32.not_lt.mp q
      obtain ⟨j, hj, rfl⟩ := nI_of (x := x) (fun z => q (Int32.lt_trans z (by decide)))
      have b1 : 10 + mW M ≤ j := (nI_leI (by omega) hj).mp h
      rw [hl.1.1, show nI j - 10 = nI (j - 10) from pk_sub (b := 10) (by omega)] at q2
      have := (nI_ltI (by omega) (by omega)).mp q2
      omega
  · obtain ⟨u, hu, rfl⟩ := ixw_of (by omega) h
    have e : nI (10 + u) - 10 = nI u := by
      have := pk_sub (a := 10 + u) (b := 10) (by omega)
      rw [show 10 + u - 10 = u by omega] at this
      exact this
    refine mk_X8_findOwnRule_0 s ⟨fun q => absurd (Or.inl q) h, fun q => s_size ⟨k.2.1, rfl⟩ ⟨_, rfl, fun q2 => ?_, fun q2 => ?_⟩⟩
    · rw [e]
      exact s_get ⟨k.2.1, rfl⟩ rfl (by rw [hl.1.1]; exact nI_lt hu (by omega)) (by omega) ⟨_, u, rfl, ⟨(hl.2.2.1 u hu).1, rfl⟩, H u hu rfl⟩
    · rw [e, hl.1.1] at q2
      exact absurd (nI_lt hu (by omega)) q2
end
