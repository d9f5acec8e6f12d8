/-! frames of the reference's picture -/
def fm (P : Nat → Nat → Nat → Prop) (c d : cc_C) : Prop := cA d = cA c ∧ cV d = cV c ∧ (∀ i, i ≠ 2 → cP d i = cP c i) ∧ cD d = cD c ∧ ∀ f i j, ¬ P f i j → cS d f i j = cS c f i j
section
variable {c d : cc_C} {M : cc_M} {P : Nat → Nat → Nat → Prop}
theorem fm_rfl : fm P c c := ⟨rfl, rfl, fun _ _ => rfl, rfl, fun _ _ _ _ => rfl⟩
theorem fm.set (h : fm P c d) {f i j : Nat} {x : Int32} (hp : P f i j) : fm P c (cset d f i j x) := ⟨h.1, h.2.1, h.2.2.1, h.2.2.2.1, fun f' i' j' hn => (cS_ne (fun e => hn (by obtain ⟨rfl, rfl, rfl⟩ := e; exact hp))).trans (h.2.2.2.2 f' i' j' hn)⟩
theorem fm.pset (h : fm P c d) {x : Int64} : fm P c (cpset d 2 0 x) := ⟨h.1, h.2.1, fun i hi => (funext fun j => cP_ne (fun e => hi e.1)).trans (h.2.2.1 i hi), h.2.2.2.1, fun f' i' j' hn => h.2.2.2.2 f' i' j' hn⟩
theorem fm.trans {e : cc_C} (h : fm P c d) (h2 : fm P d e) : fm P c e := ⟨h2.1.trans h.1, h2.2.1.trans h.2.1, fun i hi => (h2.2.2.1 i hi).trans (h.2.2.1 i hi), h2.2.2.2.1.trans h.2.2.2.1, fun f i j hp => (h2.2.2.2.2 f i j hp).trans (h.2.2.2.2 f i j hp)⟩
theorem fm.mono {Q : Nat → Nat → Nat → Prop} (h : fm P c d) (hpq : ∀ f i j, P f i j → Q f i j) : fm Q c d := ⟨h.1, h.2.1, h.2.2.1, h.2.2.2.1, fun f i j hq => h.2.2.2.2 f i j (fun hp => hq (hpq f i j hp))⟩
theorem fm.sl (h : fm P c d) {k i j a : Nat} (s : sl c k i j a) : sl d k i j a := ⟨by rw [h.2.1]; exact s.1, by rw [h.1]; exact s.2⟩
theorem fm_fr {Q : Nat → Nat → Prop} (h : fr Q c d) (hq : ∀ f i j, Q f i → P f i j) : fm P c d := ⟨h.1, h.2.1, fun i _ => by rw [h.2.2.1], h.2.2.2.1, fun f i j hp => by rw [h.row (fun q => hp (hq f i j q))]⟩
theorem kM_fm (h : fm P c d) (hp : ∀ f i j, P f i j → 869 ≤ f ∧ f ≤ 880) : kM c d := ⟨h.1, h.2.1, fun f hf => funext fun i => funext fun j => h.2.2.2.2 f i j (fun q => hf (hp f i j q)), h.2.2.1, h.2.2.2.1⟩
theorem RFr_fm {r : Nat} {x : cc_Rd} (h : fm P c d) (h1 : ∀ i, i < 6 → ¬ P 880 i r) (h2 : ∀ i e, 6 ≤ i ∧ i ≤ 9 → e < rdC x → ¬ P 880 i (8 * r + e)) (h3 : ∀ i k, 10 ≤ i ∧ i ≤ 12 → k < 36 → ¬ P 880 i (36 * r + k)) (k36 : rdk x ≤ 36) (hr : RFr c r x) : RFr d r x := by
  have e := h.2.2.2.2
  obtain ⟨a1, a2, a3, a4, a5, a6, a7⟩ := hr
  refine ⟨(e 880 0 r (h1 0 (by omega))).trans a1, (e 880 1 r (h1 1 (by omega))).trans a2, fun z hz => ?_, (e 880 2 r (h1 2 (by omega))).trans a4, (e 880 3 r (h1 3 (by omega))).trans a5, fun o => ?_, fun o => (e 880 5 r (h1 5 (by omega))).trans (a7 o)⟩
  · have := a3 z hz
    unfold clM at this ⊢
    rw [e 880 6 _ (h2 6 z (by omega) hz), e 880 7 _ (h2 7 z (by omega) hz), e 880 8 _ (h2 8 z (by omega) hz), e 880 9 _ (h2 9 z (by omega) hz)]
    exact this
  · obtain ⟨t1, t2, t3⟩ := a6 o
    refine ⟨(e 880 4 r (h1 4 (by omega))).trans t1, t2, fun i hi => ?_⟩
    rw [e 880 10 _ (h3 10 i (by omega) (by omega)), e 880 11 _ (h3 11 i (by omega) (by omega)), e 880 12 _ (h3 12 i (by omega) (by omega))]
    exact t3 i hi
theorem RFR_fm (h : fm P c d) (w : ∀ r, r < mR M → rdk (mX M r) ≤ 36) (hp : ∀ f i j, P f i j → f ≠ 870 ∧ (f = 880 → 13 ≤ i)) (hr : RFR c M) : RFR d M := by
  have e := h.2.2.2.2
  have no : ∀ i j, i < 13 → ¬ P 880 i j := fun i j hi q => by have := (hp 880 i j q).2 rfl; omega
  obtain ⟨a1, a2, a3⟩ := hr
  refine ⟨(e 870 0 0 (fun q => (hp 870 0 0 q).1 rfl)).trans a1, fun r hr => RFr_fm h (fun i hi => no i _ (by omega)) (fun i e hi _ => no i _ (by omega)) (fun i k hi _ => no i _ (by omega)) (w r hr) (a2 r hr), fun r h1 h2 => ?_⟩
  rw [e 880 1 r (no 1 r (by omega)), e 880 3 r (no 3 r (by omega))]
  exact a3 r h1 h2
theorem RFW_fm (h : fm P c d) (hp : ∀ f i j, P f i j → f ≠ 871 ∧ (f = 880 → ¬ (13 ≤ i ∧ i ≤ 17))) (hr : RFW c M) : RFW d M := by
  have e := h.2.2.2.2
  have no : ∀ i j, 13 ≤ i ∧ i ≤ 17 → ¬ P 880 i j := fun i j hi q => (hp 880 i j q).2 rfl hi
  obtain ⟨⟨a1, a2, a3⟩, a4⟩ := hr
  refine ⟨⟨(e 871 0 0 (fun q => (hp 871 0 0 q).1 rfl)).trans a1, a2, fun u hu => ?_⟩, fun u h1 h2 => (e 880 17 u (no 17 u (by omega))).trans (a4 u h1 h2)⟩
  have := a3 u hu
  unfold OvM at this ⊢
  rw [e 880 13 u (no 13 u (by omega)), e 880 14 u (no 14 u (by omega)), e 880 15 u (no 15 u (by omega)), e 880 16 u (no 16 u (by omega)), e 880 17 u (no 17 u (by omega))]
  exact this
theorem RFl_fm {n i : Nat} {X : Nat → cc_Rd} (h : fm P c d) (h1 : ¬ P 880 19 i) (h2 : ∀ k, k < 4 → ¬ P 880 21 (4 * i + k)) (hr : RFl c n X i) : RFl d n X i := by
  have e := h.2.2.2.2
  obtain ⟨m, p, a1, a2, a3, a4, a5⟩ := hr
  refine ⟨m, p, (e 880 19 i h1).trans a1, a2, fun k hk => ?_, a4, a5⟩
  rw [e 880 21 _ (h2 k (by omega))]
  exact a3 k hk
theorem RFi_fm {i : Nat} (h : fm P c d) (h0 : ¬ P 880 18 i) (h20 : ¬ P 880 20 i) (h1 : ¬ P 880 19 i) (h2 : ∀ k, k < 4 → ¬ P 880 21 (4 * i + k)) (hr : RFi c M i) : RFi d M i :=
  ⟨(h.2.2.2.2 880 18 i h0).trans hr.1, (h.2.2.2.2 880 20 i h20).trans hr.2.1, fun z => RFl_fm h h1 h2 (hr.2.2 z)⟩
theorem RFI_fm (h : fm P c d) (hp : ∀ f i j, P f i j → f ≠ 872 ∧ (f = 880 → ¬ (18 ≤ i ∧ i ≤ 21))) (hr : RFI c M) : RFI d M := by
  have e := h.2.2.2.2
  have no : ∀ i j, 18 ≤ i ∧ i ≤ 21 → ¬ P 880 i j := fun i j hi q => (hp 880 i j q).2 rfl hi
  obtain ⟨a1, a2, a3⟩ := hr
  exact ⟨(e 872 0 0 (fun q => (hp 872 0 0 q).1 rfl)).trans a1, fun i hi => RFi_fm h (no 18 i (by omega)) (no 20 i (by omega)) (no 19 i (by omega)) (fun k _ => no 21 _ (by omega)) (a2 i hi), fun i h1 h2 => ⟨(e 880 19 i (no 19 i (by omega))).trans (a3 i h1 h2).1, (e 880 20 i (no 20 i (by omega))).trans (a3 i h1 h2).2⟩⟩
theorem RFu_fm {q : Nat} {v : cc_Us} (h : fm P c d) (h1 : ¬ P 880 22 q) (h2 : ¬ P 880 23 q) (h3 : ∀ i, i < 12 → ¬ P 880 24 (12 * q + i)) (hr : RFu c q v) : RFu d q v :=
  ⟨(h.2.2.2.2 880 22 q h1).trans hr.1, (h.2.2.2.2 880 23 q h2).trans hr.2.1, fun i hi => (h.2.2.2.2 880 24 _ (h3 i hi)).trans (hr.2.2 i hi)⟩
theorem RFU_fm (h : fm P c d) (hp : ∀ f i j, P f i j → f ≠ 873 ∧ (f = 880 → ¬ (22 ≤ i ∧ i ≤ 24))) (hr : RFU c M) : RFU d M := by
  have e := h.2.2.2.2
  have no : ∀ i j, 22 ≤ i ∧ i ≤ 24 → ¬ P 880 i j := fun i j hi q => (hp 880 i j q).2 rfl hi
  obtain ⟨a1, a2, a3⟩ := hr
  exact ⟨(e 873 0 0 (fun q => (hp 873 0 0 q).1 rfl)).trans a1, fun q hq => RFu_fm h (no 22 q (by omega)) (no 23 q (by omega)) (fun i _ => no 24 _ (by omega)) (a2 q hq), fun q h1 h2 => RFu_fm h (no 22 q (by omega)) (no 23 q (by omega)) (fun i _ => no 24 _ (by omega)) (a3 q h1 h2)⟩
/-- other riddles, the same issues -/
theorem RFl_X {n n' i : Nat} {X X' : Nat → cc_Rd} (hn : n ≤ n') (h : ∀ r, r < n → (rdI (X' r) = i + 1 ↔ rdI (X r) = i + 1)) (h2 : ∀ r, n ≤ r → r < n' → rdI (X' r) ≠ i + 1) (hr : RFl c n X i) : RFl c n' X' i := by
  obtain ⟨m, p, a1, a2, a3, a4, a5⟩ := hr
  refine ⟨m, p, a1, a2, fun k hk => ?_, a4, fun r hr hi => ?_⟩
  · obtain ⟨b1, b2, b3⟩ := a3 k hk
    exact ⟨by omega, b2, (h _ b1).mpr b3⟩
  · by_cases hrn : r < n
    · exact a5 r hrn ((h r hrn).mp hi)
    · exact absurd hi (h2 r (by omega) hr)
theorem RFI_X {n' : Nat} {X' : Nat → cc_Rd} (hn : mR M ≤ n') (h : ∀ r, r < mR M → rdI (X' r) = rdI (mX M r)) (h2 : ∀ r, mR M ≤ r → r < n' → rdI (X' r) = 0) (hr : RFI c M) : RFI c (sX M n' X') := by
  refine ⟨hr.1, fun i hi => ⟨(hr.2.1 i hi).1, (hr.2.1 i hi).2.1, fun z => ?_⟩, hr.2.2⟩
  exact RFl_X (n := mR M) (n' := n') (X := mX M) (X' := X') hn (fun r hr => by rw [h r hr]) (fun r h3 h4 => by rw [h2 r h3 h4]; omega) ((hr.2.1 i hi).2.2 z)
end
section
variable {g : Nat → Nat} {c : cc_C} {M : cc_M} {e t : Nat} {x : Int32} {X : String → cc_C → Prop}
theorem c880_f {i j f : Nat} {v : Int32} (h : f ≠ 880 := by decide) : cS (cset c 880 i j v) f 0 0 = cS c f 0 0 := cS_f h
/-! the model stays well -/
theorem wfX_iss {n n' : Nat} {J J' : Nat → Int32 × Nat} {x : cc_Rd} (hn : n ≤ n') (hJ : ∀ i, i < n → (J' i).1 = (J i).1) (h : wfX n J x) : wfX n' J' x := by
  obtain ⟨a1, a2, a3, ⟨a4, a5, a6⟩, a7⟩ := h
  refine ⟨a1, a2, a3, ⟨by omega, a5, fun z => ?_⟩, a7⟩
  rw [hJ _ (by omega)]
  exact a6 z
theorem w_riddle (w : wfM M t) (ht : t < 512) : wfM (spRiddle M x).2.2 (t + 1) := by
  obtain ⟨w1, w2, w3, w4, w5⟩ := w
  have w4' : mU M ≤ 8 ∧ ∀ q, q < mU M → (mV M q).1 < 2 ^ 31 ∧ (mV M q).2.1 ≤ 12 * (t + 1) := ⟨w4.1, fun q hq => ⟨(w4.2 q hq).1, by have := (w4.2 q hq).2; omega⟩⟩
  unfold spRiddle
  split
  · exact ⟨w1, w2, w3, w4', by omega⟩
  · split
    · exact ⟨w1, w2, w3, w4', by omega⟩
    · rename_i h1 h2
      refine ⟨⟨by show mR M + 1 ≤ 20; omega, fun r hr => ?_⟩, w2, w3, w4', by omega⟩
      show wfX (mI M) (mJ M) (upF (mX M) (mR M) (newX x.toNatClampNeg) r)
      by_cases hrr : r = mR M
      · subst hrr
        rw [upF_at]
        have h3 : ¬ x < 3 := fun z => h1 (Or.inl z)
        have h6 : x ≤ 6 := Decidable.of_not_not fun z => h1 (Or.inr z)
        obtain ⟨n, hn, rfl⟩ := nI_of (x := x) (fun z => h3 (Int32.lt_trans z (by decide)))
        have hn3 : 3 ≤ n := Nat.le_of_not_lt fun z => h3 (nI_lt (b := 3) z (by omega))
        have hn6 : n ≤ 6 := (nI_leI (b := 6) hn (by omega)).mp h6
        rw [nI_clamp hn]
        have hz : rdZ (newX n) = 111 := rfl
        exact ⟨⟨hn3, hn6, by show 0 ≤ 8; omega, fun e he => absurd he (Nat.not_lt_zero e)⟩, Or.inl rfl, ⟨by show 0 < 4; omega, fun _ => rfl, by show 0 ≤ 36; omega, fun i hi => absurd hi (Nat.not_lt_zero i)⟩, ⟨Nat.zero_le _, ⟨fun z => absurd rfl z, fun z => by rcases z with z | z <;> exact absurd (hz.symm.trans z) (by decide)⟩, fun z => absurd rfl z⟩, fun z => by rcases z with z | z | z | z <;> exact absurd (hz.symm.trans z) (by decide)⟩
      · rw [upF_ne hrr]
        exact w1.2 r (by have : r < mR M + 1 := hr; omega)
theorem w_issue (w : wfM M t) (ht : t < 512) : wfM (spIssue M).2.2 (t + 1) := by
  obtain ⟨w1, w2, w3, w4, w5⟩ := w
  have w4' : mU M ≤ 8 ∧ ∀ q, q < mU M → (mV M q).1 < 2 ^ 31 ∧ (mV M q).2.1 ≤ 12 * (t + 1) := ⟨w4.1, fun q hq => ⟨(w4.2 q hq).1, by have := (w4.2 q hq).2; omega⟩⟩
  unfold spIssue
  split
  · exact ⟨w1, w2, w3, w4', by omega⟩
  · refine ⟨⟨w1.1, fun r hr => wfX_iss (n := mI M) (J := mJ M) (Nat.le_succ _) (fun i hi => by show (upF (mJ M) (mI M) (109, 0) i).1 = _; rw [upF_ne (by omega)]) (w1.2 r hr)⟩, w2, ⟨by show mI M + 1 ≤ 12; omega, fun i hi => ?_⟩, w4', by omega⟩
    show ((upF (mJ M) (mI M) (109, 0) i).1 = 109 ∨ _) ∧ (upF (mJ M) (mI M) (109, 0) i).2 ≤ 1000
    by_cases hii : i = mI M
    · subst hii
      rw [upF_at]
      exact ⟨Or.inl rfl, by show 0 ≤ 1000; omega⟩
    · have hi' : i < mI M + 1 := hi
      show ((upF (mJ M) (mI M) (109, 0) i).1 = 109 ∨ (upF (mJ M) (mI M) (109, 0) i).1 = 115 ∨ (upF (mJ M) (mI M) (109, 0) i).1 = 114) ∧ (upF (mJ M) (mI M) (109, 0) i).2 ≤ 1000
      rw [upF_ne hii]
      exact w3.2 i (by omega)
theorem w_cust (w : wfM M t) (ht : t < 512) : wfM (spCust M).2.2 (t + 1) := by
  obtain ⟨w1, w2, w3, w4, w5⟩ := w
  have w4' : mU M ≤ 8 ∧ ∀ q, q < mU M → (mV M q).1 < 2 ^ 31 ∧ (mV M q).2.1 ≤ 12 * (t + 1) := ⟨w4.1, fun q hq => ⟨(w4.2 q hq).1, by have := (w4.2 q hq).2; omega⟩⟩
  unfold spCust
  split
  · exact ⟨w1, w2, w3, w4', by omega⟩
  · refine ⟨w1, w2, w3, ⟨by show mU M + 1 ≤ 8; omega, fun i hi => ?_⟩, by omega⟩
    show (upF (mV M) (mU M) (0, 0, fun _ => false) i).1 < 2 ^ 31 ∧ (upF (mV M) (mU M) (0, 0, fun _ => false) i).2.1 ≤ 12 * (t + 1)
    by_cases hii : i = mU M
    · subst hii
      rw [upF_at]
      exact ⟨by decide, Nat.zero_le _⟩
    · rw [upF_ne hii]
      exact w4'.2 i (by have : i < mU M + 1 := hi; omega)
end
