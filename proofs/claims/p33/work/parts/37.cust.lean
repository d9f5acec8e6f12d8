/-! customers: frames, deposits, subscriptions -/
def fq (P : Nat → Nat → Nat → Prop) (c d : cc_C) : Prop := cA d = cA c ∧ cV d = cV c ∧ (∀ i, i ≠ 0 → cP d i = cP c i) ∧ cD d = cD c ∧ ∀ f i j, ¬ P f i j → cS d f i j = cS c f i j
section
variable {c d : cc_C} {M : cc_M} {P : Nat → Nat → Nat → Prop}
theorem fq_rfl : fq P c c := ⟨rfl, rfl, fun _ _ => rfl, rfl, fun _ _ _ _ => rfl⟩
theorem fq.set (h : fq P c d) {f i j : Nat} {x : Int32} (hp : P f i j) : fq P c (cset d f i j x) := ⟨h.1, h.2.1, h.2.2.1, h.2.2.2.1, fun f' i' j' hn => (cS_ne (fun e => hn (by obtain ⟨rfl, rfl, rfl⟩ := e; exact hp))).trans (h.2.2.2.2 f' i' j' hn)⟩
theorem fq.pset (h : fq P c d) {x : Int64} : fq P c (cpset d 0 0 x) := ⟨h.1, h.2.1, fun i hi => (funext fun j => cP_ne (fun e => hi e.1)).trans (h.2.2.1 i hi), h.2.2.2.1, fun f' i' j' hn => h.2.2.2.2 f' i' j' hn⟩
theorem fq.trans {e : cc_C} (h : fq P c d) (h2 : fq P d e) : fq P c e := ⟨h2.1.trans h.1, h2.2.1.trans h.2.1, fun i hi => (h2.2.2.1 i hi).trans (h.2.2.1 i hi), h2.2.2.2.1.trans h.2.2.2.1, fun f i j hp => (h2.2.2.2.2 f i j hp).trans (h.2.2.2.2 f i j hp)⟩
theorem fq.mono {Q : Nat → Nat → Nat → Prop} (h : fq P c d) (hpq : ∀ f i j, P f i j → Q f i j) : fq Q c d := ⟨h.1, h.2.1, h.2.2.1, h.2.2.2.1, fun f i j hq => h.2.2.2.2 f i j (fun hp => hq (hpq f i j hp))⟩
theorem fq.sl (h : fq P c d) {k i j a : Nat} (s : sl c k i j a) : sl d k i j a := ⟨by rw [h.2.1]; exact s.1, by rw [h.1]; exact s.2⟩
theorem kC_fq (h : fq P c d) (hp : ∀ f i j, P f i j → f < 869) : kC c d := ⟨fun f hf => funext fun i => funext fun j => h.2.2.2.2 f i j (fun q => by have := hp f i j q; omega), h.2.2.1, h.2.2.2.1⟩
theorem CLR_fq (h : fq P c d) (hp : ∀ f i j, P f i j → 600 ≤ f) (hc : CLR c M) : CLR d M := by
  have e : ∀ f, f < 600 → cS d f = cS c f := fun f hf => funext fun i => funext fun j => h.2.2.2.2 f i j (fun q => by have := hp f i j q; omega)
  refine CLR_tr (by rw [e 42 (by omega)]) (by rw [e 80 (by omega)]) (fun r hr => CRd_tr (by rw [h.2.1]; exact id) (fun f hf => by rw [e f (by unfold cdR at hf; omega)]) (by rw [e 42 (by omega)]) (by rw [e 80 (by omega)]) (fun z _ => ?_)) (by rw [h.2.1]; exact fun _ _ _ q => q) hc
  unfold clC
  rw [h.1, e 240 (by omega), e 241 (by omega), e 242 (by omega), e 243 (by omega)]
theorem CLW_fq (h : fq P c d) (hp : ∀ f i j, P f i j → 600 ≤ f) (hc : CLW c M) : CLW d M := by
  have e : ∀ f, f < 600 → cS d f = cS c f := fun f hf => funext fun i => funext fun j => h.2.2.2.2 f i j (fun q => by have := hp f i j q; omega)
  exact CLW_tr (by rw [e 42 (by omega)]) (by rw [e 80 (by omega)]) (fun f i hf => by rw [e f (by omega)]) (by rw [h.2.1]; exact fun _ => Iff.rfl) hc
theorem CLI_fq (h : fq P c d) (hp : ∀ f i j, P f i j → 602 ≤ f) (hc : CLI c M) : CLI d M := by
  have e : ∀ f, f < 602 → cS d f = cS c f := fun f hf => funext fun i => funext fun j => h.2.2.2.2 f i j (fun q => by have := hp f i j q; omega)
  exact CLI_tr (by rw [e 42 (by omega)]) (by rw [e 80 (by omega)]) (fun i => by rw [e 600 (by omega), e 601 (by omega)]; exact ⟨rfl, rfl⟩) (by rw [h.2.1]; exact fun _ => Iff.rfl) hc
theorem CLU_fq (h : fq P c d) (hp : ∀ f i j, P f i j → 600 ≤ f ∧ f < 640) (hc : CLU c M) : CLU d M := by
  have e : ∀ f, f < 600 ∨ 640 ≤ f → cS d f = cS c f := fun f hf => funext fun i => funext fun j => h.2.2.2.2 f i j (fun q => by have := hp f i j q; omega)
  exact CLU_tr (by rw [e 42 (by omega)]) (by rw [e 80 (by omega)]) (fun f i hf => by rw [e f (by omega)]) (by rw [h.2.1]; exact fun _ => Iff.rfl) (by rw [h.2.1]; exact fun _ q => q) hc
def CUs (c : cc_C) (q : Nat) (v : cc_Us) : Prop := cS c 640 q 0 = nI v.1 ∧ cS c 641 q 0 = nI v.2.1 ∧ ∀ i, i < 12 → cS c 680 q i = bI (v.2.2 i)
/-- one customer's numbers change, the press's too -/
theorem CL_cust {q : Nat} {v : cc_Us} {p : Int64} (h : fq P c d) (hp : ∀ f i j, P f i j → i = q ∧ (f = 640 ∨ f = 641 ∨ f = 680)) (hv : CUs d q v) (hP : cP d 0 0 = p) (hc : CL c M) : CL d (sP (sV M (mU M) (upF (mV M) q v)) p) := by
  obtain ⟨a1, a2, a3, a4, ⟨b1, b2, b3, b4⟩, a6⟩ := hc
  have e : ∀ f i j, ¬ (i = q ∧ (f = 640 ∨ f = 641 ∨ f = 680)) → cS d f i j = cS c f i j := fun f i j hn => h.2.2.2.2 f i j (fun z => hn (hp f i j z))
  refine ⟨by rw [h.2.1]; exact a1, CLR_fq h (fun f i j z => by have := hp f i j z; omega) a2, CLW_fq h (fun f i j z => by have := hp f i j z; omega) a3, CLI_fq h (fun f i j z => by have := hp f i j z; omega) a4, ⟨(e 42 3 0 (by omega)).trans b1, ?_, fun k hk => ?_, fun k hk => by rw [h.2.1]; exact b4 k hk⟩, hP⟩
  · unfold cN at b2 ⊢
    rw [e 80 3 0 (by omega)]
    exact b2
  · obtain ⟨z1, z2, z3, z4⟩ := b3 k hk
    refine ⟨by rw [h.2.1]; exact z1, ?_⟩
    show CUs d k (upF (mV M) q v k)
    by_cases hkq : k = q
    · subst hkq
      rw [upF_at]
      exact hv
    · rw [upF_ne hkq]
      exact ⟨(e 640 k 0 (by omega)).trans z2, (e 641 k 0 (by omega)).trans z3, fun i hi => (e 680 k i (by omega)).trans (z4 i hi)⟩
theorem RF_cust {q : Nat} {v : cc_Us} {p : Int64} (h : fm P c d) (hp : ∀ f i j, P f i j → f = 880 ∧ ((j = q ∧ (i = 22 ∨ i = 23)) ∨ (i = 24 ∧ 12 * q ≤ j ∧ j < 12 * q + 12))) (w : ∀ r, r < mR M → rdk (mX M r) ≤ 36) (hq : q < mU M) (hv : RFu d q v) (hP : cP d 2 0 = p) (hr : RF c M) : RF d (sP (sV M (mU M) (upF (mV M) q v)) p) := by
  obtain ⟨a1, a2, a3, a4, ⟨b1, b2, b3⟩, a6⟩ := hr
  refine ⟨by rw [h.2.1]; exact a1, RFR_fm h w (fun f i j z => by have := hp f i j z; omega) a2, RFW_fm h (fun f i j z => by have := hp f i j z; omega) a3, RFI_fm h (fun f i j z => by have := hp f i j z; omega) a4, ⟨(h.2.2.2.2 873 0 0 (fun z => by have := hp _ _ _ z; omega)).trans b1, fun k hk => ?_, fun k h1 h2 => ?_⟩, hP⟩
  · show RFu d k (upF (mV M) q v k)
    by_cases hkq : k = q
    · subst hkq
      rw [upF_at]
      exact hv
    · rw [upF_ne hkq]
      exact RFu_fm h (fun z => by have := hp _ _ _ z; omega) (fun z => by have := hp _ _ _ z; omega) (fun i hi z => by have := hp _ _ _ z; omega) (b2 k hk)
  · have h1' : mU M ≤ k := h1
    exact RFu_fm h (fun z => by have := hp _ _ _ z; omega) (fun z => by have := hp _ _ _ z; omega) (fun i hi z => by have := hp _ _ _ z; omega) (b3 k h1 h2)
theorem ixo_lt {n q : Nat} {x : Int32} (h : ixo n x = some q) : q < n := by
  unfold ixo at h
  by_cases hc : x < 0 ∨ nI n ≤ x
  · rw [if_pos hc] at h
    cases h
  · rw [if_neg hc] at h
    cases h
    have h0 : ¬ x < 0 := fun z => hc (Or.inl z)
    obtain ⟨j, hj, rfl⟩ := nI_of h0
    rw [nI_clamp hj]
    exact Nat.lt_of_not_le fun z => hc (Or.inr (nI_le z hj))
theorem w36 {t : Nat} (w : wfM M t) : ∀ r, r < mR M → rdk (mX M r) ≤ 36 := fun r hr => (w.1.2 r hr).2.2.1.2.2.1
theorem w_cu {t q : Nat} {v : cc_Us} {p : Int64} (w : wfM M t) (ht : t < 512) (h1 : v.1 < 2 ^ 31) (h2 : v.2.1 ≤ 12 * (t + 1)) : wfM (sP (sV M (mU M) (upF (mV M) q v)) p) (t + 1) := by
  obtain ⟨w1, w2, w3, w4, w5⟩ := w
  refine ⟨w1, w2, w3, ⟨w4.1, fun k hk => ?_⟩, by omega⟩
  show (upF (mV M) q v k).1 < 2 ^ 31 ∧ (upF (mV M) q v k).2.1 ≤ 12 * (t + 1)
  by_cases hkq : k = q
  · rw [hkq, upF_at]
    exact ⟨h1, h2⟩
  · rw [upF_ne hkq]
    exact ⟨(w4.2 k hk).1, by have := (w4.2 k hk).2; omega⟩
theorem wf_s {t : Nat} (w : wfM M t) (ht : t < 512) : wfM M (t + 1) := ⟨w.1, w.2.1, w.2.2.1, ⟨w.2.2.2.1.1, fun q hq => ⟨(w.2.2.2.1.2 q hq).1, by have := (w.2.2.2.1.2 q hq).2; omega⟩⟩, by omega⟩
end
def xIAR : List String := ["java/lang/IndexOutOfBoundsException", "java/lang/IllegalArgumentException", "java/lang/ArithmeticException"]
def xIA : List String := ["java/lang/IndexOutOfBoundsException", "java/lang/IllegalArgumentException"]
def vC (v : cc_Us) (n : Nat) : cc_Us := (n, v.2)
def vB (v : cc_Us) (n : Nat) : cc_Us := (v.1, n, v.2.2)
def spDep (M : cc_M) (x y : Int32) : cc_Sp := ixm (ixo (mU M) x) M fun q => if y < 1 ∨ ¬ y ≤ 2000000000 then (2, 0, M) else if 2147483647 < (mV M q).1 + y.toNatClampNeg then (3, 0, M) else (0, nI ((mV M q).1 + y.toNatClampNeg), sP (sV M (mU M) (upF (mV M) q (vC (mV M q) ((mV M q).1 + y.toNatClampNeg)))) (mP M))
def spSub (M : cc_M) (x y : Int32) : cc_Sp := ixm (ixo (mU M) x) M fun q => if y < 1 ∨ ¬ y ≤ 12 then (2, 0, M) else (0, nI ((mV M q).2.1 + y.toNatClampNeg), sP (sV M (mU M) (upF (mV M) q (vB (mV M q) ((mV M q).2.1 + y.toNatClampNeg)))) (mP M))
section
variable {g : Nat → Nat} {c : cc_C} {M : cc_M} {a e t : Nat} {x y : Int32} {X : String → cc_C → Prop}
theorem pos_of {y : Int32} (h : ¬ y < 1) : ∃ n : Nat, n < 2 ^ 31 ∧ 1 ≤ n ∧ y = nI n := by
  obtain ⟨n, hn, rfl⟩ := nI_of (x := y) (fun z => h (Int32.lt_trans z (by decide)))
  exact ⟨n, hn, Nat.le_of_not_lt fun z => h (nI_lt (b := 1) z (by omega)), rfl⟩
theorem c_deposit (s : sl c 0 0 0 a) (hC : CL c M) (w : wfM M t) : wc g (wp_X8_deposit g) c [.ref a, .int x, .int y] (okC (spDep M x y) c) (okX xIAR (spDep M x y) c) := by
  refine mk_X8_deposit_0 s (s_findCustomer s hC.2.2.2.2.1 w.2.2.2.1.1 (fun h => lX 0 (no1 h) rfl kC_rfl hC) (fun q hq hx => ?_))
  obtain ⟨h1, h2, h3, h4⟩ := hC.2.2.2.2.1.2.2.1 q hq
  have e1 : spDep M x y = _ := at1 hx hq (by have := w.2.2.2.1.1; omega)
  refine ⟨_, q, rfl, ⟨h1, rfl⟩, fun z => lX 1 (e1.trans (if_pos (Or.inl z))) rfl kC_rfl hC, fun z => ⟨fun z2 => ?_, fun z2 => lX 1 (e1.trans (if_pos (Or.inr z2))) rfl kC_rfl hC⟩⟩
  have e2 := e1.trans (if_neg fun q => q.elim z (fun q => q z2))
  obtain ⟨n, hn, hn1, rfl⟩ := pos_of z
  rw [nI_clamp hn] at e2
  have hcr := (w.2.2.2.1.2 q hq).1
  rw [h2, show (2147483647 : Int32) - nI n = nI (2147483647 - n) from pk_sub (a := 2147483647) (by omega), cS_at, nI_add]
  refine ⟨fun z3 => ?_, fun z3 => lX 2 (e2.trans (if_pos ?_)) rfl kC_rfl hC⟩
  · have := (nI_leI (by omega) (by omega)).mp z3
    have hf : fq (fun f i j => f = 640 ∧ i = q) c (cset c 640 q 0 (nI ((mV M q).1 + n))) := fq_rfl.set (by omega)
    refine lC (e2.trans (if_neg (by omega))) rfl (kC_fq hf (fun f i j z => by omega)) (CL_cust hf (fun f i j z => by omega) ⟨cS_at _ _ _ _ _, (cS_f (by decide)).trans h3, fun i hi => (cS_f (by decide)).trans (h4 i hi)⟩ hC.2.2.2.2.2 hC)
  · have : ¬ (mV M q).1 ≤ 2147483647 - n := fun z4 => z3 (nI_le z4 (by omega))
    omega
theorem w_dep (w : wfM M t) (ht : t < 512) : wfM (spDep M x y).2.2 (t + 1) := by
  unfold spDep ixm
  split
  · exact wf_s w ht
  · rename_i q hq
    split
    · exact wf_s w ht
    · dsimp only
      split
      · exact wf_s w ht
      · rename_i h1 h2
        refine w_cu w ht (by show (mV M q).1 + y.toNatClampNeg < 2 ^ 31; omega) ?_
        show (mV M q).2.1 ≤ _
        have hqn : q < mU M := ixo_lt hq
        have := (w.2.2.2.1.2 q hqn).2
        omega
theorem c_subscribe (s : sl c 0 0 0 a) (hC : CL c M) (w : wfM M t) : wc g (wp_X8_subscribe g) c [.ref a, .int x, .int y] (okC (spSub M x y) c) (okX xIA (spSub M x y) c) := by
  refine mk_X8_subscribe_0 s (s_findCustomer s hC.2.2.2.2.1 w.2.2.2.1.1 (fun h => lX 0 (no1 h) rfl kC_rfl hC) (fun q hq hx => ?_))
  obtain ⟨h1, h2, h3, h4⟩ := hC.2.2.2.2.1.2.2.1 q hq
  have e1 : spSub M x y = _ := at1 hx hq (by have := w.2.2.2.1.1; omega)
  refine ⟨_, q, rfl, ⟨h1, rfl⟩, fun z => lX 1 (e1.trans (if_pos (Or.inl z))) rfl kC_rfl hC, fun z => ⟨fun z2 => ?_, fun z2 => lX 1 (e1.trans (if_pos (Or.inr z2))) rfl kC_rfl hC⟩⟩
  have e2 := e1.trans (if_neg fun q => q.elim z (fun q => q z2))
  obtain ⟨n, hn, hn1, rfl⟩ := pos_of z
  rw [nI_clamp hn] at e2
  rw [h3, cS_at, nI_add]
  have hf : fq (fun f i j => f = 641 ∧ i = q) c (cset c 641 q 0 (nI ((mV M q).2.1 + n))) := fq_rfl.set (by omega)
  exact lC e2 rfl (kC_fq hf (fun f i j z => by omega)) (CL_cust hf (fun f i j z => by omega) ⟨(cS_f (by decide)).trans h2, cS_at _ _ _ _ _, fun i hi => (cS_f (by decide)).trans (h4 i hi)⟩ hC.2.2.2.2.2 hC)
theorem w_sub (w : wfM M t) (ht : t < 512) : wfM (spSub M x y).2.2 (t + 1) := by
  unfold spSub ixm
  split
  · exact wf_s w ht
  · rename_i q hq
    split
    · exact wf_s w ht
    · rename_i h1
      have hqn : q < mU M := ixo_lt hq
      obtain ⟨u1, u2⟩ := w.2.2.2.1.2 q hqn
      have z : ¬ y < 1 := fun z => h1 (Or.inl z)
      have z2 : y ≤ 12 := Decidable.of_not_not fun z => h1 (Or.inr z)
      obtain ⟨n, hn, hn1, rfl⟩ := pos_of z
      have := (nI_leI (b := 12) hn (by omega)).mp z2
      refine w_cu w ht u1 ?_
      show (mV M q).2.1 + (nI n).toNatClampNeg ≤ _
      rw [nI_clamp hn]
      omega
end
