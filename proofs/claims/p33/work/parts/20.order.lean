/-! states that differ in a few rows -/
def fr (P : Nat → Nat → Prop) (c d : cc_C) : Prop := cA d = cA c ∧ cV d = cV c ∧ cP d = cP c ∧ cD d = cD c ∧ ∀ f i, ¬ P f i → cS d f i = cS c f i
theorem fr_rfl {P : Nat → Nat → Prop} {c : cc_C} : fr P c c := ⟨rfl, rfl, rfl, rfl, fun _ _ _ => rfl⟩
theorem fr.trans {P : Nat → Nat → Prop} {c d e : cc_C} (h : fr P c d) (h2 : fr P d e) : fr P c e := ⟨h2.1.trans h.1, h2.2.1.trans h.2.1, h2.2.2.1.trans h.2.2.1, h2.2.2.2.1.trans h.2.2.2.1, fun f i hp => (h2.2.2.2.2 f i hp).trans (h.2.2.2.2 f i hp)⟩
theorem fr.mono {P Q : Nat → Nat → Prop} {c d : cc_C} (h : fr P c d) (hpq : ∀ f i, P f i → Q f i) : fr Q c d := ⟨h.1, h.2.1, h.2.2.1, h.2.2.2.1, fun f i hq => h.2.2.2.2 f i (fun hp => hq (hpq f i hp))⟩
theorem fr.set {P : Nat → Nat → Prop} {c d : cc_C} (h : fr P c d) {f i j : Nat} {x : Int32} (hp : P f i) : fr P c (cset d f i j x) := ⟨h.1, h.2.1, h.2.2.1, h.2.2.2.1, fun f' i' hn => (up3_fn (fun e => hn (by obtain ⟨rfl, rfl⟩ := e; exact hp))).trans (h.2.2.2.2 f' i' hn)⟩
theorem fr.sl {P : Nat → Nat → Prop} {c d : cc_C} (h : fr P c d) {k i j a : Nat} (s : sl c k i j a) : sl d k i j a := ⟨by rw [h.2.1]; exact s.1, by rw [h.1]; exact s.2⟩
theorem fr.row {P : Nat → Nat → Prop} {c d : cc_C} (h : fr P c d) {f i : Nat} (hn : ¬ P f i) : cS d f i = cS c f i := h.2.2.2.2 f i hn
theorem fr.nn {P : Nat → Nat → Prop} {c d : cc_C} (h : fr P c d) {f i : Nat} (hn : ¬ P f i) : cN d f i = cN c f i := by
  unfold cN
  rw [h.row hn]
/-! orders: what the class and the reference do to them -/
/-- the numbers of a row -/
def Rp (n : Nat) (p : Nat → Nat) (f : Nat → Int32) : Prop := ∀ i, i < n → f i = nI (p i)
def tF (p : Nat → Nat) : Nat → Option Nat
  | 0 => none
  | t + 1 => if p t ≤ p (t + 1) then some t else tF p t
def nF (p : Nat → Nat) (x : Nat) : Nat → Nat
  | 0 => 0
  | j + 1 => if p (j + 1) < x then nF p x j else j + 1
def swp (p : Nat → Nat) (i j : Nat) : Nat → Nat := fun k => if k = j then p i else if k = i then p j else p k
def rF : Nat → (Nat → Nat) → Nat → Nat → Nat → Nat
  | 0, p, _, _ => p
  | m + 1, p, lo, hi => if lo < hi then rF m (swp p lo hi) (lo + 1) (hi - 1) else p
def goF (n : Nat) (p : Nat → Nat) : Option (Nat → Nat) := match tF p (n - 1) with
  | none => none
  | some t => some (rF n (swp p t (nF p (p t) (n - 1))) (t + 1) (n - 1))
def nd : Nat → Int32
  | 0 => -1
  | t + 1 => nI t
theorem nd_m1 : ∀ t, nI t + (-1) = nd t
  | 0 => rfl
  | t + 1 => pk_m1 t
theorem tF_lt {p : Nat → Nat} : ∀ {t u : Nat}, tF p t = some u → u < t ∧ p u ≤ p (u + 1)
  | 0, _, h => by cases h
  | t + 1, u, h => by
    unfold tF at h
    by_cases h1 : p t ≤ p (t + 1)
    · rw [if_pos h1] at h
      cases h
      exact ⟨Nat.lt_succ_self _, h1⟩
    · rw [if_neg h1] at h
      have := tF_lt h
      exact ⟨by omega, this.2⟩
theorem swp_lt {p : Nat → Nat} {n i j B : Nat} (h : ∀ k, k < n → p k < B) (hi : i < n) (hj : j < n) : ∀ k, k < n → swp p i j k < B := by
  intro k hk
  unfold swp
  by_cases h1 : k = j
  · rw [if_pos h1]; exact h i hi
  · rw [if_neg h1]
    by_cases h2 : k = i
    · rw [if_pos h2]; exact h j hj
    · rw [if_neg h2]; exact h k hk
theorem Rp_swp {n : Nat} {p : Nat → Nat} {f : Nat → Int32} (h : Rp n p f) {i j : Nat} (hi : i < n) (hj : j < n) : Rp n (swp p i j) (upd (upd f i (f j)) j (f i)) := by
  intro k hk
  unfold upd swp
  by_cases h1 : k = j
  · rw [if_pos h1, if_pos h1]; exact h i hi
  · rw [if_neg h1, if_neg h1]
    by_cases h2 : k = i
    · rw [if_pos h2, if_pos h2]; exact h j hj
    · rw [if_neg h2, if_neg h2]; exact h k hk
section
variable {g : Nat → Nat} {R : Option Value → cc_C → Prop} {X : String → cc_C → Prop}
theorem s_exchange {c0 c : cc_C} {q a n i j : Nat} {p : Nat → Nat} (s : sl c 18 q 0 a) (hl : cN c 720 q = n) (hn : n ≤ 6) (hi : i < n) (hj : j < n) (hr : Rp n p (cS c 760 q)) (hf : fr (fun f i => f = 760 ∧ i = q) c0 c) (H : ∀ d, fr (fun f i => f = 760 ∧ i = q) c0 d → Rp n (swp p i j) (cS d 760 q) → R none d) : wc g (wp_X3_exchange g) c [.ref a, .int (nI i), .int (nI j)] R X := by
  have ci : (nI i).toNatClampNeg = i := nI_clamp (by omega)
  have cj : (nI j).toNatClampNeg = j := nI_clamp (by omega)
  refine mk_X3_exchange_0 s ?_
  rw [ci, cj]
  have hl2 : cN (cset c 760 q i (cS c 760 q j)) 720 q = n := hl
  rw [hl2, hl]
  have vi := vp_in_nI hi (by omega)
  have vj := vp_in_nI hj (by omega)
  refine ⟨vi, vj, vi, vj, H _ ((hf.set ⟨rfl, rfl⟩).set ⟨rfl, rfl⟩) ?_⟩
  rw [cS_row, cS_row]
  exact Rp_swp hr hi hj
theorem s_goOn8 {c : cc_C} {q a n : Nat} {p : Nat → Nat} {o3 o4 : Option Value} (s : sl c 18 q 0 a) (hl : cN c 720 q = n) (hn : n ≤ 6) (hr : Rp n p (cS c 760 q)) (hp : ∀ k, k < n → p k < 100) : ∀ (t : Nat) (o2 : Option Value), t < n → (tF p t = none → R (some (.int 0)) c) → (∀ u, tF p t = some u → ec g tb_X3_goOn 49 [some (.ref a), some (.int (nI u)), some (.int (Int32.ofNat n - 1)), o3, o4] [] 0 0 c R X) → ec g tb_X3_goOn 8 [some (.ref a), some (.int (nd t)), o2, o3, o4] [] 0 0 c R X
  | 0, o2, ht, hN, hS => mk_X3_goOn_8 s ⟨fun _ => ⟨fun e => absurd e (by decide), fun _ => hN rfl⟩, fun e => absurd (show nd 0 < 0 by decide) e⟩
  | t + 1, o2, ht, hN, hS => by
    refine mk_X3_goOn_8 s ⟨fun e => absurd e (nI_pos (by omega)), fun _ => ?_⟩
    rw [hl]
    have e1 : nd (t + 1) + (1 : Int32) = nI (t + 1) := nI_1 t
    have ct1 : (nd (t + 1)).toNatClampNeg = t := nI_clamp (by omega)
    rw [e1, ct1, nI_clamp (by omega), hr t (by omega), hr (t + 1) ht]
    refine ⟨vp_in_nI (by omega) (by omega), vp_in_nI ht (by omega), fun e => ⟨fun _ => ?_, fun e2 => absurd (nI_pos' (n := t) (by omega)) e2⟩, fun e => ?_⟩
    · have h1 : p t ≤ p (t + 1) := (nI_leI (by have := hp t (by omega); omega) (by have := hp (t + 1) ht; omega)).mp e
      exact hS t (by unfold tF; rw [if_pos h1])
    · have h1 : ¬ p t ≤ p (t + 1) := fun q => e ((nI_leI (by have := hp t (by omega); omega) (by have := hp (t + 1) ht; omega)).mpr q)
      have e2 : nd (t + 1) + (-1) = nd t := nd_m1 t
      rw [e2]
      have ht2 : tF p (t + 1) = tF p t := by
        show (if p t ≤ p (t + 1) then some t else tF p t) = _
        rw [if_neg h1]
      rw [ht2] at hN hS
      exact s_goOn8 s hl hn hr hp t _ (by omega) hN hS
theorem s_goOn94 {c0 : cc_C} {q a n : Nat} {x1 x2 : Int32} (hn : n ≤ 6) : ∀ (m : Nat) (c : cc_C) (p : Nat → Nat) (lo hi : Nat), sl c 18 q 0 a → cN c 720 q = n → Rp n p (cS c 760 q) → fr (fun f i => f = 760 ∧ i = q) c0 c → hi < n → hi ≤ lo + 2 * m → lo ≤ n → (∀ d, fr (fun f i => f = 760 ∧ i = q) c0 d → Rp n (rF m p lo hi) (cS d 760 q) → R (some (.int 1)) d) → ec g tb_X3_goOn 94 [some (.ref a), some (.int x1), some (.int x2), some (.int (nI lo)), some (.int (nI hi))] [] 0 0 c R X
  | 0, c, p, lo, hi, s, hl, hr, hf, hhi, hm, hlo, H => mk_X3_goOn_94 s ⟨fun _ => H c hf hr, fun e => absurd (nI_le (by omega) (by omega)) e⟩
  | m + 1, c, p, lo, hi, s, hl, hr, hf, hhi, hm, hlo, H => by
    by_cases hlh : lo < hi
    · refine mk_X3_goOn_94 s ⟨fun e => absurd e (nI_ge hlh (by omega)), fun _ => s_exchange s hl hn (by omega) hhi hr hf (fun d hd hdr => ⟨rfl, ?_⟩)⟩
      rw [nI_1, sb_m1 (by omega)]
      have H' : ∀ d, fr (fun f i => f = 760 ∧ i = q) c0 d → Rp n (rF m (swp p lo hi) (lo + 1) (hi - 1)) (cS d 760 q) → R (some (.int 1)) d := by
        intro d
        have := H d
        unfold rF at this
        rw [if_pos hlh] at this
        exact this
      exact s_goOn94 hn m d (swp p lo hi) (lo + 1) (hi - 1) (hd.sl ⟨by rw [← hf.2.1]; exact s.1, by rw [← hf.1]; exact s.2⟩) ((hd.nn (by omega)).trans ((hf.nn (by omega)).symm.trans hl)) hdr hd (by omega) (by omega) (by omega) H'
    · refine mk_X3_goOn_94 s ⟨fun _ => H c hf ?_, fun e => absurd (nI_le (by omega) (by omega)) e⟩
      unfold rF
      rw [if_neg hlh]
      exact hr
theorem s_goOn49 {c : cc_C} {q a n u : Nat} {p : Nat → Nat} {o3 o4 : Option Value} (s : sl c 18 q 0 a) (hl : cN c 720 q = n) (hn : n ≤ 6) (hr : Rp n p (cS c 760 q)) (hp : ∀ k, k < n → p k < 100) (hu : u + 1 < n) (huu : p u ≤ p (u + 1)) (H : ∀ d, fr (fun f i => f = 760 ∧ i = q) c d → Rp n (rF n (swp p u (nF p (p u) (n - 1))) (u + 1) (n - 1)) (cS d 760 q) → R (some (.int 1)) d) : ∀ (m j : Nat), j = u + 1 + m → j < n → nF p (p u) j = nF p (p u) (n - 1) → ec g tb_X3_goOn 49 [some (.ref a), some (.int (nI u)), some (.int (nI j)), o3, o4] [] 0 0 c R X := by
  have fin : ∀ j, j < n → j = nF p (p u) (n - 1) → wc g (wp_X3_exchange g) c [.ref a, .int (nI u), .int (nI j)] (fun v c1 => v = none ∧ ec g tb_X3_goOn 94 [some (.ref a), some (.int (nI u)), some (.int (nI j)), some (.int (nI u + (1))), some (.int ((Int32.ofNat (cN c1 720 q)) - (1)))] [] 0 0 c1 R X) X := by
    intro j hj he
    refine s_exchange s hl hn (by omega) hj hr fr_rfl (fun d hd hdr => ⟨rfl, ?_⟩)
    have e1 : Int32.ofNat (cN d 720 q) - 1 = nI (n - 1) := by
      rw [(hd.nn (by omega)).trans hl]
      exact pk_sub (b := 1) (by omega)
    rw [e1, nI_1]
    rw [he] at hdr
    exact s_goOn94 hn n d _ (u + 1) (n - 1) (hd.sl s) ((hd.nn (by omega)).trans hl) hdr hd (by omega) (by omega) (by omega) H
  intro m
  induction m with
  | zero =>
    intro j hj hjn hnf
    have hnF : nF p (p u) j = j := by
      obtain rfl : j = u + 1 := by omega
      unfold nF
      rw [if_neg (by omega)]
    refine mk_X3_goOn_49 s ⟨fun e => absurd e (nI_ge (by omega) (by omega)), fun _ => ?_⟩
    rw [hl, nI_clamp (by omega), nI_clamp (by omega), hr u (by omega), hr j hjn]
    refine ⟨vp_in_nI hjn (by omega), vp_in_nI (by omega) (by omega), fun _ => fin j hjn (by rw [← hnf, hnF]), fun e => absurd (nI_le ?_ ?_) e⟩
    · obtain rfl : j = u + 1 := by omega
      exact huu
    · have := hp j hjn
      omega
  | succ m ih =>
    intro j hj hjn hnf
    refine mk_X3_goOn_49 s ⟨fun e => absurd e (nI_ge (by omega) (by omega)), fun _ => ?_⟩
    rw [hl, nI_clamp (by omega), nI_clamp (by omega), hr u (by omega), hr j hjn]
    have b1 := hp u (by omega)
    have b2 := hp j hjn
    obtain ⟨j', rfl⟩ : ∃ j', j = j' + 1 := ⟨j - 1, by omega⟩
    refine ⟨vp_in_nI hjn (by omega), vp_in_nI (by omega) (by omega), fun e => fin _ hjn ?_, fun e => ?_⟩
    · have h1 := (nI_leI (by omega) (by omega)).mp e
      rw [← hnf]
      unfold nF
      rw [if_neg (by omega)]
    · have h1 : ¬ p u ≤ p (j' + 1) := fun q => e ((nI_leI (by omega) (by omega)).mpr q)
      rw [pk_m1]
      refine ih j' (by omega) (by omega) ?_
      rw [← hnf]
      show _ = (if p (j' + 1) < p u then nF p (p u) j' else j' + 1)
      rw [if_pos (by omega)]
theorem s_goOn {c : cc_C} {q a n : Nat} {p : Nat → Nat} (s : sl c 18 q 0 a) (hl : cN c 720 q = n) (h2 : 2 ≤ n) (hn : n ≤ 6) (hr : Rp n p (cS c 760 q)) (hp : ∀ k, k < n → p k < 100) (hN : goF n p = none → R (some (.int 0)) c) (hS : ∀ p', goF n p = some p' → ∀ d, fr (fun f i => f = 760 ∧ i = q) c d → Rp n p' (cS d 760 q) → R (some (.int 1)) d) : wc g (wp_X3_goOn g) c [.ref a] R X := by
  refine mk_X3_goOn_0 s ?_
  have e1 : Int32.ofNat (cN c 720 q) - 2 = nd (n - 1) := by
    rw [hl]
    obtain ⟨m, rfl⟩ : ∃ m, n = m + 2 := ⟨n - 2, by omega⟩
    exact pk_sub (a := m + 2) (b := 2) (by omega)
  rw [e1]
  refine s_goOn8 s hl hn hr hp (n - 1) _ (by omega) (fun h => hN ?_) (fun u hu => ?_)
  · unfold goF
    rw [h]
  · have hu2 := tF_lt hu
    have e2 : Int32.ofNat n - 1 = nI (n - 1) := pk_sub (b := 1) (by omega)
    rw [e2]
    refine s_goOn49 s hl hn hr hp (by omega) hu2.2 (hS _ ?_) (n - 1 - (u + 1)) (n - 1) (by omega) (by omega) rfl
    unfold goF
    rw [hu]
end
