section
variable {g : Nat → Nat} {R : Option Value → cc_C → Prop} {X : String → cc_C → Prop}
theorem m_swaps {c0 c : cc_C} {a n i j : Nat} {p : Nat → Nat} (s : sl c 21 0 0 a) (hn : n ≤ 6) (hi : i < n) (hj : j < n) (hr : Rp n p (cS c 880 26)) (hf : fr (fun f i => f = 880 ∧ i = 26) c0 c) (H : ∀ d, fr (fun f i => f = 880 ∧ i = 26) c0 d → Rp n (swp p i j) (cS d 880 26) → R none d) : wc g (wp_X9_swaps g) c [.ref a, .int (nI i), .int (nI j)] R X := by
  have ci : (nI i).toNatClampNeg = i := nI_clamp (by omega)
  have cj : (nI j).toNatClampNeg = j := nI_clamp (by omega)
  refine mk_X9_swaps_0 s ?_
  rw [ci, cj]
  have vi := vp_in_nI (show i < 6 by omega) (by omega)
  have vj := vp_in_nI (show j < 6 by omega) (by omega)
  refine ⟨vi, vj, vi, vj, H _ ((hf.set ⟨rfl, rfl⟩).set ⟨rfl, rfl⟩) ?_⟩
  rw [cS_row, cS_row]
  exact Rp_swp hr hi hj
theorem m_goesOn4 {c : cc_C} {a n : Nat} {p : Nat → Nat} {o4 o5 : Option Value} (s : sl c 21 0 0 a) (hn : n ≤ 6) (hr : Rp n p (cS c 880 26)) (hp : ∀ k, k < n → p k < 100) : ∀ (t : Nat) (o3 : Option Value), t < n → (tF p t = none → R (some (.int 0)) c) → (∀ u, tF p t = some u → ec g tb_X9_goesOn 41 [some (.ref a), some (.int (nI n)), some (.int (nI u)), some (.int (nI n - 1)), o4, o5] [] 0 0 c R X) → ec g tb_X9_goesOn 4 [some (.ref a), some (.int (nI n)), some (.int (nd t)), o3, o4, o5] [] 0 0 c R X
  | 0, o3, ht, hN, hS => mk_X9_goesOn_4 s ⟨fun _ => ⟨fun e => absurd e (by decide), fun _ => hN rfl⟩, fun e => absurd (show nd 0 < 0 by decide) e⟩
  | t + 1, o3, ht, hN, hS => by
    refine mk_X9_goesOn_4 s ⟨fun e => absurd e (nI_pos (by omega)), fun _ => ?_⟩
    have e1 : nd (t + 1) + (1 : Int32) = nI (t + 1) := nI_1 t
    have ct1 : (nd (t + 1)).toNatClampNeg = t := nI_clamp (by omega)
    rw [e1, ct1, nI_clamp (by omega), hr t (by omega), hr (t + 1) ht]
    refine ⟨vp_in_nI (by omega) (by omega), vp_in_nI (by omega) (by omega), fun e => ⟨fun _ => ?_, fun e2 => absurd (nI_pos' (n := t) (by omega)) e2⟩, fun e => ?_⟩
    · have h1 : p t ≤ p (t + 1) := (nI_leI (by have := hp t (by omega); omega) (by have := hp (t + 1) ht; omega)).mp e
      exact hS t (by unfold tF; rw [if_pos h1])
    · have h1 : ¬ p t ≤ p (t + 1) := fun q => e ((nI_leI (by have := hp t (by omega); omega) (by have := hp (t + 1) ht; omega)).mpr q)
      have e2 : nd (t + 1) + (-1) = nd t := nd_m1 t
      rw [e2]
      have ht2 : tF p (t + 1) = tF p t := by
        show (if p t ≤ p (t + 1) then some t else tF p t) = _
        rw [if_neg h1]
      rw [ht2] at hN hS
      exact m_goesOn4 s hn hr hp t _ (by omega) hN hS
theorem m_goesOn78 {c0 : cc_C} {a n : Nat} {x1 x2 x3 : Int32} (hn : n ≤ 6) : ∀ (m : Nat) (c : cc_C) (p : Nat → Nat) (lo hi : Nat), sl c 21 0 0 a → Rp n p (cS c 880 26) → fr (fun f i => f = 880 ∧ i = 26) c0 c → hi < n → hi ≤ lo + 2 * m → lo ≤ n → (∀ d, fr (fun f i => f = 880 ∧ i = 26) c0 d → Rp n (rF m p lo hi) (cS d 880 26) → R (some (.int 1)) d) → ec g tb_X9_goesOn 78 [some (.ref a), some (.int x1), some (.int x2), some (.int x3), some (.int (nI lo)), some (.int (nI hi))] [] 0 0 c R X
  | 0, c, p, lo, hi, s, hr, hf, hhi, hm, hlo, H => mk_X9_goesOn_78 s ⟨fun _ => H c hf hr, fun e => absurd (nI_le (by omega) (by omega)) e⟩
  | m + 1, c, p, lo, hi, s, hr, hf, hhi, hm, hlo, H => by
    by_cases hlh : lo < hi
    · refine mk_X9_goesOn_78 s ⟨fun e => absurd e (nI_ge hlh (by omega)), fun _ => m_swaps s hn (by omega) hhi hr hf (fun d hd hdr => ⟨rfl, ?_⟩)⟩
      rw [nI_1, sb_m1 (by omega)]
      have H' : ∀ d, fr (fun f i => f = 880 ∧ i = 26) c0 d → Rp n (rF m (swp p lo hi) (lo + 1) (hi - 1)) (cS d 880 26) → R (some (.int 1)) d := by
        intro d
        have := H d
        unfold rF at this
        rw [if_pos hlh] at this
        exact this
      exact m_goesOn78 hn m d (swp p lo hi) (lo + 1) (hi - 1) (hd.sl ⟨by rw [← hf.2.1]; exact s.1, by rw [← hf.1]; exact s.2⟩) hdr hd (by omega) (by omega) (by omega) H'
    · refine mk_X9_goesOn_78 s ⟨fun _ => H c hf ?_, fun e => absurd (nI_le (by omega) (by omega)) e⟩
      unfold rF
      rw [if_neg hlh]
      exact hr
theorem m_goesOn41 {c : cc_C} {a n u : Nat} {p : Nat → Nat} {o4 o5 : Option Value} (s : sl c 21 0 0 a) (hn : n ≤ 6) (hr : Rp n p (cS c 880 26)) (hp : ∀ k, k < n → p k < 100) (hu : u + 1 < n) (huu : p u ≤ p (u + 1)) (H : ∀ d, fr (fun f i => f = 880 ∧ i = 26) c d → Rp n (rF n (swp p u (nF p (p u) (n - 1))) (u + 1) (n - 1)) (cS d 880 26) → R (some (.int 1)) d) : ∀ (m j : Nat), j = u + 1 + m → j < n → nF p (p u) j = nF p (p u) (n - 1) → ec g tb_X9_goesOn 41 [some (.ref a), some (.int (nI n)), some (.int (nI u)), some (.int (nI j)), o4, o5] [] 0 0 c R X := by
  have fin : ∀ j, j < n → j = nF p (p u) (n - 1) → wc g (wp_X9_swaps g) c [.ref a, .int (nI u), .int (nI j)] (fun v c1 => v = none ∧ ec g tb_X9_goesOn 78 [some (.ref a), some (.int (nI n)), some (.int (nI u)), some (.int (nI j)), some (.int (nI u + (1))), some (.int (nI n - (1)))] [] 0 0 c1 R X) X := by
    intro j hj he
    refine m_swaps s hn (by omega) hj hr fr_rfl (fun d hd hdr => ⟨rfl, ?_⟩)
    have e1 : nI n - 1 = nI (n - 1) := pk_sub (b := 1) (by omega)
    rw [e1, nI_1]
    rw [he] at hdr
    exact m_goesOn78 hn n d _ (u + 1) (n - 1) (hd.sl s) hdr hd (by omega) (by omega) (by omega) H
  intro m
  induction m with
  | zero =>
    intro j hj hjn hnf
    have hnF : nF p (p u) j = j := by
      obtain rfl : j = u + 1 := by omega
      unfold nF
      rw [if_neg (by omega)]
    refine mk_X9_goesOn_41 s ?_
    rw [nI_clamp (by omega), nI_clamp (by omega), hr u (by omega), hr j hjn]
    refine ⟨vp_in_nI (by omega) (by omega), vp_in_nI (by omega) (by omega), fun _ => fin j hjn (by rw [← hnf, hnF]), fun e => absurd (nI_le ?_ ?_) e⟩
    · obtain rfl : j = u + 1 := by omega
      exact huu
    · have := hp j hjn
      omega
  | succ m ih =>
    intro j hj hjn hnf
    refine mk_X9_goesOn_41 s ?_
    rw [nI_clamp (by omega), nI_clamp (by omega), hr u (by omega), hr j hjn]
    have b1 := hp u (by omega)
    have b2 := hp j hjn
    obtain ⟨j', rfl⟩ : ∃ j', j = j' + 1 := ⟨j - 1, by omega⟩
    refine ⟨vp_in_nI (by omega) (by omega), vp_in_nI (by omega) (by omega), fun e => fin _ hjn ?_, fun e => ?_⟩
    · have h1 := (nI_leI (by omega) (by omega)).mp e
      rw [← hnf]
      unfold nF
      rw [if_neg (by omega)]
    · have h1 : ¬ p u ≤ p (j' + 1) := fun q => e ((nI_leI (by omega) (by omega)).mpr q)
      rw [pk_m1]
      refine ih j' (by omega) (by omega) ?_
      rw [← hnf]
      show _ = (if p (j' + 1) < p u then nF p (p u) j' else j' + 1)
      rw [if_pos (by omega)]
theorem m_goesOn {c : cc_C} {a n : Nat} {x : Int32} {p : Nat → Nat} (s : sl c 21 0 0 a) (hx : x = nI n) (h2 : 2 ≤ n) (hn : n ≤ 6) (hr : Rp n p (cS c 880 26)) (hp : ∀ k, k < n → p k < 100) (hN : goF n p = none → R (some (.int 0)) c) (hS : ∀ p', goF n p = some p' → ∀ d, fr (fun f i => f = 880 ∧ i = 26) c d → Rp n p' (cS d 880 26) → R (some (.int 1)) d) : wc g (wp_X9_goesOn g) c [.ref a, .int x] R X := by
  subst hx
  refine mk_X9_goesOn_0 s ?_
  have e1 : nI n - 2 = nd (n - 1) := by
    obtain ⟨m, rfl⟩ : ∃ m, n = m + 2 := ⟨n - 2, by omega⟩
    exact pk_sub (a := m + 2) (b := 2) (by omega)
  rw [e1]
  refine m_goesOn4 s hn hr hp (n - 1) _ (by omega) (fun h => hN ?_) (fun u hu => ?_)
  · unfold goF
    rw [h]
  · have hu2 := tF_lt hu
    have e2 : nI n - 1 = nI (n - 1) := pk_sub (b := 1) (by omega)
    rw [e2]
    refine m_goesOn41 s hn hr hp (by omega) hu2.2 (hS _ ?_) (n - 1 - (u + 1)) (n - 1) (by omega) (by omega) rfl
    unfold goF
    rw [hu]
theorem m_begins2 {c0 : cc_C} {a n : Nat} (hn : n ≤ 6) (H : ∀ d, fr (fun f i => f = 880 ∧ i = 26) c0 d → Rp n (fun i => i) (cS d 880 26) → R none d) : ∀ (m i : Nat) (c : cc_C), i + m = n → sl c 21 0 0 a → fr (fun f i => f = 880 ∧ i = 26) c0 c → Rp i (fun i => i) (cS c 880 26) → ec g tb_X9_begins 2 [some (.ref a), some (.int (nI n)), some (.int (nI i))] [] 0 0 c R X
  | 0, i, c, hi, s, hf, hr => by
    obtain rfl : i = n := by omega
    exact mk_X9_begins_2 s ⟨fun _ => H c hf hr, fun e => absurd (nI_le (Nat.le_refl i) (by omega)) e⟩
  | m + 1, i, c, hi, s, hf, hr => by
    refine mk_X9_begins_2 s ⟨fun e => absurd e (nI_ge (by omega) (by omega)), fun _ => ⟨vp_in_nI (by omega) (by omega), ?_⟩⟩
    rw [nI_1, nI_clamp (by omega)]
    refine m_begins2 hn H m (i + 1) _ (by omega) s (hf.set ⟨rfl, rfl⟩) ?_
    rw [cS_row]
    intro k hk
    unfold upd
    by_cases h : k = i
    · rw [if_pos h, h]
    · rw [if_neg h]
      exact hr k (by omega)
theorem m_begins {c : cc_C} {a n : Nat} {x : Int32} (s : sl c 21 0 0 a) (hx : x = nI n) (hn : n ≤ 6) (H : ∀ d, fr (fun f i => f = 880 ∧ i = 26) c d → Rp n (fun i => i) (cS d 880 26) → R none d) : wc g (wp_X9_begins g) c [.ref a, .int x] R X := by
  subst hx
  exact mk_X9_begins_0 s (m_begins2 hn H n 0 c (by omega) s fr_rfl (fun k hk => absurd hk (Nat.not_lt_zero k)))
end
/-! all orders, one after the other: fewer than 720 steps lead from the first to the last -/
/-- as lists, so that the kernel can count -/
def lsP (n : Nat) (p : Nat → Nat) : List Nat := (List.range n).map p
def ofL (l : List Nat) : Nat → Nat := fun i => l.getD i 0
def goL (n : Nat) (l : List Nat) : Option (List Nat) := (goF n (ofL l)).map (lsP n)
/-- from l, the last order comes after m steps, and all places are below n -/
def chain (n : Nat) : Nat → List Nat → Bool
  | 0, l => (goL n l).isNone && l.all (fun x => Nat.blt x n)
  | m + 1, l => l.all (fun x => Nat.blt x n) && match goL n l with
    | none => false
    | some l' => chain n m l'
theorem chain3 : chain 3 5 [0, 1, 2] = true := by decide +kernel
theorem chain4 : chain 4 23 [0, 1, 2, 3] = true := by decide +kernel
theorem chain5 : chain 5 119 [0, 1, 2, 3, 4] = true := by decide +kernel
theorem chain6 : chain 6 719 [0, 1, 2, 3, 4, 5] = true := by decide +kernel
