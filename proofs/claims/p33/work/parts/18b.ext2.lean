/-! new places, all at once -/
theorem CC_ext2 {g : Nat → Nat} {c d : cc_C} {L L' : List Nat} {h h' : ab_H} {N : Nat → Nat → Nat → Prop} (cc : CC g c L h) (hL : ∀ b, b ∈ L → b ∈ L') (hh : ∀ b, b ∈ L → h' b = h b)
    (hVd : ∀ k i j, cV d k i j → cV c k i j ∨ N k i j) (hVc : ∀ k i j, cV c k i j → cV d k i j)
    (hA : ∀ k i, cV c k i 0 → cA d k i 0 = cA c k i 0) (h5 : ∀ r e, cV c 1 (r + 4) 0 → e < cN c 42 (r + 4) → cA d 5 r e = cA c 5 r e)
    (hS : ∀ k i f, cV c k i 0 → sees k f = true → cS d f i = cS c f i) (hP : cP d = cP c) (hD : cD d = cD c)
    (hN : ∀ k i j, N k i j → cA d k i j ∉ L ∧ cA d k i j ∈ L' ∧ h' (cA d k i j) = ct g d k i j)
    (hI : ∀ k i j k' i' j', N k i j → N k' i' j' → cA d k i j = cA d k' i' j' → k = k' ∧ i = i' ∧ j = j')
    (nz : ∀ k i j, N k i j → j = 0 ∧ (k = 0 ∨ k = 21 ∨ k = 23 ∨ k = 24 ∨ k = 25 → i = 0) ∧ k ≠ 5)
    (n0 : N 0 0 0 → cV d 1 0 0 ∧ cV d 1 1 0 ∧ cV d 1 2 0 ∧ cV d 1 3 0)
    (n3 : ∀ i, N 3 i 0 → cV d 1 (i + 4) 0 ∧ cV d 7 i 0 ∧ cV d 13 i 0 ∧ (¬ cS d 126 i 0 = 0 → cV d 15 (cN d 126 i - 1) 0))
    (n7 : ∀ i, N 7 i 0 → cV d 8 i 0 ∧ cV d 9 i 0 ∧ cV d 10 i 0 ∧ cV d 11 i 0) (n11 : ∀ i, N 11 i 0 → cV d 12 i 0) (n16 : ∀ i, N 16 i 0 → cV d 17 i 0)
    (n18 : ∀ i, N 18 i 0 → cV d 19 i 0 ∧ cA d 18 i 0 = i) (n6 : ∀ i, N 6 i 0 → cA d 6 i 0 = i) (n21 : N 21 0 0 → ∀ j, j < 28 → cV d 22 j 0) (n2 : ∀ i, (N 2 i 0 → cV d 1 i 0) ∧ (N 19 i 0 → cV d 18 i 0))
    (n1 : ∀ i, N 1 i 0 → ¬ cS d 42 i 0 < 0 ∧ cN d 42 i ≤ cN d 80 i ∧ (¬ cN d 80 i = 0 → cV d 2 i 0) ∧ ∀ e, e < cN d 42 i → elV d i e) : CC g d L' h' := by
  have hz := cc.2.2.1
  have hcw := cc.2.2
  refine CC_ext cc hL hh (fun k i j hv => ?_) (fun k i j k' i' j' hv hn hv' hn' e => ?_) ?_
  · rcases hVd k i j hv with h1 | h1
    · have hj : j = 0 := (hz k i j h1).1
      subst hj
      exact Or.inl ⟨h1, hA k i h1, ct_ext hcw h1 (fun k' i' q _ => hA k' i' q) (fun _ q => hA 2 i q) h5 (fun f hf => hS k i f h1 hf) hP hD 0⟩
    · exact Or.inr (hN k i j h1)
  · have key : ∀ k i j, cV d k i j → cA d k i j ∉ L → N k i j := by
      intro k i j hv hn
      rcases hVd k i j hv with h1 | h1
      · exfalso
        have hj : j = 0 := (hz k i j h1).1
        subst hj
        rw [hA k i h1] at hn
        exact hn (cc.1 k i 0 h1).1
      · exact h1
    exact hI _ _ _ _ _ _ (key _ _ _ hv hn) (key _ _ _ hv' hn') e
  · obtain ⟨a1, a2, a3, a4, a5, a6, a7, a8, a9, a11, a10⟩ := hcw
    refine ⟨fun k i j hv => (hVd k i j hv).elim (a1 k i j) (nz k i j), fun hv => (hVd _ _ _ hv).elim (fun q => ?_) n0, fun i hv => (hVd _ _ _ hv).elim (fun q => ?_) (n3 i), fun i hv => (hVd _ _ _ hv).elim (fun q => ?_) (n7 i), fun i hv => (hVd _ _ _ hv).elim (fun q => ?_) (n11 i), fun i hv => (hVd _ _ _ hv).elim (fun q => ?_) (n16 i), fun i hv => (hVd _ _ _ hv).elim (fun q => ?_) (n18 i), fun i hv => (hVd _ _ _ hv).elim (fun q => ?_) (n6 i), fun hv => (hVd _ _ _ hv).elim (fun q => ?_) n21, fun i => ⟨fun hv => (hVd _ _ _ hv).elim (fun q => hVc _ _ _ ((a11 i).1 q)) (n2 i).1, fun hv => (hVd _ _ _ hv).elim (fun q => hVc _ _ _ ((a11 i).2 q)) (n2 i).2⟩, fun i hv => (hVd _ _ _ hv).elim (fun q => ?_) (n1 i)⟩
    · obtain ⟨b1, b2, b3, b4⟩ := a2 q
      exact ⟨hVc _ _ _ b1, hVc _ _ _ b2, hVc _ _ _ b3, hVc _ _ _ b4⟩
    · obtain ⟨b1, b2, b3, b4⟩ := a3 i q
      refine ⟨hVc _ _ _ b1, hVc _ _ _ b2, hVc _ _ _ b3, ?_⟩
      unfold cN at b4 ⊢
      rw [hS 3 i 126 q rfl]
      exact fun hne => hVc _ _ _ (b4 hne)
    · obtain ⟨b1, b2, b3, b4⟩ := a4 i q
      exact ⟨hVc _ _ _ b1, hVc _ _ _ b2, hVc _ _ _ b3, hVc _ _ _ b4⟩
    · exact hVc _ _ _ (a5 i q)
    · exact hVc _ _ _ (a6 i q)
    · exact ⟨hVc _ _ _ (a7 i q).1, (hA 18 i q).trans (a7 i q).2⟩
    · exact (hA 6 i q).trans (a8 i q)
    · exact fun j hj => hVc _ _ _ (a9 q j hj)
    · obtain ⟨b1, b2, b3, b4⟩ := a10 i q
      unfold cN at b2 b3 b4 ⊢
      rw [hS 1 i 42 q rfl, hS 1 i 80 q rfl]
      refine ⟨b1, b2, fun hne => hVc _ _ _ (b3 hne), fun e he => ?_⟩
      have hel := b4 e he
      unfold elV at hel ⊢
      split
      · exact hVc _ _ _ hel
      · exact hVc _ _ _ hel
      · exact hVc _ _ _ hel
      · exact hVc _ _ _ hel
      · rename_i r
        rw [h5 r e q he]
        exact hVc _ _ _ hel
theorem up_at {α : Type} (f : Nat → α) (k : Nat) (v : α) : va_up f k v k = v := if_pos rfl
theorem up_ne {α : Type} {f : Nat → α} {k : Nat} {v : α} {j : Nat} (h : j ≠ k) : va_up f k v j = f j := if_neg h
theorem seesR {k f : Nat} (h : sees k f = true) : (40 * k ≤ f ∧ f < 40 * k + 40) ∨ (k = 1 ∧ f = 80) ∨ (k = 2 ∧ f = 42) ∨ ((k = 12 ∨ k = 13) ∧ f = 120) ∨ (k = 19 ∧ f = 720) := by
  unfold sees at h
  split at h
  · cases h
  · simp only [Bool.or_eq_true, Nat.beq_eq] at h
    omega
  · simp only [Bool.or_eq_true, Nat.beq_eq] at h
    omega
  · simp only [Bool.or_eq_true, Nat.beq_eq] at h
    omega
  · simp only [Bool.or_eq_true, Nat.beq_eq] at h
    omega
  · simp only [Bool.or_eq_true, Nat.beq_eq] at h
    omega
  · simp only [Bool.or_eq_true, Nat.beq_eq] at h
    omega
  · simp only [Bool.or_eq_true, Nat.beq_eq] at h
    omega
  · simp only [Bool.or_eq_true, Nat.beq_eq] at h
    omega
  · cases h
  · simp only [Bool.or_eq_true, Nat.beq_eq] at h
    omega
  · simp only [Bool.or_eq_true, Nat.beq_eq] at h
    omega
  · simp only [Bool.or_eq_true, Nat.beq_eq] at h
    omega
  · simp only [Bool.or_eq_true, Nat.beq_eq] at h
    omega
  · simp only [Bool.or_eq_true, Nat.beq_eq] at h
    omega
  · simp only [Bool.or_eq_true, Nat.beq_eq] at h
    omega
  · cases h
  · simp only [Bool.or_eq_true, Nat.beq_eq] at h
    omega
  · simp only [Bool.or_eq_true, Nat.beq_eq] at h
    omega
  · simp only [Bool.or_eq_true, Nat.beq_eq] at h
    omega
  · cases h
  · cases h
  · simp only [Bool.or_eq_true, Nat.beq_eq] at h
    omega
  · cases h
/-! a new clue, at its own address -/
def dK (c : cc_C) (a : Nat) (x0 x1 x2 x3 : Int32) : cc_C := (fun k i j => if k = 6 ∧ i = a ∧ j = 0 then a else cA c k i j, fun k i j => cV c k i j ∨ (k = 6 ∧ i = a ∧ j = 0), fun f i j => if i = a then (if f = 240 then x0 else if f = 241 then x1 else if f = 242 then x2 else if f = 243 then x3 else cS c f i j) else cS c f i j, cP c, cD c)
theorem dK_A {c : cc_C} {a : Nat} {x0 x1 x2 x3 : Int32} {k i j : Nat} (h : ¬ (k = 6 ∧ i = a ∧ j = 0)) : cA (dK c a x0 x1 x2 x3) k i j = cA c k i j := if_neg h
theorem dK_le {c : cc_C} {a : Nat} {x0 x1 x2 x3 : Int32} (hf : ¬ cV c 6 a 0) : cle c (dK c a x0 x1 x2 x3) := fun k i j _ hv => ⟨Or.inl hv, if_neg fun e => hf (by obtain ⟨rfl, rfl, rfl⟩ := e; exact hv)⟩
theorem dK_S {c : cc_C} {a : Nat} {x0 x1 x2 x3 : Int32} {f i j : Nat} (h : ¬ (i = a ∧ 240 ≤ f ∧ f ≤ 243)) : cS (dK c a x0 x1 x2 x3) f i j = cS c f i j := by
  show (if i = a then (if f = 240 then x0 else if f = 241 then x1 else if f = 242 then x2 else if f = 243 then x3 else cS c f i j) else cS c f i j) = cS c f i j
  by_cases hi : i = a
  · rw [if_pos hi, if_neg (by omega), if_neg (by omega), if_neg (by omega), if_neg (by omega)]
  · rw [if_neg hi]
theorem dK_at {c : cc_C} {a : Nat} {x0 x1 x2 x3 : Int32} : cS (dK c a x0 x1 x2 x3) 240 a 0 = x0 ∧ cS (dK c a x0 x1 x2 x3) 241 a 0 = x1 ∧ cS (dK c a x0 x1 x2 x3) 242 a 0 = x2 ∧ cS (dK c a x0 x1 x2 x3) 243 a 0 = x3 := ⟨if_pos rfl, if_pos rfl, if_pos rfl, if_pos rfl⟩
theorem CC_K {g : Nat → Nat} {c : cc_C} {L : List Nat} {h : ab_H} {a : Nat} {x0 x1 x2 x3 : Int32} (cc : CC g c L h) (ha : a ∉ L) {h' : ab_H} (hh : ∀ b, b ∈ L → h' b = h b) (he : h' a = .inr (3, [.int x0, .int x1, .int x2, .int x3])) : CC g (dK c a x0 x1 x2 x3) (L ++ [a]) h' ∧ ¬ cV c 6 a 0 := by
  have hf : ¬ cV c 6 a 0 := fun hv => by
    have h1 := (cc.1 6 a 0 hv).1
    rw [cc.2.2.2.2.2.2.2.2.2.1 a hv] at h1
    exact ha h1
  refine ⟨CC_ext2 (N := fun k i j => k = 6 ∧ i = a ∧ j = 0) cc (fun b hb => List.mem_append_left _ hb) hh (fun _ _ _ q => q) (fun _ _ _ q => Or.inl q) (fun k i hv => dK_A fun e => hf (by obtain ⟨rfl, rfl, -⟩ := e; exact hv)) (fun r e _ _ => dK_A (by omega)) (fun k i f hv hs => ?_) rfl rfl (fun k i j hn => ?_) (fun k i j k' i' j' hn hn' _ => by obtain ⟨rfl, rfl, rfl⟩ := hn; obtain ⟨rfl, rfl, rfl⟩ := hn'; exact ⟨rfl, rfl, rfl⟩) (fun k i j hn => ⟨hn.2.2, by omega, by omega⟩) (fun hn => by omega) (fun i hn => by omega) (fun i hn => by omega) (fun i hn => by omega) (fun i hn => by omega) (fun i hn => by omega) (fun i hn => ?_) (fun hn => by omega) (fun i => ⟨fun hn => by omega, fun hn => by omega⟩) (fun i hn => by omega), hf⟩
  · have := seesR hs
    funext j
    refine dK_S fun q => ?_
    have h6 : k = 6 := by omega
    subst h6
    exact hf (q.1 ▸ hv)
  · obtain ⟨rfl, rfl, rfl⟩ := hn
    rw [show cA (dK c i x0 x1 x2 x3) 6 i 0 = i from if_pos ⟨rfl, rfl, rfl⟩]
    refine ⟨ha, List.mem_append_right _ (List.mem_singleton.mpr rfl), ?_⟩
    rw [he]
    show _ = ct6 g _ i 0
    unfold ct6
    rw [dK_at.1, dK_at.2.1, dK_at.2.2.1, dK_at.2.2.2]
  · obtain ⟨-, rfl, -⟩ := hn
    exact if_pos ⟨rfl, rfl, rfl⟩
