/-! a list takes one more -/
/-- the state behind: list i has b at its end, q is its row, of z places -/
def dL (c : cc_C) (i b q z : Nat) : cc_C := (fun k i' j => if k = 2 ∧ i' = i ∧ j = 0 then q else if k = 5 ∧ i' + 4 = i ∧ j = cN c 42 i then b else cA c k i' j, fun k i' j => cV c k i' j ∨ (k = 2 ∧ i' = i ∧ j = 0), fun f i' j => if f = 40 ∧ i' = i ∧ j = 0 then cS c 40 i 0 + 1 else if f = 42 ∧ i' = i ∧ j = 0 then cS c 42 i 0 + 1 else if f = 80 ∧ i' = i ∧ j = 0 then nI z else cS c f i' j, cP c, cD c)
section
variable {c : cc_C} {i b q z : Nat}
theorem dL_A {k i' j : Nat} (h : ¬ (k = 2 ∧ i' = i ∧ j = 0)) (h5 : ¬ (k = 5 ∧ i' + 4 = i ∧ j = cN c 42 i)) : cA (dL c i b q z) k i' j = cA c k i' j := by
  show (if k = 2 ∧ i' = i ∧ j = 0 then q else if k = 5 ∧ i' + 4 = i ∧ j = cN c 42 i then b else cA c k i' j) = _
  rw [if_neg h, if_neg h5]
theorem dL_a2 : cA (dL c i b q z) 2 i 0 = q := if_pos ⟨rfl, rfl, rfl⟩
theorem dL_a5 {r : Nat} : cA (dL c (r + 4) b q z) 5 r (cN c 42 (r + 4)) = b := by
  show (if 5 = 2 ∧ r = r + 4 ∧ cN c 42 (r + 4) = 0 then q else if 5 = 5 ∧ r + 4 = r + 4 ∧ cN c 42 (r + 4) = cN c 42 (r + 4) then b else cA c 5 r (cN c 42 (r + 4))) = _
  rw [if_neg (by omega), if_pos ⟨rfl, rfl, rfl⟩]
theorem dL_S {f i' j : Nat} (h : ¬ (i' = i ∧ (f = 40 ∨ f = 42 ∨ f = 80))) : cS (dL c i b q z) f i' j = cS c f i' j := by
  show (if f = 40 ∧ i' = i ∧ j = 0 then cS c 40 i 0 + 1 else if f = 42 ∧ i' = i ∧ j = 0 then cS c 42 i 0 + 1 else if f = 80 ∧ i' = i ∧ j = 0 then nI z else cS c f i' j) = _
  rw [if_neg (fun q => h ⟨q.2.1, Or.inl q.1⟩), if_neg (fun q => h ⟨q.2.1, Or.inr (Or.inl q.1)⟩), if_neg (fun q => h ⟨q.2.1, Or.inr (Or.inr q.1)⟩)]
theorem dL_s40 : cS (dL c i b q z) 40 i 0 = cS c 40 i 0 + 1 := if_pos ⟨rfl, rfl, rfl⟩
theorem dL_s42 : cS (dL c i b q z) 42 i 0 = cS c 42 i 0 + 1 := by
  show (if 42 = 40 ∧ i = i ∧ 0 = 0 then cS c 40 i 0 + 1 else if 42 = 42 ∧ i = i ∧ 0 = 0 then cS c 42 i 0 + 1 else if 42 = 80 ∧ i = i ∧ 0 = 0 then nI z else cS c 42 i 0) = _
  rw [if_neg (by omega), if_pos ⟨rfl, rfl, rfl⟩]
theorem dL_s80 : cS (dL c i b q z) 80 i 0 = nI z := by
  show (if 80 = 40 ∧ i = i ∧ 0 = 0 then cS c 40 i 0 + 1 else if 80 = 42 ∧ i = i ∧ 0 = 0 then cS c 42 i 0 + 1 else if 80 = 80 ∧ i = i ∧ 0 = 0 then nI z else cS c 80 i 0) = _
  rw [if_neg (by omega), if_neg (by omega), if_pos ⟨rfl, rfl, rfl⟩]
theorem dL_le : cle c (dL c i b q z) := fun k i' j hk hv => ⟨Or.inl hv, by
  show (if k = 2 ∧ i' = i ∧ j = 0 then q else if k = 5 ∧ i' + 4 = i ∧ j = cN c 42 i then b else cA c k i' j) = _
  rw [if_neg (fun e => hk.1 e.1), if_neg (fun e => hk.2 e.1)]⟩
end
/-- what a list's growing asks of the element -/
def elk (i : Nat) : Nat := match i with
  | 0 => 3
  | 1 => 14
  | 2 => 15
  | 3 => 16
  | _ => 6
/-- the element's number in its kind -/
def elx (c : cc_C) (i b : Nat) : Nat := if i < 4 then cN c 42 i else b
theorem el_dL {c : cc_C} {i b q z : Nat} (sb : sl c (elk i) (elx c i b) 0 b) : el (dL c i b q z) i (cN c 42 i) = b ∧ elV (dL c i b q z) i (cN c 42 i) := by
  obtain ⟨s1, s2⟩ := sb
  match i, s1, s2 with
  | 0, s1, s2 => exact ⟨(dL_A (by omega) (by omega)).trans s2, Or.inl s1⟩
  | 1, s1, s2 => exact ⟨(dL_A (by omega) (by omega)).trans s2, Or.inl s1⟩
  | 2, s1, s2 => exact ⟨(dL_A (by omega) (by omega)).trans s2, Or.inl s1⟩
  | 3, s1, s2 => exact ⟨(dL_A (by omega) (by omega)).trans s2, Or.inl s1⟩
  | r + 4, s1, s2 =>
    refine ⟨dL_a5, ?_⟩
    show cV (dL c (r + 4) b q z) 6 (cA (dL c (r + 4) b q z) 5 r (cN c 42 (r + 4))) 0
    rw [dL_a5]
    have e : elx c (r + 4) b = b := if_neg (by omega)
    rw [e] at s1
    exact Or.inl s1
theorem el_dLo {c : cc_C} {i b q z i' e : Nat} (h : ¬ (i' = i ∧ e = cN c 42 i)) : el (dL c i b q z) i' e = el c i' e := by
  unfold el
  split
  · exact dL_A (by omega) (by omega)
  · exact dL_A (by omega) (by omega)
  · exact dL_A (by omega) (by omega)
  · exact dL_A (by omega) (by omega)
  · exact dL_A (by omega) (by omega)
theorem elV_dLo {c : cc_C} {i b q z i' e : Nat} (h : ¬ (i' = i ∧ e = cN c 42 i)) (hv : elV c i' e) : elV (dL c i b q z) i' e := by
  unfold elV at hv ⊢
  split
  · exact Or.inl hv
  · exact Or.inl hv
  · exact Or.inl hv
  · exact Or.inl hv
  · rename_i r
    rw [dL_A (by omega) (by omega)]
    exact Or.inl hv
theorem cN_dL42 {c : cc_C} {i b q z : Nat} (h0 : ¬ cS c 42 i 0 < 0) (hlt : cN c 42 i < 100) : cN (dL c i b q z) 42 i = cN c 42 i + 1 ∧ ¬ cS (dL c i b q z) 42 i 0 < 0 := by
  obtain ⟨n, hn, e⟩ := nI_of h0
  unfold cN at hlt ⊢
  rw [dL_s42, e]
  rw [e, nI_clamp hn] at hlt
  rw [nI_1, nI_clamp (by omega), nI_clamp hn]
  exact ⟨rfl, nI_pos (by omega)⟩
theorem CC_L {g : Nat → Nat} {c : cc_C} {L L' : List Nat} {h h' : ab_H} {i b q z a : Nat} (cc : CC g c L h) (s : sl c 1 i 0 a) (sb : sl c (elk i) (elx c i b) 0 b) (hz : z < 100) (hsz : cN c 42 i < z)
    (hL : ∀ b, b ∈ L → b ∈ L') (hq : (cV c 2 i 0 ∧ q = cA c 2 i 0 ∧ q ∈ L') ∨ (q ∉ L ∧ q ∈ L'))
    (hh : ∀ b, b ∈ L → b ≠ a → b ≠ q → (¬ (cV c 2 i 0 ∧ b = cA c 2 i 0)) → h' b = h b) (ha : h' a = .inr (2, [.int (cS c 40 i 0 + 1), .ref q, .int (cS c 42 i 0 + 1)]))
    (hqq : h' q = .inl (4, z, .inr (.inr (.inr (.inr (fun e => if e < cN c 42 i + 1 then (if e = cN c 42 i then some b else some (el c i e)) else none)))))) : CC g (dL c i b q z) L' h' := by
  have hcw := cc.2.2
  obtain ⟨a1, a2, a3, a4, a5, a6, a7, a8, a9, a11, a10⟩ := cc.2.2
  obtain ⟨w1, w2, w3, w4⟩ := a10 i s.1
  have h42 := cN_dL42 (b := b) (q := q) (z := z) w1 (show cN c 42 i < 100 by omega)
  have h80 : cN (dL c i b q z) 80 i = z := by
    unfold cN
    rw [dL_s80, nI_clamp (by omega)]
  have hqL : q ∈ L' := hq.elim (fun q => q.2.2) (fun q => q.2)
  have hAo : ∀ k' i' j', cV c k' i' j' → ¬ (k' = 2 ∧ i' = i ∧ j' = 0) → cA (dL c i b q z) k' i' j' = cA c k' i' j' := fun k' i' j' hv hn => dL_A hn (fun e => (a1 _ _ _ hv).2.2 e.1)
  have hwd : cw (dL c i b q z) := by
    refine ⟨fun k' i' j' hv => hv.elim (a1 k' i' j') (fun e => ⟨e.2.2, by omega, by omega⟩), fun hv => ?_, fun i' hv => ?_, fun i' hv => ?_, fun i' hv => ?_, fun i' hv => ?_, fun i' hv => ?_, fun i' hv => ?_, fun hv => ?_, fun i' => ⟨fun hv => ?_, fun hv => Or.inl ((a11 i').2 (hv.elim id (fun e => by omega)))⟩, fun i' hv => ?_⟩
    · obtain ⟨b1, b2, b3, b4⟩ := a2 (hv.elim id (fun e => by omega))
      exact ⟨Or.inl b1, Or.inl b2, Or.inl b3, Or.inl b4⟩
    · obtain ⟨b1, b2, b3, b4⟩ := a3 i' (hv.elim id (fun e => by omega))
      refine ⟨Or.inl b1, Or.inl b2, Or.inl b3, ?_⟩
      unfold cN at b4 ⊢
      rw [dL_S (f := 126) (by omega)]
      exact fun hne => Or.inl (b4 hne)
    · obtain ⟨b1, b2, b3, b4⟩ := a4 i' (hv.elim id (fun e => by omega))
      exact ⟨Or.inl b1, Or.inl b2, Or.inl b3, Or.inl b4⟩
    · exact Or.inl (a5 i' (hv.elim id (fun e => by omega)))
    · exact Or.inl (a6 i' (hv.elim id (fun e => by omega)))
    · have hv' := hv.elim id (fun e => by omega)
      exact ⟨Or.inl (a7 i' hv').1, (hAo _ _ _ hv' (by omega)).trans (a7 i' hv').2⟩
    · have hv' := hv.elim id (fun e => by omega)
      exact (hAo _ _ _ hv' (by omega)).trans (a8 i' hv')
    · exact fun j hj => Or.inl (a9 (hv.elim id (fun e => by omega)) j hj)
    · rcases hv with hv | ⟨-, rfl, -⟩
      · exact Or.inl ((a11 i').1 hv)
      · exact Or.inl s.1
    · have hv' := hv.elim id (fun e => by omega)
      by_cases hi : i' = i
      · subst hi
        refine ⟨h42.2, by omega, fun _ => Or.inr ⟨rfl, rfl, rfl⟩, fun e he => ?_⟩
        rw [h42.1] at he
        by_cases h1 : e = cN c 42 i'
        · rw [h1]
          exact (el_dL sb).2
        · exact elV_dLo (fun q => h1 q.2) (w4 e (by omega))
      · obtain ⟨b1, b2, b3, b4⟩ := a10 i' hv'
        unfold cN at b2 b3 b4 ⊢
        rw [dL_S (f := 42) (fun q => hi q.1), dL_S (f := 80) (fun q => hi q.1)]
        exact ⟨b1, b2, fun hne => Or.inl (b3 hne), fun e he => elV_dLo (fun q => hi q.1) (b4 e he)⟩
  have hct : ∀ k' i', cV c k' i' 0 → ¬ (k' = 2 ∧ i' = i) → ¬ (k' = 1 ∧ i' = i) → ct g (dL c i b q z) k' i' 0 = ct g c k' i' 0 := by
    intro k' i' hv h2 h1
    by_cases hk1 : k' = 1
    · subst hk1
      have hi : i' ≠ i := fun e => h1 ⟨rfl, e⟩
      refine ct_ext cc.2.2 hv (fun k'' i'' hv'' ho => hAo _ _ _ hv'' (by omega)) (fun _ hv'' => hAo _ _ _ hv'' (by omega)) (fun r e hv'' he => dL_A (by omega) (fun q => ?_)) (fun f hf => ?_) rfl rfl 0
      · rw [q.2.1] at he
        omega
      · funext j
        exact dL_S (fun q => hi q.1)
    · refine ct_ext cc.2.2 hv (fun k'' i'' hv'' ho => hAo _ _ _ hv'' (by omega)) (fun e => absurd e hk1) (fun r e hv'' he => dL_A (by omega) (fun q => ?_)) (fun f hf => ?_) rfl rfl 0
      · rw [q.2.1] at he
        omega
      · have hr := seesR hf
        funext j
        exact dL_S (by omega)
  refine ⟨fun k' i' j' hv => ?_, fun k1 i1 j1 k2 i2 j2 hv hv' e => ?_, hwd⟩
  · have hj : j' = 0 := (hwd.1 _ _ _ hv).1
    subst hj
    by_cases h2 : k' = 2 ∧ i' = i
    · obtain ⟨rfl, rfl⟩ := h2
      rw [dL_a2]
      refine ⟨hqL, ?_⟩
      rw [hqq]
      show _ = ct2 g _ i' 0
      unfold ct2
      rw [h80]
      have : (fun e => if e < cN c 42 i' + 1 then (if e = cN c 42 i' then some b else some (el c i' e)) else none) = els (dL c i' b q z) i' := by
        funext e
        unfold els
        rw [h42.1]
        by_cases h1 : e < cN c 42 i' + 1
        · rw [if_pos h1, if_pos h1]
          by_cases h3 : e = cN c 42 i'
          · rw [if_pos h3, h3, (el_dL sb).1]
          · rw [if_neg h3, el_dLo (fun q => h3 q.2)]
        · rw [if_neg h1, if_neg h1]
      rw [this]
    · have hv0 := hv.elim id (fun e => absurd ⟨e.1, e.2.1⟩ h2)
      rw [hAo _ _ _ hv0 (fun q => h2 ⟨q.1, q.2.1⟩)]
      obtain ⟨m1, m2⟩ := cc.1 _ _ _ hv0
      refine ⟨hL _ m1, ?_⟩
      by_cases h1 : k' = 1 ∧ i' = i
      · obtain ⟨rfl, rfl⟩ := h1
        rw [s.2, ha]
        show _ = ct1 g _ i' 0
        unfold ct1
        rw [dL_s40, dL_s42]
        have : dat g (dL c i' b q z) i' = q := by
          unfold dat
          rw [h80, if_neg (by omega), dL_a2]
        rw [this]
      · rw [hct k' i' hv0 h2 h1, ← m2]
        refine hh _ m1 (fun e => h1 ?_) (fun e => ?_) (fun e => h2 ?_)
        · have := cc.2.1 _ _ _ _ _ _ hv0 s.1 (e.trans s.2.symm)
          exact ⟨this.1, this.2.1⟩
        · rcases hq with ⟨q1, q2, q3⟩ | ⟨q1, q2⟩
          · have := cc.2.1 _ _ _ _ _ _ hv0 q1 (e.trans q2)
            exact h2 ⟨this.1, this.2.1⟩
          · exact q1 (e ▸ m1)
        · have := cc.2.1 _ _ _ _ _ _ hv0 e.1 e.2
          exact ⟨this.1, this.2.1⟩
  · have key : ∀ k i1 j, cV (dL c i b q z) k i1 j → (k = 2 ∧ i1 = i ∧ j = 0 ∧ cA (dL c i b q z) k i1 j = q) ∨ (¬ (k = 2 ∧ i1 = i ∧ j = 0) ∧ cV c k i1 j ∧ cA (dL c i b q z) k i1 j = cA c k i1 j ∧ cA c k i1 j ≠ q) := by
      intro k i1 j hv
      by_cases hx : k = 2 ∧ i1 = i ∧ j = 0
      · obtain ⟨rfl, rfl, rfl⟩ := hx
        exact Or.inl ⟨rfl, rfl, rfl, dL_a2⟩
      · have hv0 := hv.elim id (fun e => absurd e hx)
        refine Or.inr ⟨hx, hv0, hAo _ _ _ hv0 hx, fun e => ?_⟩
        rcases hq with ⟨q1, q2, q3⟩ | ⟨q1, q2⟩
        · exact hx (cc.2.1 _ _ _ _ _ _ hv0 q1 (e.trans q2))
        · exact q1 (e ▸ (cc.1 _ _ _ hv0).1)
    rcases key _ _ _ hv with ⟨rfl, rfl, rfl, e1⟩ | ⟨-, v1, e1, n1⟩ <;> rcases key _ _ _ hv' with ⟨rfl, rfl, rfl, e2⟩ | ⟨-, v2, e2, n2⟩
    · exact ⟨rfl, rfl, rfl⟩
    · exact absurd (e2.symm.trans (e.symm.trans e1)) n2
    · exact absurd (e1.symm.trans (e.trans e2)) n1
    · exact cc.2.1 _ _ _ _ _ _ v1 v2 (e1.symm.trans (e.trans e2))
