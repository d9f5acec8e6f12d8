theorem efI_f {n : Nat} {k xa xb xc : Int32} {m : Nat → Nat} (h : ∀ k, m k < 64) (hn : n ≤ 6) (hk : Kv n k xa xb xc) : fair n m (efI k xa xb xc m) := by
  obtain ⟨⟨a, ea, la⟩, ⟨b, eb, lb⟩, hk⟩ := hk
  have p2 : ∀ b, b < 6 → 2 ^ b < 64 := by decide
  unfold efI
  rw [ea, eb, nI_clamp (by omega), nI_clamp (by omega)]
  have two : ∀ (s1 : Nat) (f : (Nat → Nat) → Nat), s1 < 64 → (∀ m, f m < 64) → fair n m (thn (kpE m a s1) (fun m1 => kpE m1 b (f m1))) := fun s1 f h1 h2 => thn_f (kpE_f h h1 la) (kpE_f (kp_lt h) (h2 _) lb)
  rcases hk with rfl | rfl | rfl | rfl | rfl | ⟨rfl, cc, exc, hc1, hc2⟩ | ⟨rfl, cc, exc, hc⟩
  · exact kpE_f h (p2 b (by omega)) la
  · exact kpE_f h (Nat.lt_of_le_of_lt (Nat.sub_le 63 _) (by decide)) la
  · exact two _ (fun m1 => riN (m1 a)) (lo6_lt _) (fun _ => lo6_lt _)
  · exact two _ (fun m1 => dsN 1 (m1 a)) (lo6_lt _) (fun _ => lo6_lt _)
  · exact two _ (fun m1 => l2N (m1 a)) (lo6_lt _) (fun _ => lo6_lt _)
  · rw [exc, nI_clamp (by omega)]
    exact two _ (fun m1 => dsN cc (m1 a)) (lo6_lt _) (fun _ => lo6_lt _)
  · rw [exc, nI_clamp (by omega)]
    exact kpE_f h (lo6_lt _) hc
theorem othE_f {n : Nat} {m : Nat → Nat} {p q σ : Nat} (h : ∀ k, m k < 64) : ∀ i, i ≤ n → fair n m (othE m p q σ i)
  | 0, _ => none_f h
  | i + 1, hi => by
    unfold othE
    by_cases hc : i = p ∨ i = q
    · rw [if_pos hc]
      exact othE_f h i (by omega)
    · rw [if_neg hc]
      exact thn_f (othE_f h i (by omega)) (kpE_f (othE_lt h i) (Nat.lt_of_le_of_lt (Nat.sub_le 63 _) (by decide)) (by omega))
theorem perE_f {n p : Nat} {m : Nat → Nat} (h : ∀ k, m k < 64) : fair n m (perE m n p) := by
  unfold perE
  split
  · exact othE_f h n (Nat.le_refl n)
  · exact none_f h
theorem pairE_f {n p q : Nat} {m : Nat → Nat} (h : ∀ k, m k < 64) : fair n m (pairE m n p q) := by
  unfold pairE
  split
  · exact othE_f h n (Nat.le_refl n)
  · exact none_f h
theorem placE_f {n t : Nat} {m : Nat → Nat} (h : ∀ k, m k < 64) (ht : t < 6) : fair n m (placE m n t) := by
  have p2 : ∀ b, b < 6 → 2 ^ b < 64 := by decide
  unfold placE
  split
  · rename_i hc
    exact kpE_f h (p2 t ht) ((hav_lt n).2 (by omega))
  · exact none_f h
theorem clE_f {n ru : Nat} {k xa xb xc : Int32} {m : Nat → Nat} (h : ∀ k, m k < 64) (hn : n ≤ 6) (hk : Kv n k xa xb xc) : fair n m (clE ru k xa xb xc m) := by
  unfold clE
  split
  · exact efI_f h hn hk
  · exact none_f h
theorem scR_some {f : Nat → cc_Ef} : ∀ {d i e : Nat} {x : cc_Ef}, scR f d i = some (e, x) → i ≤ e ∧ e < i + d ∧ x = f e ∧ x.2 ≠ 0
  | 0, _, _, _, h => by cases h
  | d + 1, i, e, x, h => by
    rw [scR_s] at h
    by_cases h0 : (f i).2 = 0
    · rw [if_pos h0] at h
      obtain ⟨a, b, c, z⟩ := scR_some h
      exact ⟨by omega, by omega, c, z⟩
    · rw [if_neg h0] at h
      cases h
      exact ⟨Nat.le_refl _, by omega, rfl, h0⟩
