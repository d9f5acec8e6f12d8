/-! bits fall -/
def smB (m : Nat → Nat) : Nat → Nat
  | 0 => 0
  | k + 1 => smB m k + pcN (m k)
theorem smB_kp {m : Nat → Nat} {p σ : Nat} (h : ∀ k, m k < 64) (hσ : σ < 64) : ∀ n, smB (kp m p σ) n + (if p < n then pcN (m p &&& (63 - σ)) else 0) = smB m n
  | 0 => by
    rw [if_neg (Nat.not_lt_zero p)]
    rfl
  | k + 1 => by
    have key : ∀ x, x < 64 → ∀ s, s < 64 → pcN (x &&& s) + pcN (x &&& (63 - s)) = pcN x := by decide +kernel
    have ih := smB_kp (p := p) (σ := σ) h hσ k
    show smB (kp m p σ) k + pcN (kp m p σ k) + _ = smB m k + pcN (m k)
    by_cases hk : k = p
    · have e1 : kp m p σ k = m p &&& σ := if_pos hk
      rw [e1, if_pos (by omega)]
      rw [if_neg (by omega)] at ih
      have := key (m p) (h p) σ hσ
      rw [hk] at ih ⊢
      omega
    · have e1 : kp m p σ k = m k := if_neg hk
      rw [e1]
      by_cases hp : p < k
      · rw [if_pos hp] at ih
        rw [if_pos (by omega)]
        omega
      · rw [if_neg hp] at ih
        rw [if_neg (by omega)]
        omega
/-- an effect on the first n: it takes what it says -/
def fair (n : Nat) (m : Nat → Nat) (x : cc_Ef) : Prop := smB x.1 n + x.2 = smB m n ∧ (∀ k, x.1 k < 64) ∧ ∀ k, x.1 k ≤ m k
theorem kpE_f {n : Nat} {m : Nat → Nat} {p σ : Nat} (h : ∀ k, m k < 64) (hσ : σ < 64) (hp : p < n) : fair n m (kpE m p σ) := by
  refine ⟨?_, kp_lt h, fun k => ?_⟩
  · have := smB_kp (p := p) (σ := σ) h hσ n
    rw [if_pos hp] at this
    exact this
  · show kp m p σ k ≤ m k
    unfold kp
    by_cases hk : k = p
    · rw [if_pos hk, hk]
      exact Nat.and_le_left
    · rw [if_neg hk]
      exact Nat.le_refl _
theorem thn_f {n : Nat} {m : Nat → Nat} {x : cc_Ef} {f : (Nat → Nat) → cc_Ef} (h1 : fair n m x) (h2 : fair n x.1 (f x.1)) : fair n m (thn x f) := by
  obtain ⟨a1, a2, a3⟩ := h1
  obtain ⟨b1, b2, b3⟩ := h2
  refine ⟨?_, b2, fun k => Nat.le_trans (b3 k) (a3 k)⟩
  show smB (f x.1).1 n + (x.2 + (f x.1).2) = smB m n
  omega
theorem none_f {n : Nat} {m : Nat → Nat} (h : ∀ k, m k < 64) : fair n m (m, 0) := ⟨rfl, h, fun _ => Nat.le_refl _⟩
