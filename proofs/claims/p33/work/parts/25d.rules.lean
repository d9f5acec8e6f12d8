section
variable {g : Nat → Nat} {R : Option Value → cc_C → Prop} {X : String → cc_C → Prop}
theorem oth_keep {m : Nat → Nat} {p q σ : Nat} : ∀ i, (othE m p q σ i).1 p = m p
  | 0 => rfl
  | i + 1 => by
    unfold othE
    by_cases hi : i = p ∨ i = q
    · rw [if_pos hi]
      exact oth_keep i
    · rw [if_neg hi]
      show kp (othE m p q σ i).1 i (63 - σ) p = _
      unfold kp
      rw [if_neg (by omega)]
      exact oth_keep i
end
