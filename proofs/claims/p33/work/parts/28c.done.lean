section
variable {g : Nat → Nat} {R : Option Value → cc_C → Prop} {X : String → cc_C → Prop}
def pmA (m : Nat → Nat) (n p q : Nat) : Option cc_T := orE (match scR (pairE m n p) (n - q) q with
    | none => none
    | some (q, x) => some (9, 10 * p + q, x)) (paS m n (n - (p + 1)) (p + 1))
theorem paS_s {m : Nat → Nat} {n p : Nat} (h : p < n) : paS m n (n - p) p = pmA m n p (p + 1) := by
  obtain ⟨d, hd⟩ : ∃ d, n - p = d + 1 := ⟨n - p - 1, by omega⟩
  rw [hd]
  unfold pmA
  rw [show n - (p + 1) = d by omega]
  show orE (match scR (pairE m n p) (n - (p + 1)) (p + 1) with | none => none | some (q, x) => some (9, 10 * p + q, x)) (paS m n d (p + 1)) = _
  rw [show n - (p + 1) = d by omega]
theorem pmA_end {m : Nat → Nat} {n p q : Nat} (h : n ≤ q) : pmA m n p q = paS m n (n - (p + 1)) (p + 1) := by
  unfold pmA
  rw [show n - q = 0 by omega]
  rfl
end
