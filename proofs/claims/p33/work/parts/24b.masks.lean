section
variable {g : Nat → Nat} {R : Option Value → cc_C → Prop} {X : String → cc_C → Prop}
def szC (x : Int32) : Int32 := ((((((0 + ((x >>> ((0 : Int32) &&& 31)) &&& (1))) + ((x >>> ((1 : Int32) &&& 31)) &&& (1))) + ((x >>> ((2 : Int32) &&& 31)) &&& (1))) + ((x >>> ((3 : Int32) &&& 31)) &&& (1))) + ((x >>> ((4 : Int32) &&& 31)) &&& (1))) + ((x >>> ((5 : Int32) &&& 31)) &&& (1))) + ((x >>> ((6 : Int32) &&& 31)) &&& (1))
theorem szC_is {y : Nat} (h : y < 64) : szC (nI y) = nI (pcN y) := by
  have k : ∀ m, m < 64 → szC (nI m) = nI (pcN m) := by decide +kernel
  exact k y h
def pMay (f i : Nat) : Prop := f = 880 ∧ i = 25
theorem pMay_no : ∀ i, i < 20 → ¬ pMay 880 i := fun i h q => by
  have := q.2
  omega
/-- the sets of the reference -/
def meR (c : cc_C) (n : Nat) (m : Nat → Nat) : Prop := n ≤ 6 ∧ Rp n m (cS c 880 25) ∧ ∀ k, m k < 64
def lowG (y : Nat) : Nat → Nat → Nat
  | 0, k => k
  | m + 1, k => if y / 2 ^ k % 2 = 1 then k else lowG y m (k + 1)
def hiG (y : Nat) : Nat → Int32
  | 0 => -1
  | t + 1 => if y / 2 ^ t % 2 = 1 then nI t else hiG y t
/-- somebody has no place -/
def eE (m : Nat → Nat) : Nat → Bool
  | 0 => false
  | k + 1 => eE m k || decide (m k = 0)
theorem eE_mono {m : Nat → Nat} {i : Nat} (h : eE m i = true) : ∀ k, eE m (i + k) = true
  | 0 => h
  | k + 1 => by
    show (eE m (i + k) || _) = true
    rw [eE_mono h k]
    rfl
theorem eE_no {m : Nat → Nat} : ∀ {n : Nat}, eE m n = false → ∀ k, k < n → m k ≠ 0
  | 0, _, k, hk => absurd hk (Nat.not_lt_zero k)
  | n + 1, h, k, hk => by
    have h1 : (eE m n || decide (m n = 0)) = false := h
    rw [Bool.or_eq_false_iff] at h1
    by_cases hkn : k = n
    · rw [hkn]
      exact of_decide_eq_false h1.2
    · exact eE_no h1.1 k (by omega)
end
