def hN (y : Nat) : Nat := (hiG y 7).toNatClampNeg
def awI (l1 h2 l2 h1 : Nat) : Nat → Int32
  | 0 => 0
  | p + 1 => if (l1 < p ∧ p < h2) ∨ (l2 < p ∧ p < h1) then awI l1 h2 l2 h1 p ||| 0 else awI l1 h2 l2 h1 p ||| ((1 : Int32) <<< (nI p &&& 31))
theorem lo_hi {y : Nat} (h : y < 64) (h0 : y ≠ 0) : hiG y 7 = nI (hN y) ∧ hN y < 6 ∧ lowG y 6 0 < 6 ∧ riN y = 64 - 2 ^ (lowG y 6 0 + 1) ∧ loN y = 2 ^ hN y - 1 := by
  have k : ∀ y, y < 64 → (y ≠ 0 → hiG y 7 = nI (hN y) ∧ hN y < 6 ∧ lowG y 6 0 < 6 ∧ riN y = 64 - 2 ^ (lowG y 6 0 + 1) ∧ loN y = 2 ^ hN y - 1) := by decide +kernel
  exact k y h h0
theorem lo6_or (a b : Int32) : lo6 (a ||| b) = lo6 a ||| lo6 b := by
  unfold lo6
  rw [show (a ||| b).toBitVec.toNat = a.toBitVec.toNat ||| b.toBitVec.toNat from BitVec.toNat_or _ _, show (64 : Nat) = 2 ^ 6 from rfl, Nat.or_mod_two_pow]
theorem lo6_and (a b : Int32) : lo6 (a &&& b) = lo6 a &&& lo6 b := by
  unfold lo6
  rw [show (a &&& b).toBitVec.toNat = a.toBitVec.toNat &&& b.toBitVec.toNat from BitVec.toNat_and _ _, show (64 : Nat) = 2 ^ 6 from rfl, Nat.and_mod_two_pow]
theorem btN_is (x y : Nat) : btN x y = (riN x &&& loN y) ||| (riN y &&& loN x) := by
  unfold btN riN loN
  rw [lo6_or, lo6_and, lo6_and]
theorem aw_all : ∀ l1, l1 < 6 → ∀ h2, h2 < 6 → ∀ l2, l2 < 6 → ∀ h1, h1 < 6 → ∀ k, k < 4 → (2 ^ (k + 3) - 1) &&& (63 - lo6 (awI l1 h2 l2 h1 (k + 3))) = (2 ^ (k + 3) - 1) &&& (((64 - 2 ^ (l1 + 1)) &&& (2 ^ h2 - 1)) ||| ((64 - 2 ^ (l2 + 1)) &&& (2 ^ h1 - 1))) ∧ (2 ^ (k + 3) - 1) &&& (lo6 (awI l1 h2 l2 h1 (k + 3))) = (2 ^ (k + 3) - 1) &&& (63 - (((64 - 2 ^ (l1 + 1)) &&& (2 ^ h2 - 1)) ||| ((64 - 2 ^ (l2 + 1)) &&& (2 ^ h1 - 1)))) := by decide +kernel
theorem and_full {z n : Nat} (h : z < 2 ^ n) (s : Nat) : z &&& s = z &&& ((2 ^ n - 1) &&& s) := by
  rw [← Nat.and_assoc, Nat.and_two_pow_sub_one_of_lt_two_pow h]
theorem aw_is {x y z n : Nat} (hx : x < 64) (hy : y < 64) (x0 : x ≠ 0) (y0 : y ≠ 0) (hn3 : 3 ≤ n) (hn : n ≤ 6) (hz : z < 2 ^ n) : z &&& (63 - lo6 (awI (lowG x 6 0) (hN y) (lowG y 6 0) (hN x) n)) = z &&& btN x y ∧ z &&& lo6 (awI (lowG x 6 0) (hN y) (lowG y 6 0) (hN x) n) = z &&& (63 - btN x y) := by
  obtain ⟨-, a2, a3, a4, a5⟩ := lo_hi hx x0
  obtain ⟨-, b2, b3, b4, b5⟩ := lo_hi hy y0
  obtain ⟨k, rfl⟩ : ∃ k, n = k + 3 := ⟨n - 3, by omega⟩
  obtain ⟨e1, e2⟩ := aw_all _ a3 _ b2 _ b3 _ a2 k (by omega)
  rw [btN_is, a4, a5, b4, b5]
  constructor
  · rw [and_full hz, e1, ← and_full hz]
  · rw [and_full hz, e2, ← and_full hz]
section
variable {g : Nat → Nat} {R : Option Value → cc_C → Prop} {X : String → cc_C → Prop}
end
