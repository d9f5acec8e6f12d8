def hN (y : Nat) : Nat := (hiG y 7).toNatClampNeg
def awI (l1 h2 l2 h1 : Nat) : Nat → Int32
  | 0 => 0
  | p + 1 => if (l1 < p ∧ p < h2) ∨ (l2 < p ∧ p < h1) then awI l1 h2 l2 h1 p ||| 0 else awI l1 h2 l2 h1 p ||| ((1 : Int32) <<< (nI p &&& 31))
theorem lo_hi {y : Nat} (h : y < 64) (h0 : y ≠ 0) : hiG y 7 = nI (hN y) ∧ hN y < 6 ∧ lowG y 6 0 < 6 ∧ riN y = 64 - 2 ^ (lowG y 6 0 + 1) ∧ loN y = 2 ^ hN y - 1 := by
  have k : ∀ y, y < 64 → (y ≠ 0 → hiG y 7 = nI (hN y) ∧ hN y < 6 ∧ lowG y 6 0 < 6 ∧ riN y = 64 - 2 ^ (lowG y 6 0 + 1) ∧ loN y = 2 ^ hN y - 1) := by decide +kernel
  exact k y h h0
theorem lo6_or (a b : Int32) : lo6 (a ||| b) = lo6 a ||| lo6 b := by
  unfold lo6
  rw [show (a ||| b).toBitVec.toNat = a.toBitVec.toNat ||| b.toBitVec.toNat from BitVec.toNat_or _ _, show (64 : Nat) = 2 ^ 6 from rfl, Nat.or_mod_two_pow]
theorem lo6_and (a b : Int32) : lo6 (a &&& b) = lo6 a &&& lo6 b := by
  unfold lo6
  rw [show (a &&& b).toBitVec.toNat = a.toBitVec.toNat &&& b.toBitVec.toNat from BitVec.toNat_and _ _, show (64 : Nat) = 2 ^ 6 from rfl, Nat.and_mod_two_pow]
theorem btN_is (x y : Nat) : btN x y = (riN x &&& loN y) ||| (riN y &&& loN x) := by
  unfold btN riN loN
  rw [lo6_or, lo6_and, lo6_and]
theorem aw_all : ∀ l1, l1 < 6 → ∀ h2, h2 < 6 → ∀ l2, l2 < 6 → ∀ h1, h1 < 6 → ∀ k, k < 4 → (2 ^ (k + 3) - 1) &&& (63 - lo6 (awI l1 h2 l2 h1 (k + 3))) = (2 ^ (k + 3) - 1) &&& (((64 - 2 ^ (l1 + 1)) &&& (2 ^ h2 - 1)) ||| ((64 - 2 ^ (l2 + 1)) &&& (2 ^ h1 - 1))) ∧ (2 ^ (k + 3) - 1) &&& (lo6 (awI l1 h2 l2 h1 (k + 3))) = (2 ^ (k + 3) - 1) &&& (63 - (((64 - 2 ^ (l1 + 1)) &&& (2 ^ h2 - 1)) ||| ((64 - 2 ^ (l2 + 1)) &&& (2 ^ h1 - 1)))) := by decide +kernel
theorem and_full {z n : Nat} (h : z < 2 ^ n) (s : Nat) : z &&& s = z &&& ((2 ^ n - 1) &&& s) := by
  rw [← Nat.and_assoc, Nat.and_two_pow_sub_one_of_lt_two_pow h]
theorem aw_is {x y z n : Nat} (hx : x < 64) (hy : y < 64) (x0 : x ≠ 0) (y0 : y ≠ 0) (hn3 : 3 ≤ n) (hn : n ≤ 6) (hz : z < 2 ^ n) : z &&& (63 - lo6 (awI (lowG x 6 0) (hN y) (lowG y 6 0) (hN x) n)) = z &&& btN x y ∧ z &&& lo6 (awI (lowG x 6 0) (hN y) (lowG y 6 0) (hN x) n) = z &&& (63 - btN x y) := by
  obtain ⟨-, a2, a3, a4, a5⟩ := lo_hi hx x0
  obtain ⟨-, b2, b3, b4, b5⟩ := lo_hi hy y0
  obtain ⟨k, rfl⟩ : ∃ k, n = k + 3 := ⟨n - 3, by omega⟩
  obtain ⟨e1, e2⟩ := aw_all _ a3 _ b2 _ b3 _ a2 k (by omega)
  rw [btN_is, a4, a5, b4, b5]
  constructor
  · rw [and_full hz, e1, ← and_full hz]
  · rw [and_full hz, e2, ← and_full hz]
section
variable {g : Nat → Nat} {R : Option Value → cc_C → Prop} {X : String → cc_C → Prop}
theorem m_between {c : cc_C} {r e n a b k : Nat} {m : Nat → Nat} {x1 x2 x3 : Int32} (s : sl c 21 0 0 e) (nw : nwR c r n) (h : meR c n m) (hn3 : 3 ≤ n) (h1 : x1 = nI a) (h2 : x2 = nI b) (h3 : x3 = nI k) (ha : a < n) (hb : b < n) (hk : k < n) (a0 : m a ≠ 0) (b0 : m b ≠ 0) (hf : m k < 2 ^ n) (H : ∀ d, fr pMay c d → meR d n (kpE m k (btN (m a) (m b))).1 → R (some (.int (nI (kpE m k (btN (m a) (m b))).2))) d) : wc g (wp_X9_between g) c [.ref e, .int x1, .int x2, .int x3] R X := by
  subst h1 h2 h3
  obtain ⟨w1, w2, w3⟩ := nw
  have hn := h.1
  have va := vp_in_nI (show a < 6 by omega) (by omega)
  have vb := vp_in_nI (show b < 6 by omega) (by omega)
  obtain ⟨p1, p2, p3, -, -⟩ := lo_hi (h.2.2 a) a0
  obtain ⟨q1, q2, q3, -, -⟩ := lo_hi (h.2.2 b) b0
  have loop : ∀ d p o6 o7, p + d = n → ec g tb_X9_between 6 [some (.ref e), some (.int (nI a)), some (.int (nI b)), some (.int (nI k)), some (.int (awI (lowG (m a) 6 0) (hN (m b)) (lowG (m b) 6 0) (hN (m a)) p)), some (.int (nI p)), o6, o7] [] 0 0 c R X := by
    intro d
    induction d with
    | zero =>
      intro p o6 o7 hp
      obtain rfl : p = n := by omega
      refine mk_X9_between_6 s ?_
      rw [w2, nI_clamp (by omega), w3]
      refine ⟨vp_in_nI w1 (by omega), fun _ => m_takes s h rfl hk (fun d hd hs => ⟨_, rfl, ?_⟩), fun e => absurd (nI_le (Nat.le_refl p) (by omega)) e⟩
      obtain ⟨e1, e2⟩ := aw_is (h.2.2 a) (h.2.2 b) a0 b0 hn3 hn hf
      rw [e2]
      refine H d hd ?_
      have : kp m k (63 - lo6 (awI (lowG (m a) 6 0) (hN (m b)) (lowG (m b) 6 0) (hN (m a)) p)) = (kpE m k (btN (m a) (m b))).1 := by
        unfold kpE kp
        rw [e1]
      rw [← this]
      exact hs
    | succ d ih =>
      intro p o6 o7 hp
      have eo : awI (lowG (m a) 6 0) (hN (m b)) (lowG (m b) 6 0) (hN (m a)) (p + 1) = if (lowG (m a) 6 0 < p ∧ p < hN (m b)) ∨ (lowG (m b) 6 0 < p ∧ p < hN (m a)) then awI (lowG (m a) 6 0) (hN (m b)) (lowG (m b) 6 0) (hN (m a)) p ||| 0 else awI (lowG (m a) 6 0) (hN (m b)) (lowG (m b) 6 0) (hN (m a)) p ||| ((1 : Int32) <<< (nI p &&& 31)) := rfl
      have r := fun o6 o7 => ih (p + 1) o6 o7 (by omega)
      rw [eo] at r
      have LE : ∀ u v, u < 100 → v < 100 → (nI u ≤ nI v ↔ u ≤ v) := fun u v h1 h2 => nI_leI (by omega) (by omega)
      have lowA : ∀ Q : Option Value → cc_C → Prop, Q (some (.int (nI (lowG (m a) 6 0)))) c → wc g (wp_X9_lowest g) c [.int (cS c 880 25 (nI a).toNatClampNeg)] Q X := fun Q q => m_lowest (meR_at h ha) (h.2.2 a) a0 q
      have lowB : ∀ Q : Option Value → cc_C → Prop, Q (some (.int (nI (lowG (m b) 6 0)))) c → wc g (wp_X9_lowest g) c [.int (cS c 880 25 (nI b).toNatClampNeg)] Q X := fun Q q => m_lowest (meR_at h hb) (h.2.2 b) b0 q
      have hiA : ∀ Q : Option Value → cc_C → Prop, Q (some (.int (nI (hN (m a))))) c → wc g (wp_X9_highest g) c [.int (cS c 880 25 (nI a).toNatClampNeg)] Q X := fun Q q => m_highest (meR_at h ha) (h.2.2 a) (by rw [p1]; exact q)
      have hiB : ∀ Q : Option Value → cc_C → Prop, Q (some (.int (nI (hN (m b))))) c → wc g (wp_X9_highest g) c [.int (cS c 880 25 (nI b).toNatClampNeg)] Q X := fun Q q => m_highest (meR_at h hb) (h.2.2 b) (by rw [q1]; exact q)
      have at52 : ∀ o6 o7, ¬ (lowG (m a) 6 0 < p ∧ p < hN (m b)) → ec g tb_X9_between 52 [some (.ref e), some (.int (nI a)), some (.int (nI b)), some (.int (nI k)), some (.int (awI (lowG (m a) 6 0) (hN (m b)) (lowG (m b) 6 0) (hN (m a)) p)), some (.int (nI p)), o6, o7] [] 0 0 c R X := by
        intro o6 o7 hno
        refine mk_X9_between_52 s ⟨vb, lowB _ ⟨_, rfl, fun z => ?_, fun z => ⟨va, hiA _ ⟨_, rfl, fun z2 => ?_, fun z2 => ?_⟩⟩⟩⟩
        · have z' := (LE p _ (by omega) (by omega)).mp z
          rw [if_neg (by omega)] at r
          rw [nI_1]
          exact r _ _
        · have z' := fun q => z ((LE p _ (by omega) (by omega)).mpr q)
          have z2' := (LE _ p (by omega) (by omega)).mp z2
          rw [if_neg (by omega)] at r
          rw [nI_1]
          exact r _ _
        · have z' : ¬ p ≤ lowG (m b) 6 0 := fun q => z ((LE p _ (by omega) (by omega)).mpr q)
          have z2' : ¬ hN (m a) ≤ p := fun q => z2 ((LE _ p (by omega) (by omega)).mpr q)
          rw [if_pos (by omega)] at r
          rw [nI_1]
          exact r _ _
      refine mk_X9_between_6 s ?_
      rw [w2, nI_clamp (by omega), w3]
      refine ⟨vp_in_nI w1 (by omega), fun e => absurd e (nI_ge (by omega) (by omega)), fun _ => ⟨va, lowA _ ⟨_, rfl, fun z => at52 _ _ ?_, fun z => ⟨vb, hiB _ ⟨_, rfl, fun z2 => at52 _ _ ?_, fun z2 => ⟨vb, lowB _ ⟨_, rfl, fun _ => ?_, fun _ => ⟨va, hiA _ ⟨_, rfl, fun _ => ?_, fun _ => ?_⟩⟩⟩⟩⟩⟩⟩⟩⟩
      · have z' := (LE p _ (by omega) (by omega)).mp z
        omega
      · have z2' := (LE _ p (by omega) (by omega)).mp z2
        omega
      all_goals
        have z' : ¬ p ≤ lowG (m a) 6 0 := fun q => z ((LE p _ (by omega) (by omega)).mpr q)
        have z2' : ¬ hN (m b) ≤ p := fun q => z2 ((LE _ p (by omega) (by omega)).mpr q)
        rw [if_pos (by omega)] at r
        rw [nI_1]
        exact r _ _
  exact mk_X9_between_0 s (loop n 0 _ _ (by omega))
end
