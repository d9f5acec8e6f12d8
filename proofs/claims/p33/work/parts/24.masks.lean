/-! sets of places -/
def lo6 (x : Int32) : Nat := x.toBitVec.toNat % 64
def pcN (x : Nat) : Nat := x % 2 + x / 2 % 2 + x / 4 % 2 + x / 8 % 2 + x / 16 % 2 + x / 32 % 2
def kp (m : Nat → Nat) (p σ : Nat) : Nat → Nat := fun k => if k = p then m p &&& σ else m k
theorem lo6_lt (x : Int32) : lo6 x < 64 := Nat.mod_lt _ (by decide)
theorem lo6_nI {n : Nat} (h : n < 64) : lo6 (nI n) = n := by
  unfold lo6
  rw [pk_tn (by omega)]
  omega
theorem and6 {m : Nat} (hm : m < 64) (x : Int32) : nI m &&& x = nI (m &&& lo6 x) := by
  have k1 : ∀ m, m < 64 → nI m &&& 63 = nI m := by decide +kernel
  have k2 : ∀ m, m < 64 → ∀ s, s < 64 → nI m &&& nI s = nI (m &&& s) := by decide +kernel
  have h1 : x &&& 63 = nI (lo6 x) := pk_and x (m := 63) 6 (by decide)
  calc nI m &&& x = (nI m &&& 63) &&& x := by rw [k1 m hm]
    _ = nI m &&& (x &&& 63) := by rw [Int32.and_assoc, Int32.and_comm 63 x]
    _ = nI (m &&& lo6 x) := by rw [h1, k2 m hm _ (lo6_lt x)]
theorem not6 (x : Int32) : lo6 (x ^^^ (-1 : Int32)) = 63 - lo6 x := by
  have k : ∀ m, m < 64 → m ^^^ 63 = 63 - m := by decide +kernel
  unfold lo6
  have h1 : (x ^^^ (-1 : Int32)).toBitVec.toNat = x.toBitVec.toNat ^^^ 4294967295 := by
    show (x.toBitVec ^^^ (-1 : Int32).toBitVec).toNat = _
    rw [BitVec.toNat_xor]
    rfl
  rw [h1, show (64 : Nat) = 2 ^ 6 from rfl, Nat.xor_mod_two_pow, show 4294967295 % 2 ^ 6 = 63 from rfl]
  exact k _ (Nat.mod_lt _ (by decide))
theorem bitC_is {y : Nat} (h : y < 64) : bitC (nI y) = nI (pcN y) := by
  have k : ∀ m, m < 64 → bitC (nI m) = nI (pcN m) := by decide +kernel
  exact k y h
theorem and_lt {m s : Nat} (h : m < 64) : m &&& s < 64 := Nat.lt_of_le_of_lt Nat.and_le_left h
theorem pcN_le {y : Nat} : pcN y ≤ 6 := by
  unfold pcN
  omega
theorem kp_lt {m : Nat → Nat} {p σ B : Nat} (h : ∀ k, m k < B) : ∀ k, kp m p σ k < B := by
  intro k
  unfold kp
  by_cases hk : k = p
  · rw [if_pos hk]
    exact Nat.lt_of_le_of_lt Nat.and_le_left (h p)
  · rw [if_neg hk]
    exact h k
theorem Rp_kp {n p : Nat} {m : Nat → Nat} {f : Nat → Int32} {x : Int32} (h : Rp n m f) (hm : ∀ k, m k < 64) (hp : p < n) : Rp n (kp m p (lo6 x)) (upd f p (f p &&& x)) := by
  intro k hk
  unfold kp upd
  by_cases h1 : k = p
  · rw [if_pos h1, if_pos h1, h p hp, and6 (hm p)]
  · rw [if_neg h1, if_neg h1]
    exact h k hk
section
variable {g : Nat → Nat} {R : Option Value → cc_C → Prop} {X : String → cc_C → Prop}
def pSe (r f i : Nat) : Prop := f = 480 ∧ i = r
/-- the sets of riddle r -/
def seR (c : cc_C) (r n : Nat) (m : Nat → Nat) : Prop := cN c 120 r = n ∧ n ≤ 6 ∧ Rp n m (cS c 480 r) ∧ ∀ k, m k < 64
theorem s_keep {c : cc_C} {r a n p : Nat} {m : Nat → Nat} {x set : Int32} (s : sl c 11 r 0 a) (h : seR c r n m) (hx : x = nI p) (hp : p < n) (H : ∀ d, fr (pSe r) c d → seR d r n (kp m p (lo6 set)) → R (some (.int (nI (pcN (m p &&& (63 - lo6 set)))))) d) : wc g (wp_X5_keep g) c [.ref a, .int x, .int set] R X := by
  subst hx
  obtain ⟨h1, h2, h3, h4⟩ := h
  refine mk_X5_keep_0 s ⟨fun e => absurd e (nI_pos (by omega)), fun _ => ?_⟩
  rw [h1]
  have vp := vp_in_nI hp (show n < 2 ^ 31 by omega)
  refine ⟨fun _ => ⟨vp, s_bitCount ⟨_, rfl, ?_⟩⟩, fun e => absurd (nI_lt hp (by omega)) e⟩
  have eb : bitC (cS c 480 r (nI p).toNatClampNeg &&& (set ^^^ (-1 : Int32))) = nI (pcN (m p &&& (63 - lo6 set))) := by
    rw [nI_clamp (by omega), h3 p hp, and6 (h4 p), not6, bitC_is (and_lt (h4 p))]
  rw [eb, h1, nI_clamp (by omega)]
  refine ⟨vp, vp, H _ (fr_rfl.set ⟨rfl, rfl⟩) ⟨?_, h2, ?_, kp_lt h4⟩⟩
  · unfold cN at h1 ⊢
    rw [cS_f (by decide)]
    exact h1
  · rw [cS_row]
    exact Rp_kp h3 h4 hp
theorem s_setOf {c : cc_C} {r a n p : Nat} {m : Nat → Nat} {x : Int32} (s : sl c 11 r 0 a) (h : seR c r n m) (hx : x = nI p) (hp : p < n) (H : R (some (.int (nI (m p)))) c) : wc g (wp_X5_setOf g) c [.ref a, .int x] R X := by
  subst hx
  obtain ⟨h1, h2, h3, h4⟩ := h
  refine mk_X5_setOf_0 s ⟨fun e => absurd e (nI_pos (by omega)), fun _ => ?_⟩
  rw [h1]
  refine ⟨fun e => absurd e (nI_ge hp (by omega)), fun _ => ⟨vp_in_nI hp (by omega), ?_⟩⟩
  rw [nI_clamp (by omega), h3 p hp]
  exact H
/-- the places that have one of a set right of them, and left of them -/
def loC (x : Int32) : Int32 := ((((0 ||| (x >>> ((1 : Int32) &&& 31))) ||| (x >>> ((2 : Int32) &&& 31))) ||| (x >>> ((3 : Int32) &&& 31))) ||| (x >>> ((4 : Int32) &&& 31))) ||| (x >>> ((5 : Int32) &&& 31))
def riC (x : Int32) : Int32 := ((((0 ||| (x <<< ((1 : Int32) &&& 31))) ||| (x <<< ((2 : Int32) &&& 31))) ||| (x <<< ((3 : Int32) &&& 31))) ||| (x <<< ((4 : Int32) &&& 31))) ||| (x <<< ((5 : Int32) &&& 31))
theorem s_leftOf {c : cc_C} {x : Int32} (H : R (some (.int (loC x))) c) : wc g (wp_X5_leftOf g) c [.int x] R X := by
  have n6 : ∀ k, k < 6 → ¬ (6 : Int32) ≤ nI k := fun k hk => nI_ge (b := 6) hk (by omega)
  refine mk_X5_leftOf_0 (mk_X5_leftOf_4 ⟨fun e => absurd e (n6 1 (by decide)), fun _ => mk_X5_leftOf_4 ⟨fun e => absurd e (n6 2 (by decide)), fun _ => mk_X5_leftOf_4 ⟨fun e => absurd e (n6 3 (by decide)), fun _ => mk_X5_leftOf_4 ⟨fun e => absurd e (n6 4 (by decide)), fun _ => mk_X5_leftOf_4 ⟨fun e => absurd e (n6 5 (by decide)), fun _ => mk_X5_leftOf_4 ⟨fun _ => H, fun e => absurd (by decide) e⟩⟩⟩⟩⟩⟩)
theorem s_rightOf {c : cc_C} {x : Int32} (H : R (some (.int (riC x))) c) : wc g (wp_X5_rightOf g) c [.int x] R X := by
  have n6 : ∀ k, k < 6 → ¬ (6 : Int32) ≤ nI k := fun k hk => nI_ge (b := 6) hk (by omega)
  refine mk_X5_rightOf_0 (mk_X5_rightOf_4 ⟨fun e => absurd e (n6 1 (by decide)), fun _ => mk_X5_rightOf_4 ⟨fun e => absurd e (n6 2 (by decide)), fun _ => mk_X5_rightOf_4 ⟨fun e => absurd e (n6 3 (by decide)), fun _ => mk_X5_rightOf_4 ⟨fun e => absurd e (n6 4 (by decide)), fun _ => mk_X5_rightOf_4 ⟨fun e => absurd e (n6 5 (by decide)), fun _ => mk_X5_rightOf_4 ⟨fun _ => H, fun e => absurd (by decide) e⟩⟩⟩⟩⟩⟩)
end
