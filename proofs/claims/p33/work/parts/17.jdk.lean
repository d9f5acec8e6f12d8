/-! the library's methods over states -/
/-- the number of bits, by the library's own words -/
def bc1 (a0 : Int32) : Int32 := a0 - (((a0).toUInt32 >>> (((1 : Int32)).toUInt32 &&& Int32.toUInt32 31)).toInt32 &&& (1431655765 : Int32))
def bc2 (x : Int32) : Int32 := (x &&& (858993459 : Int32)) + (((x).toUInt32 >>> (((2 : Int32)).toUInt32 &&& Int32.toUInt32 31)).toInt32 &&& (858993459 : Int32))
def bc3 (x : Int32) : Int32 := (x + ((x).toUInt32 >>> (((4 : Int32)).toUInt32 &&& Int32.toUInt32 31)).toInt32) &&& (252645135 : Int32)
def bc4 (x : Int32) : Int32 := x + ((x).toUInt32 >>> (((8 : Int32)).toUInt32 &&& Int32.toUInt32 31)).toInt32
def bc5 (x : Int32) : Int32 := (x + ((x).toUInt32 >>> (((16 : Int32)).toUInt32 &&& Int32.toUInt32 31)).toInt32) &&& (63 : Int32)
def bitC (x : Int32) : Int32 := bc5 (bc4 (bc3 (bc2 (bc1 x))))
section
variable {g : Nat → Nat} {c : cc_C} {R : Option Value → cc_C → Prop} {X : String → cc_C → Prop}
theorem s_bitCount {x : Int32} (H : R (some (.int (bitC x))) c) : wc g (wp_J6_bitCount_0f7a4 g) c [.int x] R X := mk_J6_bitCount_0f7a4_0 H
theorem s_size {i a : Nat} (s : sl c 1 i 0 a) (H : R (some (.int (cS c 42 i 0))) c) : wc g (wp_Jx4a65c_size_8abf5 g) c [.ref a] R X := mk_Jx4a65c_size_8abf5_0 s H
theorem nu_checkIndex {R2 : ab_R} {XP : ab_XP} {L : List Nat} {h : ab_H} {a0 a1 : Int32} (h0 : ¬ a0 < 0) (h1 : a0 < a1) (H : R2 (some (.int a0)) L h) : wp_J3_checkIndex_8e157 g [.int a0, .int a1, .null] L h R2 XP := by
  have T : ((a0 < 0 → False) ∧ (¬ a0 < 0 → ((a0 < a1 → ((0 ≤ 0 ∧ 0 ≤ 0) ∧ R2 (some (.int a0)) L h)) ∧ (¬ a0 < a1 → False)))) := ⟨h0, fun _ => ⟨fun _ => ⟨⟨Nat.le_refl _, Nat.le_refl _⟩, H⟩, fun q => q h1⟩⟩
  exact ⟨Nat.le_of_ble_eq_true rfl, fun _ h => h, ab_blk [] 20 T⟩
theorem s_get {i e a : Nat} {x : Int32} (s : sl c 1 i 0 a) (hx : x = nI e) (he : nI e < cS c 42 i 0) (hb : e < 2 ^ 31) (H : R (some (.ref (el c i e))) c) : wc g (wp_Jx4a65c_get_915e3 g) c [.ref a, .int x] R X := by
  intro L h R2 XP cc hR hX
  subst hx
  have r := rd1 cc s
  obtain ⟨w1, w2, w3, w4⟩ := cc.2.2.2.2.2.2.2.2.2.2.2.2 i s.1
  have hlt : e < cN c 42 i := by
    obtain ⟨j, hj, ej⟩ := nI_of w1
    unfold cN
    rw [ej] at he ⊢
    rw [nI_clamp hj]
    exact (nI_ltI hb hj).mp he
  have hcap : ¬ cN c 80 i = 0 := by omega
  have r2 := rd2 cc (i := i) (a := cA c 2 i 0) ⟨w3 hcap, rfl⟩
  have hcl : (nI e).toNatClampNeg = e := nI_clamp hb
  refine bk_Jx4a65c_get_915e3_0 ⟨r.1, _, _, r.2, rfl, ⟨Nat.le_refl _, Nat.le_refl _⟩, bk_J15_checkIndex_7cf53_0 ⟨⟨Nat.le_refl _, Nat.le_refl _⟩, nu_checkIndex (nI_pos hb) he ⟨_, rfl, ⟨Nat.le_refl _, Nat.le_refl _⟩, _, rfl, ⟨Nat.le_refl _, Nat.le_refl _⟩, ⟨r.1, _, r.2⟩, bk_Jx4a65c_elementData_915e3_0 ⟨r.1, _, _, r.2, rfl, ?_⟩⟩⟩⟩
  have hd : dat g c i = cA c 2 i 0 := if_neg hcap
  rw [hd]
  refine ⟨r2.1, _, _, r2.2, ?_, fun x5 h5 => ?_, fun h5 => ?_⟩
  · unfold vp_in
    rw [hcl]
    exact fun q => q.elim (nI_pos hb) (fun q => by omega)
  · have : els c i e = some (el c i e) := if_pos hlt
    rw [hcl, this] at h5
    cases h5
    exact ⟨⟨Nat.le_refl _, Nat.le_refl _⟩, _, rfl, ⟨Nat.le_refl _, Nat.le_refl _⟩, hR _ _ _ c cc cle_rfl H⟩
  · have : els c i e = some (el c i e) := if_pos hlt
    rw [hcl, this] at h5
    cases h5
/-! the texts -/
theorem dropD : ∀ (l : List Int32) (j : Nat), j < l.length → l.drop j = l.getD j 0 :: l.drop (j + 1)
  | [], _, h => absurd h (Nat.not_lt_zero _)
  | _ :: _, 0, _ => rfl
  | _ :: r, j + 1, h => dropD r j (Nat.lt_of_succ_lt_succ h)
def ixL : List Int32 → Int32 → Nat → Int32
  | [], _, _ => -1
  | b :: r, x, j => if b = x then nI j else ixL r x (j + 1)
theorem s_ixc {t : Nat} (ht : t < 6) {ch a2 len x : Int32} {R2 : ab_R} {XP : ab_XP} {L : List Nat} {h : ab_H} (hl : len = nI (ab_lens.getD t 0)) (hb : ab_lens.getD t 0 < 100) (hbl : (ab_byts.getD t []).length = ab_lens.getD t 0) : ∀ (m j : Nat), j + m = ab_lens.getD t 0 → R2 (some (.int (ixL ((ab_byts.getD t []).drop j) x j))) L h → ab_Ev (tb_J1_indexOfChar_4cfef g R2 XP) 7 [some (.ref (g (8 + t))), some (.int ch), some (.int a2), some (.int len), some (.int x), some (.int (nI j))] [] L h 0 0 := by
  intro m
  induction m with
  | zero =>
    intro j hj H
    refine bk_J1_indexOfChar_4cfef_7 ⟨fun _ => ⟨⟨Nat.le_refl _, Nat.le_refl _⟩, ?_⟩, fun q => absurd ?_ q⟩
    · rw [List.drop_eq_nil_of_le (by omega)] at H
      exact H
    · rw [hl]
      exact nI_le (by omega) (by omega)
  | succ m ih =>
    intro j hj H
    refine bk_J1_indexOfChar_4cfef_7 ⟨fun q => absurd q ?_, fun _ => ?_⟩
    · rw [hl]
      exact nI_ge (by omega) (by omega)
    · have hcl : (nI j).toNatClampNeg = j := nI_clamp (by omega)
      have hjl : j < (ab_byts.getD t []).length := by omega
      have hd : (ab_byts.getD t []).drop j = (ab_byts.getD t []).getD j 0 :: (ab_byts.getD t []).drop (j + 1) := dropD _ _ hjl
      rw [hd] at H
      refine ⟨t, ht, rfl, vp_in_nI (by omega) (by omega), ?_⟩
      rw [hcl]
      refine ⟨fun q => ⟨⟨Nat.le_refl _, Nat.le_refl _⟩, ?_⟩, fun q => ?_⟩
      · unfold ixL at H
        rw [if_pos q] at H
        exact H
      · unfold ixL at H
        rw [if_neg q] at H
        rw [nI_1]
        exact ih (j + 1) (by omega) H
def ixF (t : Nat) (ch : Int32) : Int32 := if 255 < ch then -1 else ixL (ab_byts.getD t []) ch.toInt8.toInt32 0
theorem s_indexOf {t : Nat} (ht : t < 6) {ch : Int32} (h0 : ¬ ch < 0) (H : R (some (.int (ixF t ch))) c) : wc g (wp_J0_indexOf_0f7a4 g) c [.ref (g (2 + t)), .int ch] R X := by
  have hb : ab_lens.getD t 0 < 100 ∧ 0 < ab_lens.getD t 0 ∧ (ab_byts.getD t []).length = ab_lens.getD t 0 := by
    rcases (show t = 0 ∨ t = 1 ∨ t = 2 ∨ t = 3 ∨ t = 4 ∨ t = 5 by omega) with rfl | rfl | rfl | rfl | rfl | rfl <;> exact ⟨by decide, by decide, rfl⟩
  intro L h R2 XP cc hR hX
  have hH := hR _ _ _ c cc cle_rfl H
  refine bk_J0_indexOf_0f7a4_0 ⟨⟨Nat.le_refl _, Nat.le_refl _⟩, ⟨t, ht, rfl⟩, bk_J0_indexOf_7cf53_0 ⟨⟨Nat.le_refl _, Nat.le_refl _⟩, ⟨t, ht, rfl⟩, bk_J0_isLatin1_aae02_0 ⟨fun q => absurd q (by decide), fun _ => ⟨⟨t, ht, rfl⟩, fun _ => ⟨⟨Nat.le_refl _, Nat.le_refl _⟩, rfl, ?_⟩, fun q => absurd rfl q⟩⟩⟩⟩
  refine ⟨_, rfl, fun q => absurd q (by decide), fun _ => ⟨t, ht, rfl, ⟨Nat.le_refl _, Nat.le_refl _⟩, ⟨t, ht, rfl⟩, bk_J0_length_8abf5_0 ⟨t, ht, rfl, t, ht, rfl, ⟨Nat.le_refl _, Nat.le_refl _⟩, ⟨t, ht, rfl⟩, bk_J0_coder_7d493_0 ⟨fun q => absurd q (by decide), fun _ => ⟨⟨t, ht, rfl⟩, ⟨Nat.le_refl _, Nat.le_refl _⟩, rfl, _, rfl, ⟨Nat.le_refl _, Nat.le_refl _⟩, _, rfl, ⟨Nat.le_refl _, Nat.le_refl _⟩, ?_⟩⟩⟩⟩⟩
  have hs : (Int32.ofNat (ab_lens.getD t 0)) >>> ((0 : Int32) &&& 31) = nI (ab_lens.getD t 0) := sb_shr0 _
  rw [hs]
  refine bk_J1_indexOf_4cfef_0 ⟨⟨Nat.le_refl _, Nat.le_refl _⟩, bk_J1_canEncode_9a6ad_0 ⟨fun q => absurd q h0, fun _ => ⟨fun q => ⟨⟨Nat.le_refl _, Nat.le_refl _⟩, rfl, _, rfl, fun _ => ⟨⟨Nat.le_refl _, Nat.le_refl _⟩, _, rfl, ⟨Nat.le_refl _, Nat.le_refl _⟩, _, rfl, ⟨Nat.le_refl _, Nat.le_refl _⟩, ?_⟩, fun q => absurd rfl q⟩, fun q => ⟨⟨Nat.le_refl _, Nat.le_refl _⟩, rfl, _, rfl, fun q => absurd q (by decide), fun _ => ⟨⟨Nat.le_refl _, Nat.le_refl _⟩, t, ht, rfl, ⟨Nat.le_refl _, Nat.le_refl _⟩, ?_⟩⟩⟩⟩⟩
  · have : ixF t ch = -1 := if_pos q
    rw [this] at hH
    exact hH
  · have e1 : (if (0 : Int32) < (0 : Int32) then (0 : Int32) else 0) = 0 := rfl
    have e2 : (if (Int32.ofNat (ab_lens.getD t 0)) < nI (ab_lens.getD t 0) then (Int32.ofNat (ab_lens.getD t 0)) else nI (ab_lens.getD t 0)) = nI (ab_lens.getD t 0) := ite_self _
    rw [e1, e2]
    refine ⟨fun _ => ⟨⟨Nat.le_refl _, Nat.le_refl _⟩, bk_J1_indexOfChar_4cfef_0 (s_ixc ht rfl hb.1 hb.2.2 (ab_lens.getD t 0) 0 (by omega) ⟨_, rfl, ⟨Nat.le_refl _, Nat.le_refl _⟩, _, rfl, ⟨Nat.le_refl _, Nat.le_refl _⟩, _, rfl, ⟨Nat.le_refl _, Nat.le_refl _⟩, ?_⟩)⟩, fun q => absurd (nI_lt hb.2.1 (by omega)) q⟩
    have : ixF t ch = ixL (ab_byts.getD t []) ch.toInt8.toInt32 0 := if_neg q
    rw [this] at hH
    exact hH
end
