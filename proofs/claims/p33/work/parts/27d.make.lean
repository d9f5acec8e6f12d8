/-- everyone has one place -/
def wE (m : Nat → Nat) : Nat → Bool
  | 0 => true
  | k + 1 => wE m k && decide (pcN (m k) = 1)
theorem wE_mono {m : Nat → Nat} {i : Nat} (h : wE m i = false) : ∀ k, wE m (i + k) = false
  | 0 => h
  | k + 1 => by
    show (wE m (i + k) && _) = false
    rw [wE_mono h k]
    rfl
section
variable {g : Nat → Nat} {R : Option Value → cc_C → Prop} {X : String → cc_C → Prop}
theorem s_giveAll {c : cc_C} {r a n : Nat} (s : sl c 11 r 0 a) (hn : cN c 120 r = n) (h6 : n ≤ 6) (H : ∀ d, fr (pSe r) c d → seR d r n (fun _ => 2 ^ n - 1) → R none d) : wc g (wp_X5_giveAll g) c [.ref a] R X := by
  have full : ∀ n, n < 7 → ((1 : Int32) <<< ((Int32.ofNat n) &&& 31)) - (1) = nI (2 ^ n - 1) := by decide +kernel
  have lt64 : ∀ n, n < 7 → 2 ^ n - 1 < 64 := by decide
  have loop : ∀ (w i : Nat) (d : cc_C), i + w = n → fr (pSe r) c d → Rp i (fun _ => 2 ^ n - 1) (cS d 480 r) → ec g tb_X5_giveAll 2 [some (.ref a), some (.int (nI i))] [] 0 0 d R X := by
    intro w
    induction w with
    | zero =>
      intro i d hi hf hr
      obtain rfl : i = n := by omega
      have hd : cN d 120 r = i := (hf.nn (by unfold pSe; omega)).trans hn
      refine mk_X5_giveAll_2 (hf.sl s) ?_
      rw [hd]
      exact ⟨fun _ => H d hf ⟨hd, h6, hr, fun _ => lt64 i (by omega)⟩, fun e => absurd (nI_le (Nat.le_refl i) (by omega)) e⟩
    | succ w ih =>
      intro i d hi hf hr
      have hd : cN d 120 r = n := (hf.nn (by unfold pSe; omega)).trans hn
      refine mk_X5_giveAll_2 (hf.sl s) ?_
      rw [hd, nI_clamp (by omega), nI_1, full n (by omega)]
      refine ⟨fun e => absurd e (nI_ge (by omega) (by omega)), fun _ => ⟨vp_in_nI (by omega) (by omega), ih (i + 1) _ (by omega) (hf.set ⟨rfl, rfl⟩) ?_⟩⟩
      rw [cS_row]
      intro k hk
      unfold upd
      by_cases hki : k = i
      · rw [if_pos hki]
      · rw [if_neg hki]
        exact hr k (by omega)
  exact mk_X5_giveAll_0 s (loop n 0 c (by omega) fr_rfl (fun k hk => absurd hk (Nat.not_lt_zero k)))
theorem s_isSomeoneWithout {c : cc_C} {r a n : Nat} {m : Nat → Nat} (s : sl c 11 r 0 a) (h : seR c r n m) (H : R (some (.int (bI (eE m n)))) c) : wc g (wp_X5_isSomeoneWithout g) c [.ref a] R X := by
  have hn := h.2.1
  have loop : ∀ (w i : Nat), i + w = n → eE m i = false → ec g tb_X5_isSomeoneWithout 2 [some (.ref a), some (.int (nI i))] [] 0 0 c R X := by
    intro w
    induction w with
    | zero =>
      intro i hi he
      obtain rfl : i = n := by omega
      refine mk_X5_isSomeoneWithout_2 s ?_
      rw [h.1]
      rw [he] at H
      exact ⟨fun _ => H, fun e => absurd (nI_le (Nat.le_refl i) (by omega)) e⟩
    | succ w ih =>
      intro i hi he
      have e1 : eE m (i + 1) = (eE m i || decide (m i = 0)) := rfl
      rw [he, Bool.false_or] at e1
      refine mk_X5_isSomeoneWithout_2 s ?_
      rw [h.1, nI_clamp (by omega), h.2.2.1 i (by omega), nI_1]
      refine ⟨fun e => absurd e (nI_ge (by omega) (by omega)), fun _ => ⟨vp_in_nI (by omega) (by omega), fun e => ?_, fun e => ?_⟩⟩
      · have : m i = 0 := (nI_eq (a := m i) (b := 0) (by have := h.2.2.2 i; omega) (by omega)).mp e
        rw [decide_eq_true this] at e1
        have := eE_mono e1 w
        rw [show i + 1 + w = n by omega] at this
        rw [this] at H
        exact H
      · have : ¬ m i = 0 := fun q => e (by rw [q]; rfl)
        rw [decide_eq_false this] at e1
        exact ih (i + 1) (by omega) e1
  exact mk_X5_isSomeoneWithout_0 s (loop n 0 (by omega) rfl)
theorem s_hasEachOne {c : cc_C} {r a n : Nat} {m : Nat → Nat} (s : sl c 11 r 0 a) (h : seR c r n m) (H : R (some (.int (bI (wE m n)))) c) : wc g (wp_X5_hasEachOne g) c [.ref a] R X := by
  have hn := h.2.1
  have loop : ∀ (w i : Nat), i + w = n → wE m i = true → ec g tb_X5_hasEachOne 2 [some (.ref a), some (.int (nI i))] [] 0 0 c R X := by
    intro w
    induction w with
    | zero =>
      intro i hi he
      obtain rfl : i = n := by omega
      refine mk_X5_hasEachOne_2 s ?_
      rw [h.1]
      rw [he] at H
      exact ⟨fun _ => H, fun e => absurd (nI_le (Nat.le_refl i) (by omega)) e⟩
    | succ w ih =>
      intro i hi he
      have e1 : wE m (i + 1) = (wE m i && decide (pcN (m i) = 1)) := rfl
      rw [he, Bool.true_and] at e1
      refine mk_X5_hasEachOne_2 s ?_
      rw [h.1, nI_clamp (by omega), h.2.2.1 i (by omega), nI_1]
      refine ⟨fun e => absurd e (nI_ge (by omega) (by omega)), fun _ => ⟨vp_in_nI (by omega) (by omega), s_bitCount ⟨_, rfl, ?_⟩⟩⟩
      rw [bitC_is (seR_lt h i)]
      refine ⟨fun e => ?_, fun e => ?_⟩
      · rw [decide_eq_true ((pc_eq (k := 1) (by decide)).mp e)] at e1
        exact ih (i + 1) (by omega) e1
      · rw [decide_eq_false (fun q => e ((pc_eq (k := 1) (by decide)).mpr q))] at e1
        have := wE_mono e1 w
        rw [show i + 1 + w = n by omega] at this
        rw [this] at H
        exact H
  exact mk_X5_hasEachOne_0 s (loop n 0 (by omega) rfl)
end
