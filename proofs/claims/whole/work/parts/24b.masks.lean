section
variable {g : Nat → Nat} {R : Option Value → cc_C → Prop} {X : String → cc_C → Prop}
def szC (x : Int32) : Int32 := ((((((0 + ((x >>> ((0 : Int32) &&& 31)) &&& (1))) + ((x >>> ((1 : Int32) &&& 31)) &&& (1))) + ((x >>> ((2 : Int32) &&& 31)) &&& (1))) + ((x >>> ((3 : Int32) &&& 31)) &&& (1))) + ((x >>> ((4 : Int32) &&& 31)) &&& (1))) + ((x >>> ((5 : Int32) &&& 31)) &&& (1))) + ((x >>> ((6 : Int32) &&& 31)) &&& (1))
theorem szC_is {y : Nat} (h : y < 64) : szC (nI y) = nI (pcN y) := by
  have k : ∀ m, m < 64 → szC (nI m) = nI (pcN m) := by decide +kernel
  exact k y h
theorem m_size {c : cc_C} {x : Int32} {y : Nat} (hx : x = nI y) (hy : y < 64) (H : R (some (.int (nI (pcN y)))) c) : wc g (wp_X9_size g) c [.int x] R X := by
  have n6 : ∀ k, k < 7 → ¬ (6 : Int32) < nI k := fun k hk => nI_nlt (a := 6) (by omega) (by omega)
  have H' : R (some (.int (szC x))) c := by
    rw [hx, szC_is hy]
    exact H
  refine mk_X9_size_0 (mk_X9_size_4 ⟨fun e => absurd e (n6 0 (by decide)), fun _ => mk_X9_size_4 ⟨fun e => absurd e (n6 1 (by decide)), fun _ => mk_X9_size_4 ⟨fun e => absurd e (n6 2 (by decide)), fun _ => mk_X9_size_4 ⟨fun e => absurd e (n6 3 (by decide)), fun _ => mk_X9_size_4 ⟨fun e => absurd e (n6 4 (by decide)), fun _ => mk_X9_size_4 ⟨fun e => absurd e (n6 5 (by decide)), fun _ => mk_X9_size_4 ⟨fun e => absurd e (n6 6 (by decide)), fun _ => mk_X9_size_4 ⟨fun _ => H', fun e => absurd (by decide) e⟩⟩⟩⟩⟩⟩⟩⟩)
def pMay (f i : Nat) : Prop := f = 880 ∧ i = 25
theorem pMay_no : ∀ i, i < 20 → ¬ pMay 880 i := fun i h q => by
  have := q.2
  omega
/-- the sets of the reference -/
def meR (c : cc_C) (n : Nat) (m : Nat → Nat) : Prop := n ≤ 6 ∧ Rp n m (cS c 880 25) ∧ ∀ k, m k < 64
theorem m_takes {c : cc_C} {a n p : Nat} {m : Nat → Nat} {x away : Int32} (s : sl c 21 0 0 a) (h : meR c n m) (hx : x = nI p) (hp : p < n) (H : ∀ d, fr pMay c d → meR d n (kp m p (63 - lo6 away)) → R (some (.int (nI (pcN (m p &&& lo6 away))))) d) : wc g (wp_X9_takes g) c [.ref a, .int x, .int away] R X := by
  subst hx
  obtain ⟨h2, h3, h4⟩ := h
  have vp := vp_in_nI (show p < 6 by omega) (by omega)
  refine mk_X9_takes_0 s ⟨vp, vp, vp, m_size (y := m p &&& lo6 away) ?_ (and_lt (h4 p)) ⟨_, rfl, ?_⟩⟩
  · rw [nI_clamp (by omega), h3 p hp, and6 (h4 p)]
  · rw [nI_clamp (by omega)]
    refine H _ (fr_rfl.set ⟨rfl, rfl⟩) ⟨h2, ?_, kp_lt h4⟩
    rw [cS_row, ← not6]
    exact Rp_kp h3 h4 hp
theorem m_isOn {c : cc_C} {x z : Int32} {y k : Nat} (hx : x = nI y) (hz : z = nI k) (hy : y < 64) (hk : k < 7) (H : R (some (.int (bI (decide (y / 2 ^ k % 2 = 1))))) c) : wc g (wp_X9_isOn g) c [.int x, .int z] R X := by
  have key : ∀ y, y < 64 → ∀ k, k < 7 → decide (((nI y >>> (nI k &&& 31)) &&& (1 : Int32)) = 1) = decide (y / 2 ^ k % 2 = 1) := by decide +kernel
  subst hx hz
  refine mk_X9_isOn_0 ⟨fun e => absurd e (nI_pos (by omega)), fun _ => bI_c (P := fun x => R (some (.int x)) c) ?_ H⟩
  rw [← key y hy k hk]
  exact dec_t
def lowG (y : Nat) : Nat → Nat → Nat
  | 0, k => k
  | m + 1, k => if y / 2 ^ k % 2 = 1 then k else lowG y m (k + 1)
def hiG (y : Nat) : Nat → Int32
  | 0 => -1
  | t + 1 => if y / 2 ^ t % 2 = 1 then nI t else hiG y t
theorem m_lowest {c : cc_C} {x : Int32} {y : Nat} (hx : x = nI y) (hy : y < 64) (h0 : ¬ y = 0) (H : R (some (.int (nI (lowG y 6 0)))) c) : wc g (wp_X9_lowest g) c [.int x] R X := by
  have loop : ∀ m k, k + m = 6 → (∃ j, k ≤ j ∧ j < 6 ∧ y / 2 ^ j % 2 = 1) → R (some (.int (nI (lowG y m k)))) c → ec g tb_X9_lowest 2 [some (.int x), some (.int (nI k))] [] 0 0 c R X := by
    intro m
    induction m with
    | zero =>
      intro k hk hj _
      obtain ⟨j, h1, h2, _⟩ := hj
      omega
    | succ m ih =>
      intro k hk hj H
      refine mk_X9_lowest_2 (m_isOn hx rfl hy (by omega) ⟨_, rfl, ?_⟩)
      by_cases hb : y / 2 ^ k % 2 = 1
      · rw [decide_eq_true hb]
        unfold lowG at H
        rw [if_pos hb] at H
        exact ⟨fun e => absurd e (by decide), fun _ => H⟩
      · rw [decide_eq_false hb, nI_1]
        unfold lowG at H
        rw [if_neg hb] at H
        refine ⟨fun _ => ih (k + 1) (by omega) ?_ H, fun e => absurd rfl e⟩
        obtain ⟨j, h1, h2, h3⟩ := hj
        refine ⟨j, ?_, h2, h3⟩
        rcases Nat.lt_or_ge k j with h | h
        · exact h
        · exact absurd (show y / 2 ^ k % 2 = 1 by rw [show k = j by omega]; exact h3) hb
  have ex : ∀ y, y < 64 → y ≠ 0 → ∃ j, j < 6 ∧ y / 2 ^ j % 2 = 1 := by decide +kernel
  obtain ⟨j, h1, h2⟩ := ex y hy h0
  exact mk_X9_lowest_0 (loop 6 0 (by omega) ⟨j, Nat.zero_le _, h1, h2⟩ H)
theorem m_highest {c : cc_C} {x : Int32} {y : Nat} (hx : x = nI y) (hy : y < 64) (H : R (some (.int (hiG y 7))) c) : wc g (wp_X9_highest g) c [.int x] R X := by
  have loop : ∀ t, t ≤ 7 → R (some (.int (hiG y t))) c → ec g tb_X9_highest 3 [some (.int x), some (.int (nd t))] [] 0 0 c R X := by
    intro t
    induction t with
    | zero =>
      intro _ H
      exact mk_X9_highest_3 ⟨fun _ => H, fun e => absurd (show nd 0 < 0 by decide) e⟩
    | succ t ih =>
      intro ht H
      refine mk_X9_highest_3 ⟨fun e => absurd e (nI_pos (n := t) (by omega)), fun _ => m_isOn hx rfl hy (by omega) ⟨_, rfl, ?_⟩⟩
      by_cases hb : y / 2 ^ t % 2 = 1
      · rw [decide_eq_true hb]
        unfold hiG at H
        rw [if_pos hb] at H
        exact ⟨fun e => absurd e (by decide), fun _ => H⟩
      · rw [decide_eq_false hb]
        unfold hiG at H
        rw [if_neg hb] at H
        have e1 : nd (t + 1) + (-1) = nd t := nd_m1 t
        rw [e1]
        exact ⟨fun _ => ih (by omega) H, fun e => absurd rfl e⟩
  exact mk_X9_highest_0 (loop 7 (Nat.le_refl _) H)
/-- somebody has no place -/
def eE (m : Nat → Nat) : Nat → Bool
  | 0 => false
  | k + 1 => eE m k || decide (m k = 0)
theorem eE_mono {m : Nat → Nat} {i : Nat} (h : eE m i = true) : ∀ k, eE m (i + k) = true
  | 0 => h
  | k + 1 => by
    show (eE m (i + k) || _) = true
    rw [eE_mono h k]
    rfl
theorem eE_no {m : Nat → Nat} : ∀ {n : Nat}, eE m n = false → ∀ k, k < n → m k ≠ 0
  | 0, _, k, hk => absurd hk (Nat.not_lt_zero k)
  | n + 1, h, k, hk => by
    have h1 : (eE m n || decide (m n = 0)) = false := h
    rw [Bool.or_eq_false_iff] at h1
    by_cases hkn : k = n
    · rw [hkn]
      exact of_decide_eq_false h1.2
    · exact eE_no h1.1 k (by omega)
theorem m_isEmpty {c : cc_C} {a r n : Nat} {m : Nat → Nat} (s : sl c 21 0 0 a) (h : meR c n m) (hr : r < 20) (h4 : cS c 874 0 0 = nI r) (hn : cS c 880 0 r = nI n) (H : R (some (.int (bI (eE m n)))) c) : wc g (wp_X9_isEmpty g) c [.ref a] R X := by
  obtain ⟨h2, h3, h5⟩ := h
  have loop : ∀ d i, i + d = n → ec g tb_X9_isEmpty 4 [some (.ref a), some (.int (bI (eE m i))), some (.int (nI i))] [] 0 0 c R X := by
    intro d
    induction d with
    | zero =>
      intro i hi
      obtain rfl : i = n := by omega
      refine mk_X9_isEmpty_4 s ?_
      rw [h4, nI_clamp (by omega), hn]
      exact ⟨vp_in_nI hr (by omega), fun _ => ⟨nb_bI _, H⟩, fun e => absurd (nI_le (Nat.le_refl i) (by omega)) e⟩
    | succ d ih =>
      intro i hi
      have e1 : eE m (i + 1) = (eE m i || decide (m i = 0)) := rfl
      have ihh := ih (i + 1) (by omega)
      rw [e1] at ihh
      refine mk_X9_isEmpty_4 s ?_
      rw [h4, nI_clamp (by omega), hn, nI_1]
      refine ⟨vp_in_nI hr (by omega), fun e => absurd e (nI_ge (by omega) (by omega)), fun _ => ?_⟩
      cases hb : eE m i with
      | true =>
        rw [hb] at ihh
        exact ⟨fun e => absurd e (by decide), fun _ => ihh⟩
      | false =>
        rw [hb] at ihh
        refine ⟨fun _ => ⟨vp_in_nI (by omega) (by omega), ?_⟩, fun e => absurd rfl e⟩
        rw [nI_clamp (by omega), h3 i (by omega)]
        refine ⟨fun e => ?_, fun e => ?_⟩
        · have : m i = 0 := (nI_eq (a := m i) (b := 0) (by have := h5 i; omega) (by omega)).mp e
          rw [decide_eq_true this] at ihh
          exact ihh
        · have : ¬ m i = 0 := fun q => e (by rw [q]; rfl)
          rw [decide_eq_false this] at ihh
          exact ihh
  exact mk_X9_isEmpty_0 s (loop n 0 (by omega))
end
