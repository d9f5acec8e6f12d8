section
variable {g : Nat → Nat} {R : Option Value → cc_C → Prop} {X : String → cc_C → Prop}
theorem m_kE {c : cc_C} {a n p σ : Nat} {m : Nat → Nat} {x away : Int32} (s : sl c 21 0 0 a) (h : meR c n m) (hx : x = nI p) (hp : p < n) (hσ : lo6 away = 63 - σ) (h64 : σ < 64) (H : ∀ d, fr pMay c d → meR d n (kpE m p σ).1 → R (some (.int (nI (kpE m p σ).2))) d) : wc g (wp_X9_takes g) c [.ref a, .int x, .int away] R X := by
  refine m_takes s h hx hp (fun d hd hs => ?_)
  rw [hσ] at hs ⊢
  rw [show 63 - (63 - σ) = σ by omega] at hs
  exact H d hd hs
theorem hi_is {y : Nat} (h : y < 64) (h0 : y ≠ 0) : lo6 ((-1 : Int32) <<< (hiG y 7 &&& 31)) = 63 - loN y := by
  have k : ∀ y, y < 64 → (y ≠ 0 → lo6 ((-1 : Int32) <<< (hiG y 7 &&& 31)) = 63 - loN y) := by decide +kernel
  exact k y h h0
theorem lo_is {y : Nat} (h : y < 64) (h0 : y ≠ 0) : lo6 (((2 : Int32) <<< (nI (lowG y 6 0) &&& 31)) - (1)) = 63 - riN y := by
  have k : ∀ y, y < 64 → (y ≠ 0 → lo6 (((2 : Int32) <<< (nI (lowG y 6 0) &&& 31)) - (1)) = 63 - riN y) := by decide +kernel
  exact k y h h0
theorem meR_at {c : cc_C} {n p : Nat} {m : Nat → Nat} (h : meR c n m) (hp : p < n) : cS c 880 25 (nI p).toNatClampNeg = nI (m p) := by
  rw [nI_clamp (by have := h.1; omega)]
  exact h.2.1 p hp
theorem m_before {c : cc_C} {e n a b : Nat} {m : Nat → Nat} {x1 x2 : Int32} (s : sl c 21 0 0 e) (h : meR c n m) (h1 : x1 = nI a) (h2 : x2 = nI b) (ha : a < n) (hb : b < n) (hne : m b ≠ 0) (H : ∀ d, fr pMay c d → meR d n (thn (kpE m a (loN (m b))) (fun m1 => kpE m1 b (riN (m1 a)))).1 → R (some (.int (nI (thn (kpE m a (loN (m b))) (fun m1 => kpE m1 b (riN (m1 a)))).2))) d) : wc g (wp_X9_before g) c [.ref e, .int x1, .int x2] R X := by
  subst h1 h2
  have hn := h.1
  have va := vp_in_nI (show a < 6 by omega) (by omega)
  have vb := vp_in_nI (show b < 6 by omega) (by omega)
  refine mk_X9_before_0 s ⟨vb, m_highest (meR_at h hb) (h.2.2 b) ⟨_, rfl, m_kE s h rfl ha (hi_is (h.2.2 b) hne) (lo6_lt _) (fun d hd hs => ⟨_, rfl, va, ?_⟩)⟩⟩
  rw [meR_at hs ha]
  refine ⟨fun z => ?_, fun z => ⟨va, m_lowest rfl (hs.2.2 a) ?_ ⟨_, rfl, m_kE (hd.sl s) hs rfl hb (lo_is (hs.2.2 a) ?_) (lo6_lt _) (fun d2 hd2 hs2 => ⟨_, rfl, ?_⟩)⟩⟩⟩
  · have z' : (kpE m a (loN (m b))).1 a = 0 := (nI_eq (a := _) (b := 0) (by have := hs.2.2 a; omega) (by omega)).mp z
    have e63 : lo6 (-1) = 63 - riN ((kpE m a (loN (m b))).1 a) := by
      rw [z']
      decide +kernel
    refine m_kE (hd.sl s) hs rfl hb e63 (lo6_lt _) (fun d2 hd2 hs2 => ⟨_, rfl, ?_⟩)
    rw [nI_add]
    exact H d2 (hd.trans hd2) hs2
  · exact fun q => z (by rw [q]; rfl)
  · exact fun q => z (by rw [q]; rfl)
  · rw [nI_add]
    exact H d2 (hd.trans hd2) hs2
theorem m_both {c : cc_C} {e n a b k : Nat} {m : Nat → Nat} {x1 x2 x3 f1 f2 : Int32} (σ1 σ2 : Nat → Nat) (s : sl c 21 0 0 e) (h : meR c n m) (h1 : x1 = nI a) (h2 : x2 = nI b) (h3 : x3 = nI k) (ha : a < n) (hb : b < n) (hσ1 : ∀ y, σ1 y < 64) (hσ2 : ∀ y, σ2 y < 64)
    (hn1 : ∀ (c : cc_C) (y : Nat) (Q : Option Value → cc_C → Prop), y < 64 → (∀ z : Int32, lo6 z = σ1 y → Q (some (.int z)) c) → wc g (wp_X9_near g) c [.int (nI y), .int (nI k), .int f1, .int f2] Q X)
    (hn2 : ∀ (c : cc_C) (y : Nat) (Q : Option Value → cc_C → Prop), y < 64 → (∀ z : Int32, lo6 z = σ2 y → Q (some (.int z)) c) → wc g (wp_X9_near g) c [.int (nI y), .int (nI k), .int f2, .int f1] Q X)
    (H : ∀ d, fr pMay c d → meR d n (thn (kpE m a (σ1 (m b))) (fun m1 => kpE m1 b (σ2 (m1 a)))).1 → R (some (.int (nI (thn (kpE m a (σ1 (m b))) (fun m1 => kpE m1 b (σ2 (m1 a)))).2))) d) : wc g (wp_X9_both g) c [.ref e, .int x1, .int x2, .int x3, .int f1, .int f2] R X := by
  subst h1 h2 h3
  have hn := h.1
  have va := vp_in_nI (show a < 6 by omega) (by omega)
  have vb := vp_in_nI (show b < 6 by omega) (by omega)
  refine mk_X9_both_0 s ⟨vb, ?_⟩
  rw [meR_at h hb]
  refine hn1 c _ _ (h.2.2 b) (fun z hz => ⟨_, rfl, m_kE s h rfl ha (by rw [not6, hz]) (hσ1 _) (fun d hd hs => ⟨_, rfl, va, ?_⟩)⟩)
  rw [meR_at hs ha]
  refine hn2 d _ _ (hs.2.2 a) (fun z2 hz2 => ⟨_, rfl, m_kE (hd.sl s) hs rfl hb (by rw [not6, hz2]) (hσ2 _) (fun d2 hd2 hs2 => ⟨_, rfl, ?_⟩)⟩)
  rw [nI_add]
  exact H d2 (hd.trans hd2) hs2
theorem m_near11 {k : Nat} (c : cc_C) (y : Nat) (Q : Option Value → cc_C → Prop) (H : ∀ z : Int32, lo6 z = dsN k y → Q (some (.int z)) c) : wc g (wp_X9_near g) c [.int (nI y), .int (nI k), .int 1, .int 1] Q X :=
  mk_X9_near_0 ⟨fun e => absurd e (by decide), fun _ => ⟨fun e => absurd e (by decide), fun _ => H _ (by unfold dsN; rw [Int32.or_comm])⟩⟩
theorem m_near10 (c : cc_C) (y : Nat) (Q : Option Value → cc_C → Prop) (H : ∀ z : Int32, lo6 z = lsN y → Q (some (.int z)) c) : wc g (wp_X9_near g) c [.int (nI y), .int (nI 1), .int 1, .int 0] Q X :=
  mk_X9_near_0 ⟨fun e => absurd e (by decide), fun _ => ⟨fun _ => H _ (by rw [Int32.or_zero]; rfl), fun e => absurd rfl e⟩⟩
theorem m_near01 (c : cc_C) (y : Nat) (Q : Option Value → cc_C → Prop) (H : ∀ z : Int32, lo6 z = l2N y → Q (some (.int z)) c) : wc g (wp_X9_near g) c [.int (nI y), .int (nI 1), .int 0, .int 1] Q X :=
  mk_X9_near_0 ⟨fun _ => ⟨fun e => absurd e (by decide), fun _ => H _ (by rw [Int32.zero_or]; rfl)⟩, fun e => absurd rfl e⟩
/-- the riddle that is being proved -/
def nwR (c : cc_C) (r n : Nat) : Prop := r < 20 ∧ cS c 874 0 0 = nI r ∧ cS c 880 0 r = nI n
theorem nwR_fr {P : Nat → Nat → Prop} {c d : cc_C} {r n : Nat} (h : fr P c d) (h1 : ¬ P 874 0) (h2 : ¬ P 880 0) (hs : nwR c r n) : nwR d r n := by
  unfold nwR
  rw [h.row h1, h.row h2]
  exact hs
theorem may_no1 : ¬ pMay 874 0 := fun q => by
  have := q.1
  omega
theorem may_no2 : ¬ pMay 880 0 := fun q => by
  have := q.2
  omega
theorem m_others {c : cc_C} {r e n p : Nat} {m : Nat → Nat} (s : sl c 21 0 0 e) (w : nwR c r n) (h : meR c n m) (hp : p < n) (H : ∀ d, fr pMay c d → meR d n (othE m p p (m p) n).1 → R (some (.int (nI (othE m p p (m p) n).2))) d) : ec g tb_X9_byPerson 19 [some (.ref e), some (.int (nI p)), some (.int (0)), some (.int (0))] [] 0 0 c R X := by
  have hn := h.1
  have keep : ∀ i, (othE m p p (m p) i).1 p = m p := by
    intro i
    induction i with
    | zero => rfl
    | succ i ih =>
      unfold othE
      by_cases hi : i = p ∨ i = p
      · rw [if_pos hi]; exact ih
      · rw [if_neg hi]
        show kp (othE m p p (m p) i).1 i (63 - m p) p = _
        unfold kp
        rw [if_neg (by omega)]
        exact ih
  have loop : ∀ k i (d : cc_C), i + k = n → fr pMay c d → meR d n (othE m p p (m p) i).1 → ec g tb_X9_byPerson 19 [some (.ref e), some (.int (nI p)), some (.int (nI (othE m p p (m p) i).2)), some (.int (nI i))] [] 0 0 d R X := by
    intro k
    induction k with
    | zero =>
      intro i d hi hd hs
      obtain rfl : i = n := by omega
      obtain ⟨w1, w2, w3⟩ := nwR_fr hd may_no1 may_no2 w
      refine mk_X9_byPerson_19 (hd.sl s) ?_
      rw [w2, nI_clamp (by omega), w3]
      exact ⟨vp_in_nI w1 (by omega), fun _ => H d hd hs, fun e => absurd (nI_le (Nat.le_refl i) (by omega)) e⟩
    | succ k ih =>
      intro i d hi hd hs
      obtain ⟨w1, w2, w3⟩ := nwR_fr hd may_no1 may_no2 w
      have eo : othE m p p (m p) (i + 1) = if i = p ∨ i = p then othE m p p (m p) i else thn (othE m p p (m p) i) (fun m1 => kpE m1 i (63 - m p)) := rfl
      refine mk_X9_byPerson_19 (hd.sl s) ?_
      rw [w2, nI_clamp (by omega), w3, nI_1, meR_at hs hp, keep i]
      refine ⟨vp_in_nI w1 (by omega), fun e => absurd e (nI_ge (by omega) (by omega)), fun _ => ⟨fun e => ?_, fun e => ⟨vp_in_nI (by omega) (by omega), m_kE (σ := 63 - m p) (hd.sl s) hs rfl (show i < n by omega) ?_ (by omega) (fun d2 hd2 hs2 => ⟨_, rfl, ?_⟩)⟩⟩⟩
      · have := (nI_eq (a := i) (b := p) (by omega) (by omega)).mp e
        rw [if_pos (Or.inl this)] at eo
        have r := ih (i + 1) d (by omega) hd (by rw [eo]; exact hs)
        rw [eo] at r
        rw [show nI (othE m p p (m p) i).2 + 0 = nI (othE m p p (m p) i).2 from nI_add _ 0]
        exact r
      · have := h.2.2 p
        rw [lo6_nI this]
        omega
      · have n1 : ¬ i = p := fun z => e (by rw [z])
        rw [if_neg (by omega)] at eo
        have r := ih (i + 1) d2 (by omega) (hd.trans hd2) (by rw [eo]; exact hs2)
        rw [eo] at r
        rw [nI_add]
        exact r
  exact loop n 0 c (by omega) fr_rfl h
theorem m_byPerson {c : cc_C} {r e n p : Nat} {m : Nat → Nat} {x1 : Int32} (s : sl c 21 0 0 e) (w : nwR c r n) (h : meR c n m) (h1 : x1 = nI p) (hp : p < n) (H : ∀ d, fr pMay c d → meR d n (perE m n p).1 → R (some (.int (nI (perE m n p).2))) d) : wc g (wp_X9_byPerson g) c [.ref e, .int x1] R X := by
  subst h1
  have hn := h.1
  refine mk_X9_byPerson_0 s ⟨vp_in_nI (by omega) (by omega), m_size (meR_at h hp) (h.2.2 p) ⟨_, rfl, fun q => ?_, fun q => ?_⟩⟩
  · unfold perE at H
    rw [if_pos ((pc_eq (k := 1) (by decide)).mp q)] at H
    exact m_others s w h hp H
  · unfold perE at H
    rw [if_neg (fun z => q ((pc_eq (k := 1) (by decide)).mpr z))] at H
    exact H c fr_rfl h
theorem m_byPlace {c : cc_C} {r e n t : Nat} {m : Nat → Nat} {x1 : Int32} (s : sl c 21 0 0 e) (w : nwR c r n) (h : meR c n m) (h1 : x1 = nI t) (ht : t < n) (H : ∀ d, fr pMay c d → meR d n (placE m n t).1 → R (some (.int (nI (placE m n t).2))) d) : wc g (wp_X9_byPlace g) c [.ref e, .int x1] R X := by
  subst h1
  have hn := h.1
  obtain ⟨w1, w2, w3⟩ := w
  have loop : ∀ k i (v : Int32), i + k = n → (0 < (hav m t i).1 → v = nI (hav m t i).2) → ec g tb_X9_byPlace 7 [some (.ref e), some (.int (nI t)), some (.int v), some (.int (nI (hav m t i).1)), some (.int (nI i))] [] 0 0 c R X := by
    intro k
    induction k with
    | zero =>
      intro i v hi hv0
      obtain rfl : i = n := by omega
      have hv := hav_lt (m := m) (t := t) i
      refine mk_X9_byPlace_7 s ?_
      rw [w2, nI_clamp (by omega), w3]
      refine ⟨vp_in_nI w1 (by omega), fun _ => ⟨fun z => ?_, fun z => ?_⟩, fun e => absurd (nI_le (Nat.le_refl i) (by omega)) e⟩
      · have z' := (nI_eq (a := (hav m t i).1) (b := 1) (by omega) (by omega)).mp z
        unfold placE at H
        rw [if_pos z'] at H
        refine m_kE s h (hv0 (by omega)) (hv.2 (by omega)) (nbit6 (by omega)) ?_ (fun d hd hs => ⟨_, rfl, H d hd hs⟩)
        have : 2 ^ t ≤ 2 ^ 5 := Nat.pow_le_pow_right (by decide) (by omega)
        omega
      · unfold placE at H
        rw [if_neg (fun q => z (by rw [q]; rfl))] at H
        exact H c fr_rfl h
    | succ k ih =>
      intro i v hi hv0
      have e1 : hav m t (i + 1) = if m i / 2 ^ t % 2 = 1 then ((hav m t i).1 + 1, i) else hav m t i := rfl
      refine mk_X9_byPlace_7 s ?_
      rw [w2, nI_clamp (by omega), w3, nI_1, nI_1]
      refine ⟨vp_in_nI w1 (by omega), fun e => absurd e (nI_ge (by omega) (by omega)), fun _ => ⟨vp_in_nI (by omega) (by omega), m_isOn (meR_at h (by omega)) rfl (h.2.2 i) (by omega) ⟨_, rfl, fun z => ?_, fun z => ?_⟩⟩⟩
      · have hb : ¬ m i / 2 ^ t % 2 = 1 := fun q => by
          rw [decide_eq_true q] at z
          exact absurd z (by decide)
        rw [if_neg hb] at e1
        have r := ih (i + 1) v (by omega) (by rw [e1]; exact hv0)
        rw [e1] at r
        exact r
      · have hb : m i / 2 ^ t % 2 = 1 := Decidable.byContradiction fun q => by
          rw [decide_eq_false q] at z
          exact absurd rfl z
        rw [if_pos hb] at e1
        have r := ih (i + 1) (nI i) (by omega) (by rw [e1]; exact fun _ => rfl)
        rw [e1] at r
        exact r
  exact mk_X9_byPlace_0 s (loop n 0 _ (by omega) (fun q => absurd q (Nat.lt_irrefl 0)))
end
