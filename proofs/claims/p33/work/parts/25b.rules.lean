def othE (m : Nat → Nat) (p q σ : Nat) : Nat → cc_Ef
  | 0 => (m, 0)
  | k + 1 => if k = p ∨ k = q then othE m p q σ k else thn (othE m p q σ k) (fun m1 => kpE m1 k (63 - σ))
def perE (m : Nat → Nat) (n p : Nat) : cc_Ef := if pcN (m p) = 1 then othE m p p (m p) n else (m, 0)
def pairE (m : Nat → Nat) (n p q : Nat) : cc_Ef := if m p = m q ∧ pcN (m p) = 2 then othE m p q (m p) n else (m, 0)
/-- how many have a place, and the last of them -/
def hav (m : Nat → Nat) (t : Nat) : Nat → Nat × Nat
  | 0 => (0, 0)
  | k + 1 => if m k / 2 ^ t % 2 = 1 then ((hav m t k).1 + 1, k) else hav m t k
def placE (m : Nat → Nat) (n t : Nat) : cc_Ef := if (hav m t n).1 = 1 then kpE m (hav m t n).2 (2 ^ t) else (m, 0)
def ownE (k : Int32) (j : Nat) (fz : Int32) (w : Nat) (k' : Int32) (a b cc n : Nat) (m : Nat → Nat) : cc_Ef := if k = k' then kpE m (if j = 0 then a else if j = 1 then b else cc) (63 - lo6 (setW w n fz)) else (m, 0)
theorem othE_lt {m : Nat → Nat} {p q σ B : Nat} (h : ∀ k, m k < B) : ∀ i k, (othE m p q σ i).1 k < B
  | 0, k => h k
  | i + 1, k => by
    unfold othE
    by_cases hi : i = p ∨ i = q
    · rw [if_pos hi]
      exact othE_lt h i k
    · rw [if_neg hi]
      exact kp_lt (othE_lt h i) k
theorem othE_le {m : Nat → Nat} {p q σ : Nat} : ∀ i, (othE m p q σ i).2 ≤ 6 * i
  | 0 => Nat.le_refl 0
  | i + 1 => by
    unfold othE
    by_cases hi : i = p ∨ i = q
    · rw [if_pos hi]
      have := othE_le (m := m) (p := p) (q := q) (σ := σ) i
      omega
    · rw [if_neg hi]
      have h1 := othE_le (m := m) (p := p) (q := q) (σ := σ) i
      have h2 : (kpE (othE m p q σ i).1 i (63 - σ)).2 ≤ 6 := pcN_le
      show (othE m p q σ i).2 + (kpE (othE m p q σ i).1 i (63 - σ)).2 ≤ _
      omega
theorem hav_lt {m : Nat → Nat} {t : Nat} : ∀ i, (hav m t i).1 ≤ i ∧ (0 < (hav m t i).1 → (hav m t i).2 < i)
  | 0 => ⟨Nat.le_refl 0, fun h => absurd h (Nat.lt_irrefl 0)⟩
  | i + 1 => by
    have := hav_lt (m := m) (t := t) i
    unfold hav
    by_cases h : m i / 2 ^ t % 2 = 1
    · rw [if_pos h]
      exact ⟨by show _ + 1 ≤ _; omega, fun _ => Nat.lt_succ_self i⟩
    · rw [if_neg h]
      exact ⟨by omega, fun h => by have := this.2 h; omega⟩
section
variable {g : Nat → Nat} {R : Option Value → cc_C → Prop} {X : String → cc_C → Prop}
theorem seR_fr {P : Nat → Nat → Prop} {c d : cc_C} {r n : Nat} {m : Nat → Nat} (h : fr P c d) (h1 : ¬ P 120 r) (h2 : ¬ P 480 r) (hs : seR c r n m) : seR d r n m := by
  unfold seR
  rw [h.nn h1, h.row h2]
  exact hs
theorem s_fromOthers {c : cc_C} {r e n p q σ : Nat} {m : Nat → Nat} {x1 x2 x3 : Int32} (s : sl c 11 r 0 e) (h : seR c r n m) (h1 : x1 = nI p) (h2 : x2 = nI q) (h3 : x3 = nI σ) (hp : p < n) (hq : q < n) (hσ : σ < 64) (H : ∀ d, fr (pSe r) c d → seR d r n (othE m p q σ n).1 → R (some (.int (nI (othE m p q σ n).2))) d) : wc g (wp_X5_takeFromOthers g) c [.ref e, .int x1, .int x2, .int x3] R X := by
  subst h1 h2 h3
  have hn := h.2.1
  have eσ : lo6 (nI σ ^^^ (-1 : Int32)) = 63 - σ := by rw [not6, lo6_nI hσ]
  have loop : ∀ k i (d : cc_C), i + k = n → fr (pSe r) c d → seR d r n (othE m p q σ i).1 → ec g tb_X5_takeFromOthers 6 [some (.ref e), some (.int (nI p)), some (.int (nI q)), some (.int (nI σ)), some (.int (nI (othE m p q σ i).2)), some (.int (nI i))] [] 0 0 d R X := by
    intro k
    induction k with
    | zero =>
      intro i d hi hd hs
      obtain rfl : i = n := by omega
      refine mk_X5_takeFromOthers_6 (hd.sl s) ?_
      rw [hs.1]
      exact ⟨fun _ => H d hd hs, fun e => absurd (nI_le (Nat.le_refl i) (by omega)) e⟩
    | succ k ih =>
      intro i d hi hd hs
      have eo : othE m p q σ (i + 1) = if i = p ∨ i = q then othE m p q σ i else thn (othE m p q σ i) (fun m1 => kpE m1 i (63 - σ)) := rfl
      refine mk_X5_takeFromOthers_6 (hd.sl s) ?_
      rw [hs.1, nI_1]
      refine ⟨fun e => absurd e (nI_ge (by omega) (by omega)), fun _ => ⟨fun e => ?_, fun e => ⟨fun e2 => ?_, fun e2 => s_kE (hd.sl s) hs rfl (by omega) eσ (fun d2 hd2 hs2 => ⟨_, rfl, ?_⟩)⟩⟩⟩
      · have := (nI_eq (a := i) (b := p) (by omega) (by omega)).mp e
        rw [if_pos (Or.inl this)] at eo
        have r := ih (i + 1) d (by omega) hd (by rw [eo]; exact hs)
        rw [eo] at r
        exact r
      · have := (nI_eq (a := i) (b := q) (by omega) (by omega)).mp e2
        rw [if_pos (Or.inr this)] at eo
        have r := ih (i + 1) d (by omega) hd (by rw [eo]; exact hs)
        rw [eo] at r
        exact r
      · have n1 : ¬ i = p := fun z => e (by rw [z])
        have n2 : ¬ i = q := fun z => e2 (by rw [z])
        rw [if_neg (by omega)] at eo
        have r := ih (i + 1) d2 (by omega) (hd.trans hd2) (by rw [eo]; exact hs2)
        rw [eo] at r
        rw [nI_add]
        exact r
  exact mk_X5_takeFromOthers_0 s (loop n 0 c (by omega) fr_rfl h)
theorem pc_eq {y k : Nat} (hk : k ≤ 6) : (nI (pcN y) = nI k ↔ pcN y = k) := nI_eq (by have := pcN_le (y := y); omega) (by omega)
theorem s_byPerson {c : cc_C} {r e n p : Nat} {m : Nat → Nat} {x1 : Int32} (s : sl c 11 r 0 e) (h : seR c r n m) (h1 : x1 = nI p) (hp : p < n) (H : ∀ d, fr (pSe r) c d → seR d r n (perE m n p).1 → R (some (.int (nI (perE m n p).2))) d) : wc g (wp_X5_takeByPerson g) c [.ref e, .int x1] R X := by
  subst h1
  refine mk_X5_takeByPerson_0 s (s_setOf s h rfl hp ⟨_, rfl, s_bitCount ⟨_, rfl, ?_⟩⟩)
  rw [bitC_is (seR_lt h p)]
  unfold perE at H
  refine ⟨fun q => ?_, fun q => ?_⟩
  · rw [if_pos ((pc_eq (k := 1) (by decide)).mp q)] at H
    exact s_fromOthers s h rfl rfl rfl hp hp (seR_lt h p) (fun d hd hs => ⟨_, rfl, H d hd hs⟩)
  · rw [if_neg (fun z => q ((pc_eq (k := 1) (by decide)).mpr z))] at H
    exact H c fr_rfl h
theorem s_byPair {c : cc_C} {r e n p q : Nat} {m : Nat → Nat} {x1 x2 : Int32} (s : sl c 11 r 0 e) (h : seR c r n m) (h1 : x1 = nI p) (h2 : x2 = nI q) (hp : p < n) (hq : q < n) (H : ∀ d, fr (pSe r) c d → seR d r n (pairE m n p q).1 → R (some (.int (nI (pairE m n p q).2))) d) : wc g (wp_X5_takeByPair g) c [.ref e, .int x1, .int x2] R X := by
  subst h1 h2
  have l1 := seR_lt h p
  have l2 := seR_lt h q
  refine mk_X5_takeByPair_0 s (s_setOf s h rfl hp ⟨_, rfl, s_setOf s h rfl hq ⟨_, rfl, fun z => s_bitCount ⟨_, rfl, ?_⟩, fun z => ?_⟩⟩)
  · rw [bitC_is (seR_lt h p)]
    have z' := (nI_eq (by omega) (by omega)).mp z
    unfold pairE at H
    refine ⟨fun z2 => ?_, fun z2 => ?_⟩
    · rw [if_pos ⟨z', (pc_eq (k := 2) (by decide)).mp z2⟩] at H
      exact s_fromOthers s h rfl rfl rfl hp hq (seR_lt h p) (fun d hd hs => ⟨_, rfl, H d hd hs⟩)
    · rw [if_neg (fun y => z2 ((pc_eq (k := 2) (by decide)).mpr y.2))] at H
      exact H c fr_rfl h
  · unfold pairE at H
    rw [if_neg (fun y => z (by rw [y.1]))] at H
    exact H c fr_rfl h
theorem bit_is {y t : Nat} (hy : y < 64) (ht : t < 6) : ((nI y &&& ((1 : Int32) <<< (nI t &&& 31))) = 0 ↔ ¬ y / 2 ^ t % 2 = 1) := by
  have key : ∀ y, y < 64 → ∀ t, t < 6 → decide ((nI y &&& ((1 : Int32) <<< (nI t &&& 31))) = 0) = decide (¬ y / 2 ^ t % 2 = 1) := by decide +kernel
  have := key y hy t ht
  exact ⟨fun h => of_decide_eq_true (this ▸ decide_eq_true h), fun h => of_decide_eq_true (this.symm ▸ decide_eq_true h)⟩
theorem s_byPlace {c : cc_C} {r e n t : Nat} {m : Nat → Nat} {x1 : Int32} (s : sl c 11 r 0 e) (h : seR c r n m) (h1 : x1 = nI t) (ht : t < n) (H : ∀ d, fr (pSe r) c d → seR d r n (placE m n t).1 → R (some (.int (nI (placE m n t).2))) d) : wc g (wp_X5_takeByPlace g) c [.ref e, .int x1] R X := by
  subst h1
  have hn := h.2.1
  have loop : ∀ k i, i + k = n → ec g tb_X5_takeByPlace 7 [some (.ref e), some (.int (nI t)), some (.int (nI (hav m t i).1)), some (.int (nI (hav m t i).2)), some (.int (nI i))] [] 0 0 c R X := by
    intro k
    induction k with
    | zero =>
      intro i hi
      obtain rfl : i = n := by omega
      have hv := hav_lt (m := m) (t := t) i
      refine mk_X5_takeByPlace_7 s ?_
      rw [h.1]
      refine ⟨fun _ => ⟨fun z => ?_, fun z => ?_⟩, fun e => absurd (nI_le (Nat.le_refl i) (by omega)) e⟩
      · have z' := (nI_eq (a := (hav m t i).1) (b := 1) (by omega) (by omega)).mp z
        unfold placE at H
        rw [if_pos z'] at H
        exact s_kE s h rfl (hv.2 (by omega)) (bit6 (by omega)) (fun d hd hs => ⟨_, rfl, H d hd hs⟩)
      · unfold placE at H
        rw [if_neg (fun q => z (by rw [q]; rfl))] at H
        exact H c fr_rfl h
    | succ k ih =>
      intro i hi
      have e1 : hav m t (i + 1) = if m i / 2 ^ t % 2 = 1 then ((hav m t i).1 + 1, i) else hav m t i := rfl
      have r := ih (i + 1) (by omega)
      refine mk_X5_takeByPlace_7 s ?_
      rw [h.1]
      refine ⟨fun e => absurd e (nI_ge (by omega) (by omega)), fun _ => ⟨vp_in_nI (by omega) (by omega), ?_⟩⟩
      rw [nI_clamp (by omega), h.2.2.1 i (by omega), nI_1, nI_1]
      refine ⟨fun z => ?_, fun z => ?_⟩
      · rw [e1, if_neg ((bit_is (seR_lt h i) (by omega)).mp z)] at r
        exact r
      · have : m i / 2 ^ t % 2 = 1 := Decidable.byContradiction fun q => z ((bit_is (seR_lt h i) (by omega)).mpr q)
        rw [e1, if_pos this] at r
        exact r
  exact mk_X5_takeByPlace_0 s (loop n 0 (by omega))
theorem s_byOwn {c : cc_C} {r e n o q i a' j w : Nat} {fz : Int32} {m : Nat → Nat} (s : sl c 11 r 0 e) (s2 : sl c 14 o 0 a') (s3 : sl c 6 i 0 q) (h : seR c r n m) (hn3 : 3 ≤ n) (ov : Ov (cS c 560 o 0) (cS c 563 o 0) fz (nI w) j w) (h564 : cS c 564 o 0 = fz) (h565 : cS c 565 o 0 = nI w) (hk : Kv n (cS c 240 i 0) (cS c 241 i 0) (cS c 242 i 0) (cS c 243 i 0)) (H : ∀ d, fr (pSe r) c d → seR d r n (ownE (cS c 560 o 0) j fz w (cS c 240 i 0) (cS c 241 i 0).toNatClampNeg (cS c 242 i 0).toNatClampNeg (cS c 243 i 0).toNatClampNeg n m).1 → R (some (.int (nI (ownE (cS c 560 o 0) j fz w (cS c 240 i 0) (cS c 241 i 0).toNatClampNeg (cS c 242 i 0).toNatClampNeg (cS c 243 i 0).toNatClampNeg n m).2))) d) : wc g (wp_X5_takeByOwnRule g) c [.ref e, .ref a', .ref q] R X := by
  obtain ⟨v1, v2, v3, v4, v5, v6, v7, v8⟩ := ov
  obtain ⟨⟨a, ea, la⟩, ⟨b, eb, lb⟩, hk⟩ := hk
  have hn := h.2.1
  unfold ownE at H
  refine mk_X5_takeByOwnRule_0 s s2 s3 ⟨fun z => ?_, fun z => ?_⟩
  · rw [if_pos z] at H
    have rest : ∀ (x : Int32) (p : Nat), x = nI p → p < n → (if j = 0 then (cS c 241 i 0).toNatClampNeg else if j = 1 then (cS c 242 i 0).toNatClampNeg else (cS c 243 i 0).toNatClampNeg) = p → wc g (wp_X4_placesOf g) c [.ref a', .int (Int32.ofNat (cN c 120 r))] (fun v24 c10 => ∃ x15 : Int32, v24 = some (.int x15) ∧ wc g (wp_X5_keep g) c10 [.ref e, .int x, .int (x15 ^^^ (-1))] (fun v22 c16 => ∃ x21 : Int32, v22 = some (.int x21) ∧ R (some (.int x21)) c16) X) X := by
      intro x p hx hp he
      rw [he] at H
      have kk : wc g (wp_X5_keep g) c [.ref e, .int x, .int (setW w n fz ^^^ (-1))] (fun v22 c16 => ∃ x21 : Int32, v22 = some (.int x21) ∧ R (some (.int x21)) c16) X := s_kE s h hx hp (not6 _) (fun d hd hs => ⟨_, rfl, H d hd hs⟩)
      rw [h.1]
      refine mk_X4_placesOf_0 s2 ⟨fun y => ⟨_, rfl, ?_⟩, fun y => ⟨_, rfl, ?_⟩⟩
      · rw [h564] at y
        rw [h565]
        unfold setW at kk
        rw [if_pos y] at kk
        exact kk
      · rw [h564] at y
        rw [h565]
        unfold setW at kk
        rw [if_neg y] at kk
        exact kk
    refine mk_X4_personIn_0 s2 s3 ⟨fun y => ⟨_, rfl, rest _ a ea la ?_⟩, fun y => ⟨fun y2 => ⟨_, rfl, rest _ b eb lb ?_⟩, fun y2 => ?_⟩⟩
    · rw [v2] at y
      have : j = 0 := by
        have := (nI_eq (a := 97 + j) (b := 97) (by omega) (by omega)).mp y
        omega
      rw [if_pos this, ea, nI_clamp (by omega)]
    · rw [v2] at y2
      have : j = 1 := by
        have := (nI_eq (a := 97 + j) (b := 98) (by omega) (by omega)).mp y2
        omega
      rw [if_neg (by omega), if_pos this, eb, nI_clamp (by omega)]
    · rw [v2] at y y2
      have j2 : j = 2 := by
        have h3 : ¬ 97 + j = 97 := fun q => y (by rw [q]; rfl)
        have h4 : ¬ 97 + j = 98 := fun q => y2 (by rw [q]; rfl)
        omega
      have k9 := v8 j2
      rw [z] at k9
      rcases hk with q | q | q | q | q | q | ⟨q, cc, exc, hc⟩
      · rw [q] at k9; exact absurd k9 (by decide)
      · rw [q] at k9; exact absurd k9 (by decide)
      · rw [q] at k9; exact absurd k9 (by decide)
      · rw [q] at k9; exact absurd k9 (by decide)
      · rw [q] at k9; exact absurd k9 (by decide)
      · rw [q.1] at k9; exact absurd k9 (by decide)
      · refine ⟨_, rfl, rest _ cc exc hc ?_⟩
        rw [if_neg (by omega), if_neg (by omega), exc, nI_clamp (by omega)]
  · rw [if_neg z] at H
    exact H c fr_rfl h
end
