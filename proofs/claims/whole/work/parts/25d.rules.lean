section
variable {g : Nat → Nat} {R : Option Value → cc_C → Prop} {X : String → cc_C → Prop}
theorem oth_keep {m : Nat → Nat} {p q σ : Nat} : ∀ i, (othE m p q σ i).1 p = m p
  | 0 => rfl
  | i + 1 => by
    unfold othE
    by_cases hi : i = p ∨ i = q
    · rw [if_pos hi]
      exact oth_keep i
    · rw [if_neg hi]
      show kp (othE m p q σ i).1 i (63 - σ) p = _
      unfold kp
      rw [if_neg (by omega)]
      exact oth_keep i
theorem m_byPair {c : cc_C} {r e n p q : Nat} {m : Nat → Nat} {x1 x2 : Int32} (s : sl c 21 0 0 e) (w : nwR c r n) (h : meR c n m) (h1 : x1 = nI p) (h2 : x2 = nI q) (hp : p < n) (hq : q < n) (hpq : p < q) (H : ∀ d, fr pMay c d → meR d n (pairE m n p q).1 → R (some (.int (nI (pairE m n p q).2))) d) : wc g (wp_X9_byPair g) c [.ref e, .int x1, .int x2] R X := by
  subst h1 h2
  have hn := h.1
  have vp := vp_in_nI (show p < 6 by omega) (by omega)
  have vq := vp_in_nI (show q < 6 by omega) (by omega)
  have l1 := h.2.2 p
  have l2 := h.2.2 q
  refine mk_X9_byPair_0 s ⟨fun e => absurd e (nI_ge hpq (by omega)), fun _ => ⟨vp, vq, ?_⟩⟩
  rw [meR_at h hp, meR_at h hq]
  refine ⟨fun z => ⟨vp, m_size rfl l1 ⟨_, rfl, fun z2 => ?_, fun z2 => ?_⟩⟩, fun z => ?_⟩
  · have z' := (nI_eq (by omega) (by omega)).mp z
    unfold pairE at H
    rw [if_pos ⟨z', (pc_eq (k := 2) (by decide)).mp z2⟩] at H
    have loop : ∀ k i (d : cc_C), i + k = n → fr pMay c d → meR d n (othE m p q (m p) i).1 → ec g tb_X9_byPair 40 [some (.ref e), some (.int (nI p)), some (.int (nI q)), some (.int (nI (othE m p q (m p) i).2)), some (.int (nI i))] [] 0 0 d R X := by
      intro k
      induction k with
      | zero =>
        intro i d hi hd hs
        obtain rfl : i = n := by omega
        obtain ⟨w1, w2, w3⟩ := nwR_fr hd may_no1 may_no2 w
        refine mk_X9_byPair_40 (hd.sl s) ?_
        rw [w2, nI_clamp (by omega), w3]
        exact ⟨vp_in_nI w1 (by omega), fun _ => H d hd hs, fun e => absurd (nI_le (Nat.le_refl i) (by omega)) e⟩
      | succ k ih =>
        intro i d hi hd hs
        obtain ⟨w1, w2, w3⟩ := nwR_fr hd may_no1 may_no2 w
        have eo : othE m p q (m p) (i + 1) = if i = p ∨ i = q then othE m p q (m p) i else thn (othE m p q (m p) i) (fun m1 => kpE m1 i (63 - m p)) := rfl
        have e00 : nI (othE m p q (m p) i).2 + 0 = nI (othE m p q (m p) i).2 := nI_add _ 0
        refine mk_X9_byPair_40 (hd.sl s) ?_
        rw [w2, nI_clamp (by omega), w3, nI_1, meR_at hs hp, oth_keep i, e00]
        refine ⟨vp_in_nI w1 (by omega), fun e => absurd e (nI_ge (by omega) (by omega)), fun _ => ⟨fun e => ?_, fun e => ⟨fun e2 => ?_, fun e2 => ⟨vp, m_kE (σ := 63 - m p) (hd.sl s) hs rfl (show i < n by omega) ?_ (by omega) (fun d2 hd2 hs2 => ⟨_, rfl, ?_⟩)⟩⟩⟩⟩
        · have := (nI_eq (a := i) (b := p) (by omega) (by omega)).mp e
          rw [if_pos (Or.inl this)] at eo
          have r := ih (i + 1) d (by omega) hd (by rw [eo]; exact hs)
          rw [eo] at r
          exact r
        · have := (nI_eq (a := i) (b := q) (by omega) (by omega)).mp e2
          rw [if_pos (Or.inr this)] at eo
          have r := ih (i + 1) d (by omega) hd (by rw [eo]; exact hs)
          rw [eo] at r
          exact r
        · rw [lo6_nI l1]
          omega
        · have n1 : ¬ i = p := fun z => e (by rw [z])
          have n2 : ¬ i = q := fun z => e2 (by rw [z])
          rw [if_neg (by omega)] at eo
          have r := ih (i + 1) d2 (by omega) (hd.trans hd2) (by rw [eo]; exact hs2)
          rw [eo] at r
          rw [nI_add]
          exact r
    exact loop n 0 c (by omega) fr_rfl h
  · unfold pairE at H
    rw [if_neg (fun y => z2 ((pc_eq (k := 2) (by decide)).mpr y.2))] at H
    exact H c fr_rfl h
  · unfold pairE at H
    rw [if_neg (fun y => z (by rw [y.1]))] at H
    exact H c fr_rfl h
theorem m_byOwn {c : cc_C} {r e n u t j w : Nat} {k fz : Int32} {m : Nat → Nat} {x1 x2 : Int32} (s : sl c 21 0 0 e) (nw : nwR c r n) (h : meR c n m) (hn3 : 3 ≤ n) (h1 : x1 = nI u) (h2 : x2 = nI t) (ht : t < 160) (o : OvM c u k fz j w) (hk : Kv n (cS c 880 6 t) (cS c 880 7 t) (cS c 880 8 t) (cS c 880 9 t)) (H : ∀ d, fr pMay c d → meR d n (ownE k j fz w (cS c 880 6 t) (cS c 880 7 t).toNatClampNeg (cS c 880 8 t).toNatClampNeg (cS c 880 9 t).toNatClampNeg n m).1 → R (some (.int (nI (ownE k j fz w (cS c 880 6 t) (cS c 880 7 t).toNatClampNeg (cS c 880 8 t).toNatClampNeg (cS c 880 9 t).toNatClampNeg n m).2))) d) : wc g (wp_X9_byOwn g) c [.ref e, .int x1, .int x2] R X := by
  subst h1 h2
  obtain ⟨o1, o2, o3, o4, v1, v2, v3, v4, v5, v6, v7, v8⟩ := o
  obtain ⟨⟨a, ea, la⟩, ⟨b, eb, lb⟩, hk⟩ := hk
  obtain ⟨w1, w2, w3⟩ := nw
  have hn := h.1
  have vt := vp_in_nI ht (show 160 < 2 ^ 31 by omega)
  have vu := vp_in_nI o1 (show 6 < 2 ^ 31 by omega)
  have vr := vp_in_nI w1 (show 20 < 2 ^ 31 by omega)
  unfold ownE at H
  refine mk_X9_byOwn_0 s ⟨vt, vu, ?_⟩
  rw [nI_clamp (show t < 2 ^ 31 by omega), nI_clamp (show u < 2 ^ 31 by omega), o2]
  refine ⟨fun z => ⟨vu, ?_⟩, fun z => ?_⟩
  · rw [if_pos z.symm] at H
    have rest : ∀ (x : Int32) (p : Nat), x = nI p → p < n → (if j = 0 then (cS c 880 7 t).toNatClampNeg else if j = 1 then (cS c 880 8 t).toNatClampNeg else (cS c 880 9 t).toNatClampNeg) = p → ec g tb_X9_byOwn 63 [some (.ref e), some (.int (nI u)), some (.int (nI t)), none, none, none] [.int x] 0 0 c R X := by
      intro x p hx hp he
      rw [he] at H
      have kk : ∀ away, lo6 away = lo6 (setW w n fz) → wc g (wp_X9_takes g) c [.ref e, .int x, .int away] (fun v c' => ∃ y : Int32, v = some (.int y) ∧ R (some (.int y)) c') X := fun away ha => m_kE s h hx hp (by rw [ha]; have := lo6_lt (setW w n fz); omega) (by omega) (fun d hd hs => ⟨_, rfl, H d hd hs⟩)
      refine mk_X9_byOwn_63 s ⟨vu, (by rw [w2]; exact vr), ?_⟩
      rw [w2, nI_clamp (show r < 2 ^ 31 by omega), w3, nI_clamp (show u < 2 ^ 31 by omega), o4, o3]
      refine ⟨fun y => ⟨vr, vu, fun y2 => kk _ ?_, fun y2 => ⟨vr, kk _ ?_⟩⟩, fun y => ⟨vu, vu, fun y2 => kk _ ?_, fun y2 => ⟨vr, kk _ ?_⟩⟩⟩
      · have hz : ¬ fz = 0 := fun q => by rw [q] at y2; exact absurd y2 (by decide)
        have hm : (if nI n < nI w then nI n else nI w) = nI n := by
          by_cases hlt : nI n < nI w
          · rw [if_pos hlt]
          · rw [if_neg hlt]
            have q1 : n ≤ w := (nI_leI (by omega) (by omega)).mp y
            have q2 : ¬ n < w := fun q => hlt (nI_lt q (by omega))
            rw [show w = n by omega]
        unfold setW
        rw [if_neg hz, hm]
      · have hz : fz = 0 := v4.resolve_right y2
        have hm : (if nI n < nI w then nI n else nI w) = nI n := by
          by_cases hlt : nI n < nI w
          · rw [if_pos hlt]
          · rw [if_neg hlt]
            have q1 : n ≤ w := (nI_leI (by omega) (by omega)).mp y
            have q2 : ¬ n < w := fun q => hlt (nI_lt q (by omega))
            rw [show w = n by omega]
        unfold setW
        rw [if_pos hz, hm]
      · have hz : ¬ fz = 0 := fun q => by rw [q] at y2; exact absurd y2 (by decide)
        have hm : (if nI n < nI w then nI n else nI w) = nI w := if_neg (fun q => y (nI_le (by have := (nI_ltI (by omega) (by omega)).mp q; omega) (by omega)))
        unfold setW
        rw [if_neg hz, hm]
      · have hz : fz = 0 := v4.resolve_right y2
        have hm : (if nI n < nI w then nI n else nI w) = nI w := if_neg (fun q => y (nI_le (by have := (nI_ltI (by omega) (by omega)).mp q; omega) (by omega)))
        unfold setW
        rw [if_pos hz, hm]
    refine ⟨fun y => ⟨vt, ?_⟩, fun y => ⟨vu, fun y2 => ⟨vt, ?_⟩, fun y2 => ⟨vt, ?_⟩⟩⟩
    · rw [v2] at y
      have : j = 0 := by
        have := (nI_eq (a := 97 + j) (b := 97) (by omega) (by omega)).mp y
        omega
      exact rest _ a ea la (by rw [if_pos this, ea, nI_clamp (by omega)])
    · rw [v2] at y2
      have : j = 1 := by
        have := (nI_eq (a := 97 + j) (b := 98) (by omega) (by omega)).mp y2
        omega
      exact rest _ b eb lb (by rw [if_neg (by omega), if_pos this, eb, nI_clamp (by omega)])
    · rw [v2] at y y2
      have j2 : j = 2 := by
        have h3 : ¬ 97 + j = 97 := fun q => y (by rw [q]; rfl)
        have h4 : ¬ 97 + j = 98 := fun q => y2 (by rw [q]; rfl)
        omega
      have k9 := v8 j2
      rw [← z] at k9
      rcases hk with q | q | q | q | q | q | ⟨q, cc, exc, hc⟩
      · rw [q] at k9; exact absurd k9 (by decide)
      · rw [q] at k9; exact absurd k9 (by decide)
      · rw [q] at k9; exact absurd k9 (by decide)
      · rw [q] at k9; exact absurd k9 (by decide)
      · rw [q] at k9; exact absurd k9 (by decide)
      · rw [q.1] at k9; exact absurd k9 (by decide)
      · exact rest _ cc exc hc (by rw [if_neg (by omega), if_neg (by omega), exc, nI_clamp (by omega)])
  · rw [if_neg (fun q => z q.symm)] at H
    exact H c fr_rfl h
end
