/-! the law looks at the riddles -/
def lI (M : cc_M) (t : Nat) : Prop := wfM M t ∧ gM M ∧ mR M = 5 ∧ mU M = 3 ∧ mW M ≤ 3
theorem and11 : (1 : Int32) &&& (1 : Int32) = 1 := by decide
theorem or_b0 (b : Bool) : (bI b) ||| (0 : Int32) = bI b := by cases b <;> decide
theorem or_b1 (b : Bool) : (bI b) ||| (1 : Int32) = bI true := by cases b <;> decide
theorem zletter {z : Int32} (h : z = 111 ∨ z = 119 ∨ z = 105 ∨ z = 115 ∨ z = 98 ∨ z = 104) : (z.toUInt32 % 65536).toInt32 = z ∧ ¬ z < 0 ∧ ¬ ixF 5 z < 0 := by
  have key : ∀ z ∈ ([111, 119, 105, 115, 98, 104] : List Int32), (z.toUInt32 % 65536).toInt32 = z ∧ ¬ z < 0 ∧ ¬ ixF 5 z < 0 := by decide +kernel
  refine key z ?_
  rcases h with rfl | rfl | rfl | rfl | rfl | rfl <;> decide
theorem fw_at {O : cc_O} {x : cc_Rd} {W : Nat} (h : rdG W O x) : ∀ k, fwE O x k = false
  | 0 => rfl
  | k + 1 => by
    show (fwE O x k || (rdLn x (10 + k) && !(O k).2.2.2.2)) = false
    rw [fw_at h k, Bool.false_or]
    cases e : rdLn x (10 + k) with
    | false => rfl
    | true => rw [(rdG_ln h e).2]; rfl
theorem lw_no {x : cc_Rd} : ∀ {k : Nat}, lwE x k = false → ∀ u, u < k → rdLn x (10 + u) = false
  | 0, _, u, hu => absurd hu (Nat.not_lt_zero u)
  | k + 1, h, u, hu => by
    have h1 : (lwE x k || rdLn x (10 + k)) = false := h
    rw [Bool.or_eq_false_iff] at h1
    by_cases e : u = k
    · rw [e]
      exact h1.2
    · exact lw_no h1.1 u (by omega)
theorem sound_G {O : cc_O} {x : cc_Rd} {W : Nat} (h : rdG W O x) (ho : rdO x = 1) : sound O W x = true := by
  unfold sound
  rw [fw_at h W]
  cases e : lwE x W with
  | true => rfl
  | false =>
    show (true && (false || decide (rdA x = 1))) = true
    rw [rdG_own h ho (lw_no e)]
    rfl
theorem cn_all {M : cc_M} {t : Nat} (w : wfM M t) (g : gM M) : ∀ k, k ≤ mR M → cnE M k = true
  | 0, _ => rfl
  | k + 1, hk => by
    show (cnE M k && (!decide (rdZ (mX M k) = 115) || sound (mO M) (mW M) (mX M k))) = true
    rw [cn_all w g k (by omega), Bool.true_and]
    by_cases e : rdZ (mX M k) = 115
    · rw [sound_G (g.1 k (by omega)) ((w.1.2 k (by omega)).2.2.2.2 (by rw [e]; exact Or.inr (Or.inl rfl)))]
      exact Bool.or_true _
    · rw [decide_eq_false e]
      rfl
/-- how many steps there are to look at -/
def rdK1 (x : cc_Rd) : Nat := if rdO x = 0 then 0 else rdk x
section
variable {g : Nat → Nat} {c : cc_C} {M : cc_M} {R : Option Value → cc_C → Prop} {X : String → cc_C → Prop} {a t r : Nat}
/-- the loop over steps -/
theorem ar_171 (h : lI M t) (hr : r < 5) {z a4 a5 : Int32} {K N : Nat} (hK : K + 500 ≤ 3372) (hN : N + 2800 ≤ 20057)
    (nx : ∀ (d : cc_C) (o3 o4 o5 o6 o7 o8 : Option Value) (k n : Nat), pS a M d → k ≤ K + 440 → n ≤ N + 2630 → ec g tb_L_areRiddles 7 [some (.ref a), some (.int 1), some (.int (nI (r + 1))), o3, o4, o5, o6, o7, o8] [] k n d R X) :
    ∀ (m i : Nat) (d : cc_C) (k n : Nat), i + m = rdK1 (mX M r) → pS a M d → k ≤ K + 12 * i → n ≤ N + 72 * i → ec g tb_L_areRiddles 171 [some (.ref a), some (.int 1), some (.int (nI r)), some (.int z), some (.int a4), some (.int a5), some (.int (stV (mX M r))), some (.int (nI (sumS (rdS (mX M r)) i))), some (.int (nI i))] [] k n d R X := by
  obtain ⟨w, gg, h5, hU, hW⟩ := h
  have hr5 : r < mR M := by omega
  have wx := w.1.2 r hr5
  have h36 := wx.2.2.1.2.2.1
  have gr := gg.1 r hr5
  have hs16 : ∀ i, i ≤ rdk (mX M r) → sumS (rdS (mX M r)) i ≤ 16 := by
    have mono : ∀ j i, sumS (rdS (mX M r)) i ≤ sumS (rdS (mX M r)) (i + j) := by
      intro j
      induction j with
      | zero => intro i; exact Nat.le_refl _
      | succ j ih => intro i; exact Nat.le_trans (ih i) (Nat.le_add_right _ _)
    intro i hi
    have := mono (rdk (mX M r) - i) i
    rw [show i + (rdk (mX M r) - i) = rdk (mX M r) by omega] at this
    exact Nat.le_trans this gr.2.2.1
  have hk1 : rdK1 (mX M r) ≤ rdk (mX M r) := by
    unfold rdK1
    split
    · exact Nat.zero_le _
    · exact Nat.le_refl _
  intro m
  induction m with
  | zero =>
    intro i d k n hi pd hk hn
    have e16 := hs16 i (by omega)
    refine mk_L_areRiddles_171 pd.1 ⟨fun _ => ⟨fun q => absurd q (nI_nlt (a := 16) (b := sumS (rdS (mX M r)) i) e16 (by omega)), fun _ => ⟨fun q0 => ?_, fun q0 => ?_⟩⟩, fun q => absurd ?_ q⟩
    · refine ⟨⟨by omega, by omega⟩, q_answers pd.1 pd.2 w hr5 (fun d1 p1 => ⟨_, rfl, ⟨by omega, by omega⟩, q_answers p1.1 p1.2 w hr5 (fun d2 p2 => ⟨_, rfl, fun _ => ?_, fun q => absurd rfl q⟩)⟩)⟩
      rw [and11, nI_1]
      exact nx d2 _ _ _ _ _ _ _ _ p2 (by omega) (by omega)
    · have ho : ¬ rdO (mX M r) = 0 := fun z => by
        unfold stV at q0
        rw [if_pos z] at q0
        exact q0 (by decide)
      have es : stV (mX M r) = nI (rdk (mX M r)) := if_neg ho
      have ei : rdK1 (mX M r) = rdk (mX M r) := if_neg ho
      rw [es]
      refine ⟨⟨by omega, by omega⟩, q_ruleAt_no pd.1 pd.2 w hr5 (Nat.le_refl _) (by omega) (fun d0 p0 => ⟨_, rfl, fun _ => ⟨⟨by omega, by omega⟩, q_answers p0.1 p0.2 w hr5 (fun d1 p1 => ⟨_, rfl, ⟨by omega, by omega⟩, q_answers p1.1 p1.2 w hr5 (fun d2 p2 => ⟨_, rfl, fun _ => ?_, fun q => absurd rfl q⟩)⟩)⟩, fun q => absurd rfl q⟩)⟩
      rw [and11, nI_1]
      exact nx d2 _ _ _ _ _ _ _ _ p2 (by omega) (by omega)
    · unfold stV
      unfold rdK1 at hi
      by_cases ho : rdO (mX M r) = 0
      · rw [if_pos ho] at hi ⊢
        rw [show i = 0 by omega]
        decide
      · rw [if_neg ho] at hi ⊢
        exact nI_le (by omega) (by omega)
  | succ m ih =>
    intro i d k n hi pd hk hn
    have ho : ¬ rdO (mX M r) = 0 := fun z => by
      unfold rdK1 at hi
      rw [if_pos z] at hi
      omega
    have es : stV (mX M r) = nI (rdk (mX M r)) := if_neg ho
    have hik : i < rdk (mX M r) := by omega
    obtain ⟨g1, g2, g3, g4, g5⟩ := gr.2.1 i hik
    have e16 := hs16 (i + 1) (by omega)
    have eln : lnV M r (rdS (mX M r) i).1 = 1 := by
      have hlt : (rdS (mX M r) i).1 < 10 + mW M := by
        by_cases h10 : 10 ≤ (rdS (mX M r) i).1
        · have := (g5 h10).1
          omega
        · omega
      unfold lnV
      rw [if_pos hlt]
      have : rdLn (mX M r) (rdS (mX M r) i).1 = true := ln_of hik rfl
      rw [this]
      rfl
    have nle : ¬ stV (mX M r) ≤ nI i := by
      rw [es]
      exact nI_ge hik (by omega)
    refine mk_L_areRiddles_171 pd.1 ⟨fun q => absurd q nle, fun _ => ⟨⟨by omega, by omega⟩, q_takenAt pd.1 pd.2 w hr5 hik (fun d1 p1 => ⟨_, rfl, ⟨by omega, by omega⟩, ?_⟩)⟩⟩
    refine q_takenAt p1.1 p1.2 w hr5 hik (fun d2 p2 => ⟨_, rfl, fun q => absurd q (nI_nle g2 (by omega)), fun _ => ⟨⟨by omega, by omega⟩, ?_⟩⟩)
    refine q_ruleAt p2.1 p2.2 w hr5 hik (fun d3 p3 => ⟨_, rfl, fun q => absurd q (nI_pos (by omega)), fun _ => ⟨⟨by omega, by omega⟩, ?_⟩⟩)
    refine q_causeAt p3.1 p3.2 w hr5 hik (fun d4 p4 => ⟨_, rfl, fun q => absurd q (nI_pos (by omega)), fun _ => ⟨⟨by omega, by omega⟩, ?_⟩⟩)
    refine q_ruleAt p4.1 p4.2 w hr5 hik (fun d5 p5 => ⟨_, rfl, ⟨by omega, by omega⟩, ?_⟩)
    refine q_leans p5.1 p5.2 w hr5 (by omega) (fun d6 p6 => ⟨_, rfl, fun _ => ?_, fun q => absurd eln q⟩)
    have e1 : nI (sumS (rdS (mX M r)) i) + nI (rdS (mX M r) i).2.2 = nI (sumS (rdS (mX M r)) (i + 1)) := nI_add _ _
    rw [and11, nI_1, e1]
    exact ih (i + 1) d6 _ _ (by omega) p6 (by omega) (by omega)
/-- the rules that a riddle leans on -/
theorem ar_29 (h : lI M t) (hr : r < 5) {K N : Nat} (hK : K + 560 ≤ 3372) (hN : N + 3000 ≤ 20057) {o7 o8 : Option Value}
    (nx : ∀ (d : cc_C) (o3 o4 o5 o6 o7 o8 : Option Value) (k n : Nat), pS a M d → k ≤ K + 470 → n ≤ N + 2780 → ec g tb_L_areRiddles 7 [some (.ref a), some (.int 1), some (.int (nI (r + 1))), o3, o4, o5, o6, o7, o8] [] k n d R X) :
    ∀ (m j : Nat) (d : cc_C) (k n : Nat), j + m = 3 → pS a M d → k ≤ K + 6 * j → n ≤ N + 36 * j → ec g tb_L_areRiddles 29 [some (.ref a), some (.int 1), some (.int (nI r)), some (.int (rdZ (mX M r))), some (.int (bI (lwE (mX M r) j))), some (.int 0), some (.int (nI (10 + j))), o7, o8] [] k n d R X := by
  have hh := h
  obtain ⟨w, gg, h5, hU, hW⟩ := h
  have hr5 : r < mR M := by omega
  have wx := w.1.2 r hr5
  have gr := gg.1 r hr5
  have hz := zletter wx.2.1
  intro m
  induction m with
  | zero =>
    intro j d k n hj pd hk hn
    have ej : j = 3 := by omega
    subst ej
    have L171 : ∀ (d : cc_C) (k n : Nat), pS a M d → k ≤ K + 23 → n ≤ N + 133 → ec g tb_L_areRiddles 171 [some (.ref a), some (.int ((1 : Int32) &&& 1)), some (.int (nI r)), some (.int (rdZ (mX M r))), some (.int (bI (lwE (mX M r) 3))), some (.int 0), some (.int (stV (mX M r))), some (.int 0), some (.int 0)] [] k n d R X := fun d k n p hk hn => by
      rw [and11]
      exact ar_171 hh hr (K := K + 23) (N := N + 133) (by omega) (by omega) (fun d o3 o4 o5 o6 o7 o8 k n p hk hn => nx d o3 o4 o5 o6 o7 o8 k n p (by omega) (by omega)) (rdK1 (mX M r)) 0 d k n (Nat.zero_add _) p (by omega) (by omega)
    have L132 : ∀ (d : cc_C) (k n : Nat), pS a M d → k ≤ K + 20 → n ≤ N + 120 → ec g tb_L_areRiddles 132 [some (.ref a), some (.int 1), some (.int (nI r)), some (.int (rdZ (mX M r))), some (.int (bI (lwE (mX M r) 3))), some (.int 0), some (.int (stV (mX M r))), o7, o8] [.int 1] k n d R X := fun d k n p hk hn => by
      refine mk_L_areRiddles_132 p.1 ⟨fun q0 => ⟨fun _ => L171 d _ _ p (by omega) (by omega), fun z1 => ⟨fun _ => L171 d _ _ p (by omega) (by omega), fun z2 => ⟨⟨by omega, by omega⟩, q_answers p.1 p.2 w hr5 (fun d1 p1 => ⟨_, rfl, fun _ => L171 d1 _ _ p1 (by omega) (by omega), fun q => absurd ?_ q⟩)⟩⟩⟩, fun _ => L171 d _ _ p (by omega) (by omega)⟩
      have e0 : lwE (mX M r) 3 = false := by
        cases e : lwE (mX M r) 3 with
        | false => rfl
        | true => rw [e] at q0; exact absurd q0 (by decide)
      have ho : rdO (mX M r) = 1 := wx.2.2.2.2 (by
        rcases wx.2.1 with e | e | e | e | e | e
        · exact absurd e z1
        · exact Or.inr (Or.inr (Or.inr e))
        · exact Or.inl e
        · exact Or.inr (Or.inl e)
        · exact Or.inr (Or.inr (Or.inl e))
        · exact absurd e z2)
      rw [rdG_own gr ho (fun u hu => lw_no e0 u (by omega))]
      rfl
    refine mk_L_areRiddles_29 pd.1 ⟨fun _ => ⟨⟨by omega, by omega⟩, q_steps pd.1 pd.2 w hr5 (fun d1 p1 => ⟨_, rfl, ⟨by omega, by omega⟩, s_indexOf (t := 5) (by decide) hz.2.1 ⟨_, rfl, fun q => absurd q hz.2.2, fun _ => ⟨fun _ => ⟨fun _ => L132 d1 _ _ p1 (by omega) (by omega), fun z1 => ⟨fun _ => L132 d1 _ _ p1 (by omega) (by omega), fun z2 => ⟨fun q => absurd q ?_, fun _ => L132 d1 _ _ p1 (by omega) (by omega)⟩⟩⟩, fun q => absurd rfl q⟩⟩⟩)⟩, fun q => absurd (by decide) q⟩
    have ho : rdO (mX M r) = 1 := wx.2.2.2.2 (by
      rcases wx.2.1 with e | e | e | e | e | e
      · exact absurd e z1
      · exact Or.inr (Or.inr (Or.inr e))
      · exact Or.inl e
      · exact Or.inr (Or.inl e)
      · exact Or.inr (Or.inr (Or.inl e))
      · exact absurd e z2)
    unfold stV
    rw [if_neg (by omega)]
    exact nI_pos (by have := wx.2.2.1.2.2.1; omega)
  | succ m ih =>
    intro j d k n hj pd hk hn
    have eo : lwE (mX M r) (j + 1) = (lwE (mX M r) j || rdLn (mX M r) (10 + j)) := rfl
    refine mk_L_areRiddles_29 pd.1 ⟨fun q => absurd q (nI_ge (a := 10 + j) (b := 13) (by omega) (by omega)), fun _ => ⟨⟨by omega, by omega⟩, q_leans pd.1 pd.2 w hr5 (by omega) (fun d1 p1 => ⟨_, rfl, fun q1 => ⟨⟨by omega, by omega⟩, q_leans p1.1 p1.2 w hr5 (by omega) (fun d2 p2 => ⟨_, rfl, fun _ => ?_, fun q => absurd q1 q⟩)⟩, fun q1 => ⟨⟨by omega, by omega⟩, q_leans p1.1 p1.2 w hr5 (by omega) (fun d2 p2 => ⟨_, rfl, fun q => absurd q q1, fun _ => ?_⟩)⟩⟩)⟩⟩
    · have hl : rdLn (mX M r) (10 + j) = true := by
        unfold lnV at q1
        by_cases hlt : 10 + j < 10 + mW M
        · rw [if_pos hlt] at q1
          cases e : rdLn (mX M r) (10 + j) with
          | true => rfl
          | false => rw [e] at q1; exact absurd q1 (by decide)
        · rw [if_neg hlt] at q1
          exact absurd q1 (by decide)
      obtain ⟨u1, u2⟩ := rdG_ln gr hl
      refine ⟨⟨by omega, by omega⟩, q_stands p2.1 p2.2 w (by omega) (fun d3 p3 => ⟨_, rfl, fun q => ?_, fun _ => ?_⟩)⟩
      · rw [show 10 + j - 10 = j by omega, u2, Bool.or_true] at q
        exact absurd q (by decide)
      · rw [or_b1, nI_1]
        have e2 : (0 : Int32) ||| 0 = 0 := by decide
        rw [e2]
        have := ih (j + 1) d3 (k + 2 + 2 + 2) (n + 12 + 12 + 12) (by omega) p3 (by omega) (by omega)
        rw [eo, hl, Bool.or_true] at this
        exact this
    · have hl : rdLn (mX M r) (10 + j) = false := by
        cases e : rdLn (mX M r) (10 + j) with
        | false => rfl
        | true =>
          refine absurd ?_ q1
          unfold lnV
          rw [if_pos (by have := (rdG_ln gr e).1; omega), e]
          rfl
      rw [or_b0, nI_1]
      have e2 : (0 : Int32) ||| 0 = 0 := by decide
      rw [e2]
      have := ih (j + 1) d2 (k + 2 + 2) (n + 12 + 12) (by omega) p2 (by omega) (by omega)
      rw [eo, hl, Bool.or_false] at this
      exact this
theorem cw_le5 (h5 : mR M = 5) : cwE M (mR M) < 6 := by
  have : ∀ k, cwE M k ≤ k := by
    intro k
    induction k with
    | zero => exact Nat.le_refl _
    | succ k ih =>
      show cwE M k + (if rdO (mX M k) = 1 then 1 else 0) ≤ k + 1
      split <;> omega
  have := this (mR M)
  omega
theorem sm_le5 (w : wfM M t) (h5 : mR M = 5) : smE M (mR M) < 181 := by
  have : ∀ k, k ≤ mR M → smE M k ≤ 36 * k := by
    intro k
    induction k with
    | zero => intro _; exact Nat.le_refl _
    | succ k ih =>
      intro hk
      have := (w.1.2 k (by omega)).2.2.1.2.2.1
      have := ih (by omega)
      show smE M k + (if rdO (mX M k) = 1 then rdk (mX M k) else 0) ≤ 36 * (k + 1)
      split <;> omega
  have := this (mR M) (Nat.le_refl _)
  omega
set_option maxRecDepth 100000 in
theorem ar_7 (h : lI M t) (H : ∀ d, pS a M d → R (some (.int 1)) d) : ∀ (m r : Nat) (d : cc_C) (o3 o4 o5 o6 o7 o8 : Option Value) (k n : Nat), r + m = 5 → pS a M d → k ≤ 40 + 480 * r → n ≤ 140 + 2800 * r → ec g tb_L_areRiddles 7 [some (.ref a), some (.int 1), some (.int (nI r)), o3, o4, o5, o6, o7, o8] [] k n d R X := by
  have hh := h
  obtain ⟨w, gg, h5, hU, hW⟩ := h
  intro m
  induction m with
  | zero =>
    intro r d o3 o4 o5 o6 o7 o8 k n hr pd hk hn
    have er : r = 5 := by omega
    subst er
    have c6 := cw_le5 (M := M) h5
    have s181 := sm_le5 w h5
    obtain ⟨f1, f2, f3⟩ := sh_facts (cwE M (mR M)) c6
    have es : shV M = FP.fdiv (FP.i2f (nI (cwE M (mR M)))) (FP.i2f (nI 5)) := by
      unfold shV
      rw [h5]
    rw [← es] at f1 f2 f3
    refine mk_L_areRiddles_7 pd.1 ⟨fun _ => ⟨⟨by omega, by omega⟩, lX_share pd.1 pd.2 w (by omega) ⟨_, rfl, ⟨by omega, by omega⟩, lX_mean pd.1 pd.2 w (fun q0 => ⟨_, rfl, fun q => absurd q (by decide), fun _ => ⟨fun q => absurd q f1, fun _ => ⟨fun q => absurd q f2, fun _ => ⟨fun _ => ⟨fun _ => ⟨fun _ => ⟨⟨by omega, by omega⟩, H d pd⟩, fun q => absurd rfl q⟩, fun q => absurd mn_self q⟩, fun q => absurd (f3.mpr q0) q⟩⟩⟩⟩) (fun q0 => ⟨_, rfl, fun q => absurd q (by decide), fun _ => ⟨fun q => absurd q f1, fun _ => ⟨fun q => absurd q f2, fun _ => ⟨fun q => absurd (f3.mp q) q0, fun _ => ⟨fun q => absurd q (mn_facts _ c6 _ s181 q0), fun _ => ⟨fun _ => ⟨⟨by omega, by omega⟩, H d pd⟩, fun q => absurd rfl q⟩⟩⟩⟩⟩⟩)⟩⟩, fun q => absurd (by decide) q⟩
  | succ m ih =>
    intro r d o3 o4 o5 o6 o7 o8 k n hr pd hk hn
    have hr5 : r < mR M := by omega
    have hz := zletter (w.1.2 r hr5).2.1
    refine mk_L_areRiddles_7 pd.1 ⟨fun q => absurd q (nI_ge (a := r) (b := 5) (by omega) (by omega)), fun _ => ⟨⟨by omega, by omega⟩, q_state pd.1 pd.2 w hr5 (fun d1 p1 => ⟨_, rfl, ?_⟩)⟩⟩
    rw [hz.1]
    obtain ⟨K, hK⟩ : ∃ K, K = 40 + 480 * r + 1 := ⟨_, rfl⟩
    obtain ⟨N, hN⟩ : ∃ N, N = 140 + 2800 * r + 6 := ⟨_, rfl⟩
    exact ar_29 hh (by omega) (K := K) (N := N) (by omega) (by omega) (fun d2 p3 p4 p5 p6 p7 p8 k2 n2 p2 hk2 hn2 => ih (r + 1) d2 p3 p4 p5 p6 p7 p8 k2 n2 (by omega) p2 (by omega) (by omega)) 3 0 d1 (k + 1) (n + 6) (by omega) p1 (by omega) (by omega)
theorem l_areRiddles (s : sl c 0 0 0 a) (hC : CL c M) (h : lI M t) (H : ∀ d, pS a M d → R (some (.int 1)) d) : wc g (wp_L_areRiddles g) c [.ref a] R X := by
  refine mk_L_areRiddles_0 s (lX_clean s hC h.1 (fun d pd => ⟨_, rfl, ?_⟩))
  rw [cn_all h.1 h.2.1 _ (Nat.le_refl _)]
  exact ar_7 h H 5 0 d _ _ _ _ _ _ 40 140 (by omega) pd (by omega) (by omega)
end
