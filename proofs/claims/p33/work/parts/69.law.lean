/-! the law: its loops -/
section
variable {g : Nat → Nat} {c : cc_C} {M : cc_M} {R : Option Value → cc_C → Prop} {X : String → cc_C → Prop} {a b t : Nat}
theorem wf_mono {t' : Nat} (w : wfM M t) (h : t ≤ t') (h2 : t' ≤ 512) : wfM M t' := by
  obtain ⟨d, rfl⟩ := Nat.le.dest h
  induction d with
  | zero => exact w
  | succ d ih => exact wf_s (ih (by omega) (by omega)) (show t + d < 512 by omega)
/-- the acts and the looks, 26 times -/
theorem lw_316 (eb : b = g 14) (hg : g 15 < 2 ^ 31) : ∀ (m q j : Nat) (c : cc_C) (M : cc_M) (A : Int) (B t : Nat) (o7 o8 o9 : Option Value) (k n : Nat), q + m = 26 → j ≤ 500 + 4 * q → t ≤ 100 + q → B ≤ 1000 + 12000 * q → k ≤ 1000 + 3600 * q → n ≤ 10000 + 21000 * q → pS a M c → lI M t → mon M A B → ec g tb_L_law 316 [some (.ref b), some (.ref a), some (.int (nI j)), some (.int 1), some (.long (Int64.ofInt A)), none, some (.int (nI q)), o7, o8, o9] [] k n c R X := by
  have n1 : ¬ (1 : Int32) = 0 := by decide
  intro m
  induction m with
  | zero =>
    intro q j c M A B t o7 o8 o9 k n hq hj ht hB hk hn pc h hm
    have eq : q = 26 := by omega
    subst eq
    exact mk_L_law_316 eb pc.1 ⟨fun _ => ⟨fun z => absurd z n1, fun _ => ⟨⟨by omega, by omega⟩, l_isThrown pc.1 pc.2 h (fun d p => ⟨_, rfl, fun z => absurd z n1, fun _ => ⟨⟨by omega, by omega⟩, rfl⟩⟩)⟩⟩, fun z => absurd (by decide) z⟩
  | succ m ih =>
    intro q j c M A B t o7 o8 o9 k n hq hj ht hB hk hn pc h hm
    refine mk_L_law_316 eb pc.1 ⟨fun z => absurd z (nI_ge (a := q) (b := 26) (by omega) (by omega)), fun _ => ⟨fun z => absurd z n1, fun _ => ⟨⟨by omega, by omega⟩, l_acts pc.1 pc.2 eb hg (by omega) h (by omega) hm (by omega) (fun N d1 p1 l1 m1 => ⟨_, rfl, fun z => absurd z n1, fun _ => ⟨⟨by omega, by omega⟩, l_areRiddles p1.1 p1.2 l1 (fun d2 p2 => ⟨_, rfl, fun z => absurd z n1, fun _ => ⟨⟨by omega, by omega⟩, l_areIssues p2.1 p2.2 l1 (fun d3 p3 => ⟨_, rfl, fun z => absurd z n1, fun _ => ⟨⟨by omega, by omega⟩, lX_pick (n := 12) eb hg (by omega) (by decide) (by decide) ⟨_, rfl, ?_⟩⟩⟩)⟩⟩)⟩⟩)⟩⟩⟩
    have e4 : nI j + 4 = nI (j + 4) := nI_add j 4
    have hP : pkN g j 12 < 12 := pkN_lt (by decide)
    generalize pkN g j 12 = P at hP m1
    obtain ⟨w, gg, h5, hU, hW⟩ := id l1
    have money : ∀ (dA : Int) (dl : Int64), dl = Int64.ofInt dA → mon N (A + dA) (B + 12000) → lg_cmp (((mP N + (nI (mV N 0).1).toInt64) + (nI (mV N 1).1).toInt64) + (nI (mV N 2).1).toInt64) (Int64.ofInt A + dl) = 0 := fun dA dl hdl m1 => by
      subst hdl
      have b0 := m1.2.2 0 (by decide)
      have b1 := m1.2.2 1 (by decide)
      have b2 := m1.2.2 2 (by decide)
      rw [m1.2.1, l64 (by omega), l64 (by omega), l64 (by omega), ← Int64.ofInt_add, ← Int64.ofInt_add, ← Int64.ofInt_add, ← Int64.ofInt_add]
      have : (A + dA - sm3 fun q => (mV N q).1) + ((mV N 0).1 : Int) + ((mV N 1).1 : Int) + ((mV N 2).1 : Int) = A + dA := by
        show A + dA - (((mV N 0).1 : Int) + ((mV N 1).1 : Int) + ((mV N 2).1 : Int)) + ((mV N 0).1 : Int) + ((mV N 1).1 : Int) + ((mV N 2).1 : Int) = A + dA
        omega
      rw [this]
      exact lg_self _
    have go : ∀ (dA : Int) (dl : Int64) (d : cc_C) (k n : Nat), dl = Int64.ofInt dA → mon N (A + dA) (B + 12000) → k ≤ 1000 + 3600 * (q + 1) → n ≤ 10000 + 21000 * (q + 1) → pS a N d → ec g tb_L_law 316 [some (.ref b), some (.ref a), some (.int (nI j + 4)), some (.int ((1 : Int32) &&& (1 : Int32))), some (.long (Int64.ofInt A + dl)), none, some (.int (nI q + 1)), o7, o8, o9] [] k n d R X := fun dA dl d k n hdl m1 hk hn p => by
      subst hdl
      rw [and11, e4, nI_1, ← Int64.ofInt_add]
      exact ih (q + 1) (j + 4) d N (A + dA) (B + 12000) (t + 1) _ _ _ k n (by omega) (by omega) (by omega) (by omega) hk hn p l1 m1
    refine ⟨fun z => ?_, fun z => ?_⟩
    · have hp : P = 9 := (nI_eq (b := 9) (by omega) (by omega)).mp z
      rw [if_pos hp] at m1
      refine ⟨⟨by omega, by omega⟩, c_press p3.1 p3.2 ⟨_, rfl, ⟨by omega, by omega⟩, q_credits (q := 0) p3.1 p3.2 w (by omega) (fun d4 p4 => ⟨_, rfl, ⟨by omega, by omega⟩, q_credits (q := 1) p4.1 p4.2 w (by omega) (fun d5 p5 => ⟨_, rfl, ⟨by omega, by omega⟩, q_credits (q := 2) p5.1 p5.2 w (by omega) (fun d6 p6 => ⟨_, rfl, fun _ => ?_, fun z => absurd (money 10 10 (by decide) m1) z⟩)⟩)⟩)⟩⟩
      exact go 10 10 d6 _ _ (by decide) m1 (by omega) (by omega) p6
    · have hp : ¬ P = 9 := fun e => z (by rw [e]; rfl)
      rw [if_neg hp] at m1
      refine ⟨⟨by omega, by omega⟩, c_press p3.1 p3.2 ⟨_, rfl, ⟨by omega, by omega⟩, q_credits (q := 0) p3.1 p3.2 w (by omega) (fun d4 p4 => ⟨_, rfl, ⟨by omega, by omega⟩, q_credits (q := 1) p4.1 p4.2 w (by omega) (fun d5 p5 => ⟨_, rfl, ⟨by omega, by omega⟩, q_credits (q := 2) p5.1 p5.2 w (by omega) (fun d6 p6 => ⟨_, rfl, fun _ => ?_, fun z => absurd (money 0 0 (by decide) m1) z⟩)⟩)⟩)⟩⟩
      exact go 0 0 d6 _ _ (by decide) m1 (by omega) (by omega) p6
/-- before: riddles being told; r riddles are there -/
def l2 (M : cc_M) (t r : Nat) : Prop := wfM M t ∧ gM M ∧ mR M = r ∧ mU M = 3 ∧ mW M ≤ 3 ∧ mon M 150 70
theorem z_clue {x k y z u : Int32} : sz M (spClue M x k y z u).2.2 := by
  unfold spClue
  refine ixm_s (fun r _ => ?_)
  split
  · split
    · split
      · exact sz_rfl
      · exact ⟨rfl, rfl, rfl⟩
    · exact sz_rfl
  · exact sz_rfl
theorem m_clue {A : Int} {B : Nat} {x k y z u : Int32} (h : mon M A B) : mon (spClue M x k y z u).2.2 A B := by
  unfold spClue
  refine ixm_m (P := fun N => mon N A B) h (fun r hr => ?_)
  split
  · split
    · split
      · exact h
      · exact mon_same h rfl (fun _ => rfl) rfl
    · exact h
  · exact h
/-- what a clue answers: no number below -78; and there are no more clues than calls -/
theorem clue_ok {r i : Nat} {k y z u : Int32} (w : wfM M t) (hr : r < mR M) (hc : rdC (mX M r) ≤ i) (hi : i < 8) : ¬ vW cIAUS (spClue M (nI r) k y z u) < -78 ∧ rdC (mX (spClue M (nI r) k y z u).2.2 r) ≤ i + 1 := by
  have hb := w.1.1
  have e0 : spClue M (nI r) k y z u = @ite _ (clP (rdN (mX M r)) k y z u) (Classical.propDecidable _) (if rdO (mX M r) = 0 then (if rdC (mX M r) = 8 then (4, 0, M) else (0, nI (rdC (mX M r) + 1), sX M (mR M) (upF (mX M) r (addK (mX M r) k y z u)))) else (3, 0, M)) (2, 0, M) := by
    unfold spClue
    rw [ixo_at (by omega) hr]
    rfl
  by_cases h1 : clP (rdN (mX M r)) k y z u
  · rw [if_pos h1] at e0
    by_cases h2 : rdO (mX M r) = 0
    · rw [if_pos h2, if_neg (by omega)] at e0
      rw [e0]
      refine ⟨fun q => ?_, ?_⟩
      · have q' : nI (rdC (mX M r) + 1) < -78 := q
        exact nI_pos (n := rdC (mX M r) + 1) (by omega) (Int32.lt_trans q' (by decide))
      · show rdC (upF (mX M) r (addK (mX M r) k y z u) r) ≤ i + 1
        rw [upF_at]
        show rdC (mX M r) + 1 ≤ i + 1
        omega
    · rw [if_neg h2] at e0
      rw [e0]
      exact ⟨by show ¬ (-76 : Int32) < -78; decide, by show rdC (mX M r) ≤ i + 1; omega⟩
  · rw [if_neg h1] at e0
    rw [e0]
    exact ⟨by show ¬ (-78 : Int32) < -78; decide, by show rdC (mX M r) ≤ i + 1; omega⟩
/-- the clues of a riddle -/
theorem lw_211 (eb : b = g 14) (hg : g 15 < 2 ^ 31) {r j ps : Nat} (hr : r < 5) (hj : j ≤ 300) (hps : ps = 3 ∨ ps = 4) {A : Int64} {K N t0 : Nat} (hK : K ≤ 900) (hN : N ≤ 9000) (ht : t0 ≤ 90)
    (nx : ∀ (d : cc_C) (M : cc_M) (o7 o8 o9 : Option Value) (k n t : Nat), pS a M d → l2 M t (r + 1) → k ≤ K + 30 → n ≤ N + 600 → t ≤ t0 + 6 → ec g tb_L_law 173 [some (.ref b), some (.ref a), some (.int (nI (j + 32))), some (.int 1), some (.long A), none, some (.int (nI (r + 1))), o7, o8, o9] [] k n d R X) :
    ∀ (m i : Nat) (c : cc_C) (M : cc_M) (o9 : Option Value) (k n t : Nat), i + m = 6 → pS a M c → l2 M t (r + 1) → rdC (mX M r) ≤ i → k ≤ K + 5 * i → n ≤ N + 96 * i → t ≤ t0 + i → ec g tb_L_law 211 [some (.ref b), some (.ref a), some (.int (nI j)), some (.int 1), some (.long A), none, some (.int (nI r)), some (.int (nI ps)), some (.int (nI i)), o9] [] k n c R X := by
  have ej1 : nI j + (1 : Int32) = nI (j + 1) := nI_1 _
  have hv : pkN g (j + 1) 4 < 4 := pkN_lt (by decide)
  have e3 : (3 : Int32) + nI (pkN g (j + 1) 4) = nI (3 + pkN g (j + 1) 4) := nI_add 3 _
  have e32 : nI j + 32 = nI (j + 32) := nI_add j 32
  intro m
  induction m with
  | zero =>
    intro i c M o9 k n t hi pc h hcl hk hn ht1
    have ei : i = 6 := by omega
    subst ei
    refine mk_L_law_211 eb pc.1 ⟨⟨by omega, by omega⟩, ?_⟩
    rw [ej1]
    refine lX_pick (n := 4) eb hg (by omega) (by decide) (by decide) ⟨_, rfl, ?_⟩
    rw [e3]
    refine ⟨fun _ => ?_, fun q => absurd (nI_le (a := 3 + pkN g (j + 1) 4) (b := 6) (by omega) (by omega)) q⟩
    rw [e32, nI_1]
    exact nx c M _ _ _ k n t pc h (by omega) (by omega) (by omega)
  | succ m ih =>
    intro i c M o9 k n t hi pc h hcl hk hn ht1
    obtain ⟨w, gg, h5, hU, hW, hm⟩ := id h
    have e4 : (4 : Int32) * nI i = nI (4 * i) := by
      show nI 4 * nI i = _
      rw [pk_mul]
    have ea : (nI j + (2 : Int32)) + ((4 : Int32) * nI i) = nI (j + 2 + 4 * i) := by
      rw [e4]
      show nI j + nI 2 + nI (4 * i) = _
      rw [nI_add, nI_add]
    have ea1 : nI (j + 2 + 4 * i) + (1 : Int32) = nI (j + 2 + 4 * i + 1) := nI_1 _
    have ea2 : nI (j + 2 + 4 * i) + (2 : Int32) = nI (j + 2 + 4 * i + 2) := nI_add _ 2
    have ea3 : nI (j + 2 + 4 * i) + (3 : Int32) = nI (j + 2 + 4 * i + 3) := nI_add _ 3
    refine mk_L_law_211 eb pc.1 ⟨⟨by omega, by omega⟩, ?_⟩
    rw [ej1, ea, ea1, ea2, ea3]
    refine lX_pick (n := 4) eb hg (by omega) (by decide) (by decide) ⟨_, rfl, ?_⟩
    rw [e3]
    refine ⟨fun _ => ?_, fun _ => ⟨⟨by omega, by omega⟩, lX_pick (n := 8) eb hg (by omega) (by decide) (by decide) ⟨_, rfl, ⟨by omega, by omega⟩, s_charAt (t := 4) (k := pkN g (j + 2 + 4 * i) 8) (by decide) (pkN_lt (by decide)) ⟨_, rfl, ⟨by omega, by omega⟩, lX_pick (n := ps) eb hg (by omega) (by omega) (by omega) ⟨_, rfl, ⟨by omega, by omega⟩, lX_pick (n := ps) eb hg (by omega) (by omega) (by omega) ⟨_, rfl, ⟨by omega, by omega⟩, lX_pick (n := ps) eb hg (by omega) (by omega) (by omega) ⟨_, rfl, ⟨by omega, by omega⟩, ?_⟩⟩⟩⟩⟩⟩⟩
    · rw [e32, nI_1]
      exact nx c M _ _ _ k n t pc h (by omega) (by omega) (by omega)
    · have hch := (ch_ok 4 (by decide) (pkN g (j + 2 + 4 * i) 8) (pkN_lt (by decide)) (pkN_lt (by decide))).2
      refine lX_clue (q := chN 4 (pkN g (j + 2 + 4 * i) 8)) (by omega) pc.1 pc.2 w (fun d p => ⟨_, rfl, ?_⟩)
      obtain ⟨c1, c2⟩ := clue_ok (k := nI (chN 4 (pkN g (j + 2 + 4 * i) 8))) (y := nI (pkN g (j + 2 + 4 * i + 1) ps)) (z := nI (pkN g (j + 2 + 4 * i + 2) ps)) (u := nI (pkN g (j + 2 + 4 * i + 3) ps)) w (by omega : r < mR M) hcl (by omega)
      refine ⟨fun q => absurd q c1, fun _ => ?_⟩
      rw [and11, nI_1]
      have hz := z_clue (M := M) (x := nI r) (k := nI (chN 4 (pkN g (j + 2 + 4 * i) 8))) (y := nI (pkN g (j + 2 + 4 * i + 1) ps)) (z := nI (pkN g (j + 2 + 4 * i + 2) ps)) (u := nI (pkN g (j + 2 + 4 * i + 3) ps))
      exact ih (i + 1) d _ _ _ _ (t + 1) (by omega) p ⟨w_clue w (by omega), g_clue gg w, hz.1.trans h5, hz.2.1.trans hU, by rw [hz.2.2]; exact hW, m_clue hm⟩ c2 (by omega) (by omega) (by omega)
set_option maxRecDepth 100000 in
/-- the riddles -/
theorem lw_173 (eb : b = g 14) (hg : g 15 < 2 ^ 31) : ∀ (m r : Nat) (c : cc_C) (M : cc_M) (o7 o8 o9 : Option Value) (k n t : Nat), r + m = 5 → pS a M c → l2 M t r → k ≤ 70 + 50 * r → n ≤ 800 + 900 * r → t ≤ 10 + 8 * r → ec g tb_L_law 173 [some (.ref b), some (.ref a), some (.int (nI (10 + 32 * r))), some (.int 1), some (.long (Int64.ofInt 150)), none, some (.int (nI r)), o7, o8, o9] [] k n c R X := by
  intro m
  induction m with
  | zero =>
    intro r c M o7 o8 o9 k n t hr pc h hk hn ht
    have er : r = 5 := by omega
    subst er
    obtain ⟨w, gg, h5, hU, hW, hm⟩ := id h
    exact mk_L_law_173 eb pc.1 ⟨fun _ => lw_316 eb hg 26 0 (10 + 32 * 5) c M 150 70 t _ _ _ k n (by omega) (by omega) (by omega) (by omega) (by omega) (by omega) pc ⟨w, gg, h5, hU, hW⟩ hm, fun z => absurd (by decide) z⟩
  | succ m ih =>
    intro r c M o7 o8 o9 k n t hr pc h hk hn ht
    obtain ⟨w, gg, h5, hU, hW, hm⟩ := id h
    refine mk_L_law_173 eb pc.1 ⟨fun z => absurd z (nI_ge (a := r) (b := 5) (by omega) (by omega)), fun _ => ⟨⟨by omega, by omega⟩, lX_pick (n := 2) eb hg (by omega) (by decide) (by decide) ⟨_, rfl, ⟨by omega, by omega⟩, ?_⟩⟩⟩
    have hp : pkN g (10 + 32 * r) 2 < 2 := pkN_lt (by decide)
    generalize pkN g (10 + 32 * r) 2 = ps at hp
    have e3 : (3 : Int32) + nI ps = nI (3 + ps) := nI_add 3 ps
    rw [e3]
    have e : spRiddle M (nI (3 + ps)) = (0, nI (mR M), sX M (mR M + 1) (upF (mX M) (mR M) (newX (3 + ps)))) := by
      unfold spRiddle
      rw [if_neg (fun z => ?_), if_neg (by omega), nI_clamp (by omega)]
      rcases z with z | z
      · exact nI_nlt (a := 3 + ps) (b := 3) (by omega) (by omega) z
      · exact z (nI_le (b := 6) (by omega) (by omega))
    have hw := w_riddle (x := nI (3 + ps)) w (by omega)
    have hgg := g_riddle (x := nI (3 + ps)) gg (by
      rcases (show ps = 0 ∨ ps = 1 by omega) with rfl | rfl
      · exact Or.inl rfl
      · exact Or.inr rfl)
    refine lX_riddle pc.1 pc.2 w (fun d p => ⟨_, rfl, fun _ => ?_, fun q => absurd ?_ q⟩)
    · rw [e] at p hw hgg
      rw [and11]
      refine lw_211 eb hg (r := r) (j := 10 + 32 * r) (ps := 3 + ps) (by omega) (by omega) (by omega) (K := k + 12) (N := n + 224) (t0 := t + 1) (by omega) (by omega) (by omega) (fun d2 M2 p7 p8 p9 k2 n2 t2 q1 q2 q3 q4 q5 => ?_) 6 0 d _ _ _ _ (t + 1) (by omega) p ⟨hw, hgg, by show mR M + 1 = r + 1; omega, hU, hW, mon_same hm rfl (fun _ => rfl) rfl⟩ ?_ (by omega) (by omega) (by omega)
      · have ea : 10 + 32 * r + 32 = 10 + 32 * (r + 1) := by omega
        rw [ea]
        exact ih (r + 1) d2 M2 _ _ _ k2 n2 t2 (by omega) q1 q2 (by omega) (by omega) (by omega)
      · show rdC (upF (mX M) (mR M) (newX (3 + ps)) r) ≤ 0
        rw [h5, upF_at]
        exact Nat.le_refl 0
    · rw [e]
      show nI (mR M) = nI r
      rw [h5]
/-- the customers -/
def l1 (M : cc_M) (t q : Nat) : Prop := wfM M t ∧ gM M ∧ mR M = 0 ∧ mU M = q ∧ mW M ≤ 3 ∧ mP M = 0 ∧ ∀ z, z < q → (mV M z).1 = 30 + 20 * z
theorem lw_111 (eb : b = g 14) (hg : g 15 < 2 ^ 31) : ∀ (m q : Nat) (c : cc_C) (M : cc_M) (o5 o6 o7 o8 o9 : Option Value) (k n t : Nat), q + m = 3 → pS a M c → l1 M t q → k ≤ 44 + 7 * q → n ≤ 400 + 113 * q → t ≤ 4 + 2 * q → ec g tb_L_law 111 [some (.ref b), some (.ref a), some (.int (nI 10)), some (.int 1), some (.int (nI q)), o5, o6, o7, o8, o9] [] k n c R X := by
  intro m
  induction m with
  | zero =>
    intro q c M o5 o6 o7 o8 o9 k n t hq pc h hk hn ht
    have eq : q = 3 := by omega
    subst eq
    obtain ⟨w, gg, h5, hU, hW, hP, hV⟩ := id h
    refine mk_L_law_111 eb pc.1 ⟨fun _ => ?_, fun z => absurd (by decide) z⟩
    have v0 := hV 0 (by decide)
    have v1 := hV 1 (by decide)
    have v2 := hV 2 (by decide)
    have e150 : (150 : Int64) = Int64.ofInt 150 := by decide
    rw [e150]
    refine lw_173 eb hg 5 0 c M _ _ _ k n t (by omega) pc ⟨w, gg, h5, hU, hW, hU, ?_, fun z hz => ?_⟩ (by omega) (by omega) (by omega)
    · rw [hP]
      unfold sm3
      show (0 : Int64) = Int64.ofInt (150 - (((mV M 0).1 : Int) + ((mV M 1).1 : Int) + ((mV M 2).1 : Int)))
      rw [v0, v1, v2]
      rfl
    · have := hV z hz
      omega
  | succ m ih =>
    intro q c M o5 o6 o7 o8 o9 k n t hq pc h hk hn ht
    obtain ⟨w, gg, h5, hU, hW, hP, hV⟩ := id h
    have e20 : (30 : Int32) + ((20 : Int32) * nI q) = nI (30 + 20 * q) := by
      show nI 30 + nI 20 * nI q = _
      rw [pk_mul, nI_add]
    have e : spCust M = (0, nI (mU M), sV M (mU M + 1) (upF (mV M) (mU M) (0, 0, fun _ => false))) := if_neg (by omega)
    have hw := w_cust w (by omega)
    have hgg := g_cust gg
    refine mk_L_law_111 eb pc.1 ⟨fun z => absurd z (nI_ge (a := q) (b := 3) (by omega) (by omega)), fun _ => ⟨⟨by omega, by omega⟩, lX_customer pc.1 pc.2 w (fun d p => ⟨_, rfl, fun _ => ⟨⟨by omega, by omega⟩, ?_⟩, fun z => absurd ?_ z⟩)⟩⟩
    · rw [e] at p hw hgg
      rw [e20]
      have eD : spDep (sV M (mU M + 1) (upF (mV M) (mU M) (0, 0, fun _ => false))) (nI q) (nI (30 + 20 * q)) = (0, nI (0 + (30 + 20 * q)), sP (sV (sV M (mU M + 1) (upF (mV M) (mU M) (0, 0, fun _ => false))) (mU M + 1) (upF (upF (mV M) (mU M) (0, 0, fun _ => false)) q (vC (0, 0, fun _ => false) (0 + (30 + 20 * q))))) (mP M)) := by
        have eV : mV (sV M (mU M + 1) (upF (mV M) (mU M) (0, 0, fun _ => false))) q = (0, 0, fun _ => false) := by
          rw [← hU]
          exact upF_at
        unfold spDep
        rw [ixo_at (by show mU M + 1 < 2 ^ 31; omega) (by show q < mU M + 1; omega)]
        show (if nI (30 + 20 * q) < 1 ∨ ¬ nI (30 + 20 * q) ≤ 2000000000 then _ else _) = _
        rw [if_neg (fun z => by
          rcases z with z | z
          · exact nI_nlt (a := 30 + 20 * q) (b := 1) (by omega) (by omega) z
          · exact z (nI_le (b := 2000000000) (by omega) (by omega))), nI_clamp (by omega), eV]
        exact if_neg (by show ¬ 2147483647 < 0 + (30 + 20 * q); omega)
      have hw2 := w_dep (x := nI q) (y := nI (30 + 20 * q)) hw (by omega)
      have hg2 := g_dep (x := nI q) (y := nI (30 + 20 * q)) hgg hw
      refine lX_deposit p.1 p.2 hw (fun d2 p2 => ⟨_, rfl, fun _ => ?_, fun z => absurd ?_ z⟩)
      · rw [eD] at p2 hw2 hg2
        rw [and11, nI_1]
        refine ih (q + 1) d2 _ _ _ _ _ _ _ _ (t + 1 + 1) (by omega) p2 ⟨hw2, hg2, h5, by show mU M + 1 = q + 1; omega, hW, hP, fun z hz => ?_⟩ (by omega) (by omega) (by omega)
        show (upF (upF (mV M) (mU M) (0, 0, fun _ => false)) q (vC (0, 0, fun _ => false) (0 + (30 + 20 * q))) z).1 = 30 + 20 * z
        by_cases ez : z = q
        · rw [ez, upF_at]
          show 0 + (30 + 20 * q) = 30 + 20 * q
          omega
        · rw [upF_ne ez, upF_ne (by omega)]
          exact hV z (by omega)
      · rw [eD]
        show nI (0 + (30 + 20 * q)) = nI (30 + 20 * q)
        rw [Nat.zero_add]
    · rw [e]
      show nI (mU M) = nI q
      rw [hU]
/-- the own rules -/
def l0 (M : cc_M) (t q : Nat) : Prop := wfM M t ∧ gM M ∧ mR M = 0 ∧ mU M = 0 ∧ mW M ≤ q ∧ mP M = 0
theorem rule_ok {k p x : Int32} {bb : Bool} (w : wfM M t) (h : mW M ≤ 5) : (10 ≤ vW cAS (spRule M k p bb x) ∨ vW cAS (spRule M k p bb x) = -78) ∧ mR (spRule M k p bb x).2.2 = mR M ∧ mU (spRule M k p bb x).2.2 = mU M ∧ mW (spRule M k p bb x).2.2 ≤ mW M + 1 ∧ mP (spRule M k p bb x).2.2 = mP M := by
  by_cases h1 : ruP k p x
  · have e : spRule M k p bb x = (0, nI (10 + mW M), sO M (mW M + 1) (upF (mO M) (mW M) (newO k p x bb))) := by
      unfold spRule
      exact (if_pos h1).trans (if_neg (by omega))
    rw [e]
    exact ⟨Or.inl (nI_le (a := 10) (b := 10 + mW M) (by omega) (by omega)), rfl, rfl, Nat.le_refl _, rfl⟩
  · have e : spRule M k p bb x = (1, 0, M) := by
      unfold spRule
      exact if_neg h1
    rw [e]
    exact ⟨Or.inr rfl, rfl, rfl, Nat.le_add_right _ 1, rfl⟩
theorem lw_15 (eb : b = g 14) (hg : g 15 < 2 ^ 31) : ∀ (m q : Nat) (c : cc_C) (M : cc_M) (o5 o6 o7 o8 o9 : Option Value) (k n t : Nat), q + m = 3 → pS a M c → l0 M t q → k ≤ 5 + 13 * q → n ≤ 17 + 124 * q → t ≤ q → ec g tb_L_law 15 [some (.ref b), some (.ref a), some (.int (nI (1 + 3 * q))), some (.int 1), some (.int (nI q)), o5, o6, o7, o8, o9] [] k n c R X := by
  intro m
  induction m with
  | zero =>
    intro q c M o5 o6 o7 o8 o9 k n t hq pc h hk hn ht
    have eq : q = 3 := by omega
    subst eq
    obtain ⟨w, gg, h5, hU, hW, hP⟩ := id h
    exact mk_L_law_15 eb pc.1 ⟨fun _ => lw_111 eb hg 3 0 c M _ _ _ _ _ k n t (by omega) pc ⟨w, gg, h5, hU, hW, hP, fun z hz => absurd hz (Nat.not_lt_zero z)⟩ (by omega) (by omega) (by omega), fun z => absurd (by decide) z⟩
  | succ m ih =>
    intro q c M o5 o6 o7 o8 o9 k n t hq pc h hk hn ht
    obtain ⟨w, gg, h5, hU, hW, hP⟩ := id h
    have e1 : nI (1 + 3 * q) + (1 : Int32) = nI (1 + 3 * q + 1) := nI_1 _
    have e2 : nI (1 + 3 * q) + (2 : Int32) = nI (1 + 3 * q + 2) := nI_add _ 2
    have e3 : nI (1 + 3 * q) + 3 = nI (1 + 3 * (q + 1)) := by
      rw [show 1 + 3 * (q + 1) = 1 + 3 * q + 3 by omega]
      exact nI_add _ 3
    have fin : ∀ (bb : Bool) (kk pp x : Int32) (d : cc_C) (o5 : Option Value), pS a (spRule M kk pp bb x).2.2 d → ec g tb_L_law 15 [some (.ref b), some (.ref a), some (.int (nI (1 + 3 * q) + 3)), some (.int ((1 : Int32) &&& (1 : Int32))), some (.int (nI q + 1)), o5, o6, o7, o8, o9] [] (k + 13) (n + 124) d R X := fun bb kk pp x d o5 p => by
      obtain ⟨-, r1, r2, r3, r4⟩ := rule_ok (k := kk) (p := pp) (x := x) (bb := bb) w (by omega)
      rw [and11, e3, nI_1]
      exact ih (q + 1) d _ _ _ _ _ _ _ _ (t + 1) (by omega) p ⟨w_rule w (by omega), g_rule gg, r1.trans h5, r2.trans hU, by omega, r4.trans hP⟩ (by omega) (by omega) (by omega)
    refine mk_L_law_15 eb pc.1 ⟨fun z => absurd z (nI_ge (a := q) (b := 3) (by omega) (by omega)), fun _ => ⟨⟨by omega, by omega⟩, ?_⟩⟩
    rw [e1, e2]
    refine lX_pick (n := 4) eb hg (by omega) (by decide) (by decide) ⟨_, rfl, ⟨by omega, by omega⟩, s_charAt (t := 2) (k := pkN g (1 + 3 * q) 4) (by decide) (pkN_lt (by decide)) ⟨_, rfl, ⟨by omega, by omega⟩, lX_pick (n := 3) eb hg (by omega) (by decide) (by decide) ⟨_, rfl, ⟨by omega, by omega⟩, s_charAt (t := 3) (k := pkN g (1 + 3 * q + 1) 3) (by decide) (pkN_lt (by decide)) ⟨_, rfl, ⟨by omega, by omega⟩, lX_pick (n := 2) eb hg (by omega) (by decide) (by decide) ⟨_, rfl, ?_⟩⟩⟩⟩⟩
    have c1 := (ch_ok 2 (by decide) (pkN g (1 + 3 * q) 4) (Nat.lt_of_lt_of_le (pkN_lt (by decide)) (by decide : 4 ≤ 8)) (pkN_lt (by decide))).2
    have c2 := (ch_ok 3 (by decide) (pkN g (1 + 3 * q + 1) 3) (Nat.lt_of_lt_of_le (pkN_lt (by decide)) (by decide : 3 ≤ 8)) (pkN_lt (by decide))).2
    refine ⟨fun _ => ⟨⟨by omega, by omega⟩, lX_pick (n := 3) eb hg (by omega) (by decide) (by decide) ⟨_, rfl, ⟨by omega, by omega⟩, lX_rule (q := chN 2 (pkN g (1 + 3 * q) 4)) (qp := chN 3 (pkN g (1 + 3 * q + 1) 3)) (b := true) (by omega) (by omega) pc.1 pc.2 w (fun d p => ⟨_, rfl, fun _ => fin true _ _ _ d _ p, fun z => ⟨fun _ => fin true _ _ _ d _ p, fun z2 => ?_⟩⟩)⟩⟩, fun _ => ⟨⟨by omega, by omega⟩, lX_pick (n := 3) eb hg (by omega) (by decide) (by decide) ⟨_, rfl, ⟨by omega, by omega⟩, lX_rule (q := chN 2 (pkN g (1 + 3 * q) 4)) (qp := chN 3 (pkN g (1 + 3 * q + 1) 3)) (b := false) (by omega) (by omega) pc.1 pc.2 w (fun d p => ⟨_, rfl, fun _ => fin false _ _ _ d _ p, fun z => ⟨fun _ => fin false _ _ _ d _ p, fun z2 => ?_⟩⟩)⟩⟩⟩
    · exfalso
      rcases (rule_ok (k := nI (chN 2 (pkN g (1 + 3 * q) 4))) (p := nI (chN 3 (pkN g (1 + 3 * q + 1) 3))) (x := (1 : Int32) + nI (pkN g (1 + 3 * q + 2) 3)) (bb := true) w (by omega)).1 with e | e
      · exact z e
      · exact z2 e
    · exfalso
      rcases (rule_ok (k := nI (chN 2 (pkN g (1 + 3 * q) 4))) (p := nI (chN 3 (pkN g (1 + 3 * q + 1) 3))) (x := (1 : Int32) + nI (pkN g (1 + 3 * q + 2) 3)) (bb := false) w (by omega)).1 with e | e
      · exact z e
      · exact z2 e
end
