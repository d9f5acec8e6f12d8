/-! the act of a fall, that of asking, and all of them -/
section
variable {g : Nat → Nat} {c : cc_C} {M : cc_M} {R : Option Value → cc_C → Prop} {X : String → cc_C → Prop} {a b t r i j B : Nat} {A : Int} {a2 a3 a4 a5 : Int32} {o6 o7 o8 o9 : Option Value}
def sdV (M : cc_M) (u : Nat) : Int32 := if u < mW M then bI (mO M u).2.2.2.2 else -77
theorem q_sd (s : sl c 0 0 0 a) (hC : CL c M) (w : wfM M t) {u : Nat} (hu : u < 900) (H : ∀ d, pS a M d → R (some (.int (sdV M u))) d) : wc g (wp_L_stands g) c [.ref a, .int (nI (10 + u))] R X := by
  unfold sdV at H
  by_cases h : u < mW M
  · rw [if_pos h] at H
    refine q_stands s hC w (by omega) (fun d p => ?_)
    rw [decide_eq_false (by omega), Bool.false_or, show 10 + u - 10 = u by omega]
    exact H d p
  · rw [if_neg h] at H
    exact q_stands_no s hC w (by omega) (by omega) H
theorem ac_low (eb : b = g 14) {N : cc_M} {x z u v : Int32} {k n : Nat} (hk : k ≤ 10) (hn : n ≤ 100) (p : pS a N c) (hz : z < 0) (hu : u = 1 → v ≤ 0) (H : R (some (.int 1)) c) : ec g tb_L_acts 479 [some (.ref a), some (.ref b), some (.int a2), some (.int a3), some (.int a4), some (.int a5), some (.int x), some (.int u), some (.int v), some (.int z)] [.int 0] k n c R X := by
  have L494 : ec g tb_L_acts 494 [some (.ref a), some (.ref b), some (.int a2), some (.int a3), some (.int a4), some (.int a5), some (.int x), some (.int u), some (.int v), some (.int z)] [.int 0] k n c R X :=
    mk_L_acts_494 p.1 eb (mk_L_acts_495 p.1 eb ⟨fun _ => ⟨fun _ => ⟨⟨by omega, by omega⟩, H⟩, fun q => absurd hz q⟩, fun q => absurd rfl q⟩)
  exact mk_L_acts_479 p.1 eb ⟨fun q => ⟨fun _ => L494, fun q2 => absurd (hu q) q2⟩, fun _ => L494⟩
theorem ac_fall (s : sl c 0 0 0 a) (hC : CL c M) (eb : b = g 14) (h : lI M t) (ht : t < 500) (hm : mon M A B) (hB : B + 13000 ≤ 2147483647) (hi : i < 4) (H : ∀ N d, pS a N d → lI N (t + 1) → mon N A (B + 12000) → R (some (.int 1)) d) : wc g (wp_L_stands g) c [.ref a, .int ((10 : Int32) + nI i)] (fun v52 c32 => ∃ x36 : Int32, v52 = some (.int x36) ∧ wc g (wp_L_counterexample g) c32 [.ref a, .int ((10 : Int32) + nI i)] (fun v50 c37 => ∃ x41 : Int32, v50 = some (.int x41) ∧ wc g (wp_L_fall g) c37 [.ref a, .int ((10 : Int32) + nI i)] (fun v48 c42 => ∃ x46 : Int32, v48 = some (.int x46) ∧ ((x46 < 0 → ec g tb_L_acts 479 [some (.ref a), some (.ref b), some (.int a2), some (.int a3), some (.int a4), some (.int a5), some (.int ((10 : Int32) + nI i)), some (.int x36), some (.int x41), some (.int x46)] [.int (0 : Int32)] 6 36 c42 R X) ∧ (¬ x46 < 0 → ec g tb_L_acts 479 [some (.ref a), some (.ref b), some (.int a2), some (.int a3), some (.int a4), some (.int a5), some (.int ((10 : Int32) + nI i)), some (.int x36), some (.int x41), some (.int x46)] [.int (1 : Int32)] 6 36 c42 R X))) (fun _ _ => False)) (fun _ _ => False)) (fun _ _ => False) := by
  have hh := h
  obtain ⟨w, gg, h5, hU, hW⟩ := h
  have hb12 := w.2.2.1.1
  have e10 : (10 : Int32) + nI i = nI (10 + i) := nI_add 10 i
  rw [e10]
  have hl := l_nx hh (w_fall (x := nI (10 + i)) w (by omega)) (g_fall gg w) (z_fall gg w)
  have hmN := m_fall (x := nI (10 + i)) hm w (by omega)
  refine q_sd s hC w (by omega) (fun d1 p1 => ⟨_, rfl, q_cex p1.1 p1.2 w (by omega) (fun d2 p2 => ⟨_, rfl, lX_fall p2.1 p2.2 w (fun d3 p3 => ⟨_, rfl, ?_⟩)⟩)⟩)
  by_cases hiW : i < mW M
  · by_cases hz : cexO (mO M i) = 0 ∨ (mO M i).2.2.2.2 = false
    · have e : spFall M (nI (10 + i)) = (2, 0, M) := by
        unfold spFall
        rw [ixw_at (by omega) hiW]
        exact if_pos hz
      have HH : R (some (.int 1)) d3 := H _ d3 p3 hl hmN
      rw [e] at p3 ⊢
      refine ⟨fun _ => ac_low eb (by omega) (by omega) p3 (show (-76 : Int32) < 0 by decide) (fun q => ?_) HH, fun q => absurd (show (-76 : Int32) < 0 by decide) q⟩
      unfold sdV at q
      rw [if_pos hiW] at q
      unfold cxV
      rw [if_pos hiW]
      rcases hz with z | z
      · rw [if_pos z]
        decide
      · rw [z] at q
        exact absurd q (by decide)
    · have e : spFall M (nI (10 + i)) = (0, nI (mFalls (mFall0 M i) (10 + i) (mI M)).2, mLose (mFalls (mFall0 M i) (10 + i) (mI M)).1 (10 + i) (mR M)) := by
        unfold spFall
        rw [ixw_at (by omega) hiW]
        exact if_neg hz
      have hc := falls_cnt (M := mFall0 M i) (ru := 10 + i) (mI M)
      obtain ⟨f1, f2, f3, f4, f5⟩ := g_fallen (u := i) gg w
      have h31 := cex_31 (mO M i)
      have z0 : ¬ cexO (mO M i) = 0 := fun q => hz (Or.inl q)
      have zs : (mO M i).2.2.2.2 = true := by
        cases q : (mO M i).2.2.2.2 with
        | true => rfl
        | false => exact absurd (Or.inr q) hz
      rw [e] at p3 hl hmN ⊢
      have ev : vW cIU (0, nI (mFalls (mFall0 M i) (10 + i) (mI M)).2, mLose (mFalls (mFall0 M i) (10 + i) (mI M)).1 (10 + i) (mR M)) = nI (mFalls (mFall0 M i) (10 + i) (mI M)).2 := rfl
      rw [ev]
      have esd : sdV M i = 1 := by
        unfold sdV
        rw [if_pos hiW, zs]
        rfl
      have ecx : cxV M i = nI (cexO (mO M i)) := by
        unfold cxV
        rw [if_pos hiW, if_neg z0]
      refine ⟨fun q => absurd q (nI_pos (by omega)), fun _ => mk_L_acts_479 p3.1 eb ⟨fun _ => ⟨fun q => absurd q ?_, fun _ => mk_L_acts_495 p3.1 eb ⟨fun _ => ⟨fun q => absurd q (nI_pos (by omega)), fun _ => ⟨⟨by omega, by omega⟩, q_stands p3.1 p3.2 hl.1 (by show 10 + i < 10 + mW _; rw [f3]; omega) (fun d4 p4 => ⟨_, rfl, fun _ => ⟨⟨by omega, by omega⟩, q_indexed p4.1 p4.2 hl.1 (by show 10 + i < 10 + mW _; rw [f3]; omega) (fun d5 p5 => ⟨_, rfl, fun _ => ⟨⟨by omega, by omega⟩, H _ d5 p5 hl hmN⟩, fun q => absurd ?_ q⟩)⟩, fun q => absurd ?_ q⟩)⟩⟩, fun q => absurd rfl q⟩⟩, fun q => absurd esd q⟩⟩
      · rw [ecx]
        exact nI_nle (Nat.pos_of_ne_zero z0) h31
      · have := ix_no (M := mLose (mFalls (mFall0 M i) (10 + i) (mI M)).1 (10 + i) (mR M)) (ru := 10 + i) (fun r hr => by
          cases q : rdLn (mX (mLose (mFalls (mFall0 M i) (10 + i) (mI M)).1 (10 + i) (mR M)) r) (10 + i) with
          | false => rfl
          | true =>
            have h2 := (rdG_ln (f1.1 r hr) q).2
            rw [f4, upF_at] at h2
            cases h2) (mI (mLose (mFalls (mFall0 M i) (10 + i) (mI M)).1 (10 + i) (mR M)))
        rw [this]
        rfl
      · rw [decide_eq_false (by omega), Bool.false_or, show 10 + i - 10 = i by omega, f4, upF_at]
        rfl
  · have e : spFall M (nI (10 + i)) = (1, 0, M) := by
      unfold spFall
      rw [ixw_ge (by omega) (by omega)]
      rfl
    have HH : R (some (.int 1)) d3 := H _ d3 p3 hl hmN
    rw [e] at p3 ⊢
    refine ⟨fun _ => ac_low eb (by omega) (by omega) p3 (show (-77 : Int32) < 0 by decide) (fun q => ?_) HH, fun q => absurd (show (-77 : Int32) < 0 by decide) q⟩
    unfold sdV at q
    rw [if_neg hiW] at q
    exact absurd q (by decide)
theorem l_mono (h : lI M t) (ht : t < 512) : lI M (t + 1) := ⟨wf_s h.1 ht, h.2⟩
theorem ac_ask (s : sl c 0 0 0 a) (hC : CL c M) (h : lI M t) (ht : t < 500) (hm : mon M A B) (hr : r < 5) (H : ∀ N d, pS a N d → lI N (t + 1) → mon N A (B + 12000) → R (some (.int 1)) d) : wc g (wp_L_answers g) c [.ref a, .int (nI r)] (fun v30 c16 => ∃ x20 : Int32, v30 = some (.int x20) ∧ ((x20 < 0 → R (some (.int (0 : Int32))) c16) ∧ (¬ x20 < 0 → wc g (wp_L_counterexample g) c16 [.ref a, .int (10 : Int32)] (fun v27 c21 => ∃ x25 : Int32, v27 = some (.int x25) ∧ ((x25 < (-77 : Int32) → R (some (.int (0 : Int32))) c21) ∧ (¬ x25 < (-77 : Int32) → R (some (.int (1 : Int32))) c21))) (fun _ _ => False)))) (fun _ _ => False) := by
  have hh := h
  obtain ⟨w, gg, h5, hU, hW⟩ := h
  have hr5 : r < mR M := by omega
  refine q_answers s hC w hr5 (fun d1 p1 => ⟨_, rfl, fun q => absurd q (nI_pos (rdA_31 (gg.1 r hr5).1)), fun _ => q_cex (u := 0) p1.1 p1.2 w (by omega) (fun d2 p2 => ⟨_, rfl, fun q => absurd q ?_, fun _ => H _ d2 p2 (l_mono hh (by omega)) (mon_le hm (by omega))⟩)⟩)
  unfold cxV
  by_cases h0 : 0 < mW M
  · rw [if_pos h0]
    by_cases h1 : cexO (mO M 0) = 0
    · rw [if_pos h1]
      decide
    · rw [if_neg h1]
      intro q
      exact nI_pos (cex_31 (mO M 0)) (Int32.lt_trans q (by decide))
  · rw [if_neg h0]
    decide
theorem l_acts (s : sl c 0 0 0 a) (hC : CL c M) (eb : b = g 14) (hg : g 15 < 2 ^ 31) (hj : j < 1000) (h : lI M t) (ht : t < 500) (hm : mon M A B) (hB : B + 13000 ≤ 2147483647) (H : ∀ N d, pS a N d → lI N (t + 1) → mon N (A + (if pkN g j 12 = 9 then 10 else 0)) (B + 12000) → R (some (.int 1)) d) : wc g (wp_L_acts g) c [.ref a, .ref b, .int (nI j), .int (5 : Int32)] R X := by
  have ej1 : nI j + (1 : Int32) = nI (j + 1) := nI_1 _
  have ej2 : nI j + (2 : Int32) = nI (j + 2) := nI_add j 2
  have hr : pkN g (j + 1) 5 < 5 := pkN_lt (by decide)
  have hi : pkN g (j + 2) 4 < 4 := pkN_lt (by decide)
  refine mk_L_acts_0 s eb ?_
  rw [ej1, ej2]
  refine lX_pick (n := 5) eb hg (by omega) (by decide) (by decide) ⟨_, rfl, lX_pick (n := 4) eb hg (by omega) (by decide) (by decide) ⟨_, rfl, lX_pick (n := 12) eb hg (by omega) (by decide) (by decide) ⟨_, rfl, ?_⟩⟩⟩
  have hP : pkN g j 12 < 12 := pkN_lt (by decide)
  generalize pkN g (j + 1) 5 = r at hr
  generalize pkN g (j + 2) 4 = i at hi
  generalize pkN g j 12 = P at hP H
  have n3 : ¬ (3 : Int32) = 0 := by decide
  have H0 : ¬ P = 9 → ∀ N d, pS a N d → lI N (t + 1) → mon N A (B + 12000) → R (some (.int 1)) d := fun hp N d p l m => H N d p l (by rw [if_neg hp, Int.add_zero]; exact m)
  have H9 : P = 9 → ∀ N d, pS a N d → lI N (t + 1) → mon N (A + 10) (B + 12000) → R (some (.int 1)) d := fun hp N d p l m => H N d p l (by rw [if_pos hp]; exact m)
  clear H
  have eP : ∀ q, q < 12 → (nI P = nI q ↔ P = q) := fun q hq => nI_eq (by omega) (by omega)
  refine ⟨fun q => ?_, fun q0 => ⟨fun q => ?_, fun q1 => ⟨fun q => ?_, fun q2 => ⟨fun q => ?_, fun q3 => ⟨fun q => ?_, fun q4 => ⟨fun q => ?_, fun q5 => ⟨fun q => ?_, fun q6 => ⟨fun q => ⟨n3, ?_⟩, fun q7 => ⟨fun q => ⟨n3, ?_⟩, fun q8 => ⟨fun q => ⟨n3, ?_⟩, fun q9 => ⟨fun q => ?_, fun q10 => ?_⟩⟩⟩⟩⟩⟩⟩⟩⟩⟩⟩
  · have := (eP 0 (by decide)).mp q
    exact ac_prove s hC eb h (by omega) hm hr (H0 (by omega))
  · have := (eP 1 (by decide)).mp q
    exact ac_prove s hC eb h (by omega) hm hr (H0 (by omega))
  · have := (eP 2 (by decide)).mp q
    exact ac_prove s hC eb h (by omega) hm hr (H0 (by omega))
  · have := (eP 3 (by decide)).mp q
    exact ac_issue s hC h ht hm (H0 (by omega))
  · have := (eP 4 (by decide)).mp q
    exact ac_put s hC eb h (by omega) hm hr hi (H0 (by omega))
  · have := (eP 5 (by decide)).mp q
    exact ac_put s hC eb h (by omega) hm hr hi (H0 (by omega))
  · have := (eP 6 (by decide)).mp q
    exact ac_publish s hC h ht hm hr hi (H0 (by omega))
  · have := (eP 7 (by decide)).mp q
    exact ac_subscribe s hC h ht hm hr hi (H0 (by omega))
  · have := (eP 8 (by decide)).mp q
    exact ac_buy s hC h ht hm hB hr hi (H0 (by omega))
  · have := (eP 9 (by decide)).mp q
    exact ac_deposit s hC h ht hm hB hr (H9 this)
  · have := (eP 10 (by decide)).mp q
    exact ac_fall s hC eb h ht hm hB hi (H0 (by omega))
  · have : ¬ P = 9 := fun z => q9 ((eP 9 (by decide)).mpr z)
    exact ac_ask s hC h ht hm hr (H0 this)
end
