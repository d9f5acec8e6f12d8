section
variable {g : Nat → Nat} {R : Option Value → cc_C → Prop} {X : String → cc_C → Prop}
theorem s_isAnsweredBy {c : cc_C} {r q a b n nc : Nat} {l : List Nat} (s : sl c 3 r 0 a) (sL : cV c 1 (r + 4) 0) (hw : cw c) (s2 : sl c 18 q 0 b) (hl : cN c 720 q = n) (hn : n ≤ 6) (hr : Rp n (ofL l) (cS c 760 q)) (hp : ∀ k, ofL l k < n) (hc : cS c 42 (r + 4) 0 = nI nc) (hnc : nc ≤ 8) (hK : ∀ e, e < nc → KvK n (clC c r) e) (H : R (some (.int (bI (aF (clC c r) l nc)))) c) : wc g (wp_X7_isAnsweredBy g) c [.ref a, .ref b] R X := by
  have hN : cN c 42 (r + 4) = nc := by
    unfold cN
    rw [hc, nI_clamp (by omega)]
  have loop : ∀ (m i : Nat), i + m = nc → aF (clC c r) l i = true → ec g tb_X7_isAnsweredBy 2 [some (.ref a), some (.ref b), some (.int (nI i))] [] 0 0 c R X := by
    intro m
    induction m with
    | zero =>
      intro i hi ha
      obtain rfl : i = nc := by omega
      refine mk_X7_isAnsweredBy_2 s s2 (s_size ⟨sL, rfl⟩ ⟨_, rfl, ?_⟩)
      rw [hc]
      rw [ha] at H
      exact ⟨fun _ => H, fun e => absurd (nI_le (Nat.le_refl i) (by omega)) e⟩
    | succ m ih =>
      intro i hi ha
      refine mk_X7_isAnsweredBy_2 s s2 (s_size ⟨sL, rfl⟩ ⟨_, rfl, ?_⟩)
      rw [hc]
      refine ⟨fun e => absurd e (nI_ge (by omega) (by omega)), fun _ => s_get (e := i) ⟨sL, rfl⟩ rfl ?_ (by omega) ⟨_, cA c 5 r i, rfl, el_slot hw sL (by omega), ?_⟩⟩
      · rw [hc]
        exact nI_lt (by omega) (by omega)
      · refine s_isFitBy (el_slot hw sL (by omega)) s2 hl hn hr (fun k _ => hp k) (hK i (by omega)) ⟨_, rfl, ?_⟩
        have e1 : aF (clC c r) l (i + 1) = fitK (clC c r) i l := by
          show (aF (clC c r) l i && fitK (clC c r) i l) = _
          rw [ha]
          rfl
        show (bI (fitK (clC c r) i l) = 0 → _) ∧ (¬ bI (fitK (clC c r) i l) = 0 → _)
        cases hf : fitK (clC c r) i l with
        | false =>
          rw [hf] at e1
          have := aF_mono e1 m
          rw [show i + 1 + m = nc by omega] at this
          rw [this] at H
          exact ⟨fun _ => H, fun e => absurd rfl e⟩
        | true =>
          rw [hf] at e1
          rw [nI_1]
          exact ⟨fun e => absurd e (by decide), fun _ => ih (i + 1) (by omega) e1⟩
  exact mk_X7_isAnsweredBy_0 s s2 (loop nc 0 (by omega) rfl)
/-- rows that the answers of riddle r are written to, by the order q -/
def pAns (r q : Nat) (f i : Nat) : Prop := (f = 124 ∧ i = r) ∨ (f = 520 ∧ i = r) ∨ (f = 760 ∧ i = q)
theorem s_addAnswer {c0 c : cc_C} {r q a b n k : Nat} {l : List Nat} (s : sl c 3 r 0 a) (s2 : sl c 18 q 0 b) (hl : cN c 720 q = n) (h120 : cN c 120 r = n) (hn : n ≤ 6) (hr : Rp n (ofL l) (cS c 760 q)) (hk : cS c 124 r 0 = nI k) (hk2 : k < 1000) (hf : fr (pAns r q) c0 c) (H : ∀ d, fr (pAns r q) c0 d → cS d 760 q = cS c 760 q → cS d 124 r 0 = nI (k + 1) → (0 < k → cS d 520 r = cS c 520 r) → (k = 0 → Rp n (ofL l) (cS d 520 r)) → R none d) : wc g (wp_X7_addAnswer g) c [.ref a, .ref b] R X := by
  have fin : ∀ d, fr (pAns r q) c0 d → cS d 124 r 0 = nI k → cS d 760 q = cS c 760 q → (0 < k → cS d 520 r = cS c 520 r) → (k = 0 → Rp n (ofL l) (cS d 520 r)) → R none (cset d 124 r 0 (cS d 124 r 0 + 1)) := by
    intro d hd h1 h4 h2 h3
    refine H _ (hd.set (Or.inl ⟨rfl, rfl⟩)) ?_ ?_ ?_ ?_
    · rw [show cS (cset d 124 r 0 (cS d 124 r 0 + 1)) 760 q = cS d 760 q from cS_fn (by omega)]
      exact h4
    · rw [cS_at, h1, nI_1]
    · intro h0
      rw [show cS (cset d 124 r 0 (cS d 124 r 0 + 1)) 520 r = cS d 520 r from cS_fn (by omega)]
      exact h2 h0
    · intro h0
      rw [show cS (cset d 124 r 0 (cS d 124 r 0 + 1)) 520 r = cS d 520 r from cS_fn (by omega)]
      exact h3 h0
  have loop : ∀ (m i : Nat) (d : cc_C), i + m = n → k = 0 → fr (pAns r q) c0 d → cA d = cA c → cV d = cV c → cS d 124 r 0 = nI k → cS d 720 q = cS c 720 q → cS d 760 q = cS c 760 q → cS d 120 r = cS c 120 r → Rp i (ofL l) (cS d 520 r) → ec g tb_X7_addAnswer 9 [some (.ref a), some (.ref b), some (.int (nI i))] [] 0 0 d R X := by
    intro m
    induction m with
    | zero =>
      intro i d hi hk0 hd eA eV h1 h7 h76 h12 hrow
      obtain rfl : i = n := by omega
      have hN : cN d 120 r = i := by
        unfold cN
        rw [h12]
        exact h120
      refine mk_X7_addAnswer_9 ⟨by rw [eV]; exact s.1, by rw [eA]; exact s.2⟩ ⟨by rw [eV]; exact s2.1, by rw [eA]; exact s2.2⟩ ⟨fun _ => fin d hd h1 h76 (fun h => by omega) (fun _ => hrow), fun e => absurd ?_ e⟩
      rw [hN]
      exact nI_le (Nat.le_refl i) (by omega)
    | succ m ih =>
      intro i d hi hk0 hd eA eV h1 h7 h76 h12 hrow
      have hN : cN d 120 r = n := by
        unfold cN
        rw [h12]
        exact h120
      have hN7 : cN d 720 q = n := by
        unfold cN
        rw [h7]
        exact hl
      have sd2 : sl d 18 q 0 b := ⟨by rw [eV]; exact s2.1, by rw [eA]; exact s2.2⟩
      refine mk_X7_addAnswer_9 ⟨by rw [eV]; exact s.1, by rw [eA]; exact s.2⟩ sd2 ⟨fun e => absurd e ?_, fun _ => s_placeOf sd2 hN7 hn (h76 ▸ hr) rfl (show i < n by omega) ⟨_, rfl, ?_, ?_⟩⟩
      · rw [hN]
        exact nI_ge (by omega) (by omega)
      · rw [hN]
        exact vp_in_nI (by omega) (by omega)
      · rw [nI_1, nI_clamp (by omega)]
        refine ih (i + 1) _ (by omega) hk0 (hd.set (Or.inr (Or.inl ⟨rfl, rfl⟩))) eA eV ?_ ?_ ?_ ?_ ?_
        · rw [cS_f (by decide)]
          exact h1
        · exact (cS_fn (by omega)).trans h7
        · exact (cS_fn (by omega)).trans h76
        · exact (cS_fn (by omega)).trans h12
        · rw [cS_row]
          intro j hj
          unfold upd
          by_cases hji : j = i
          · rw [if_pos hji, hji]
          · rw [if_neg hji]
            exact hrow j (by omega)
  refine mk_X7_addAnswer_0 s s2 ⟨fun e => loop n 0 c (by omega) ?_ hf rfl rfl hk rfl rfl rfl (fun j hj => absurd hj (Nat.not_lt_zero j)), fun e => ?_⟩
  · rw [hk] at e
    exact (nI_eq (a := k) (b := 0) (by omega) (by omega)).mp e
  · refine fin c hf hk rfl (fun _ => rfl) (fun h => absurd ?_ e)
    rw [hk, h]
    rfl
end
