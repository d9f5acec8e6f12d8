section
variable {g : Nat → Nat} {R : Option Value → cc_C → Prop} {X : String → cc_C → Prop}
theorem m_ansLoop {c0 : cc_C} {r a n nc : Nat} {x1 : Int32} (s0 : sl c0 21 0 0 a) (o0 : ansOkM c0 r n nc) : ∀ (m : Nat) (c : cc_C) (l : List Nat) (k : Nat) (o3 o4 : Option Value), chain n m l = true → k + m < 900 → fr pAM c0 c → cS c 874 0 0 = nI r → cS c 875 0 0 = nI k → Rp n (ofL l) (cS c 880 26) → (∀ d, fr pAM c0 d → cS d 875 0 0 = nI (k + cntL n (fun l => aF (clM c0 r) l nc) m l) → (0 < k → cS d 880 27 = cS c 880 27) → (k = 0 → 0 < cntL n (fun l => aF (clM c0 r) l nc) m l → Rp n (ofL (fstL n (fun l => aF (clM c0 r) l nc) m l)) (cS d 880 27)) → R (some (.int (nI (k + cntL n (fun l => aF (clM c0 r) l nc) m l)))) d) → ec g tb_X9_answersOf 25 [some (.ref a), some (.int x1), some (.int 1), o3, o4] [] 0 0 c R X := by
  intro m
  induction m with
  | zero =>
    intro c l k o3 o4 hch hk2 hf h4 h5 hr H
    have hn3 := o0.2.2.2.1
    have hn6 := o0.2.2.1
    have hr20 := o0.1
    have hlt := chain_lt (show 0 < n by omega) hch
    have e0 := chain_0 hch
    have oc := ansOkM_fr hf pAM_no o0
    have sc := hf.sl s0
    have eK : clM c r = clM c0 r := clM_fr hf pAM_no
    refine mk_X9_answersOf_25 sc ⟨fun e => absurd e (by decide), fun _ => m_fitsAll sc oc h4 hr hlt ⟨_, rfl, ?_⟩⟩
    rw [eK]
    have next : ∀ (d : cc_C) (k' b : Nat) (x4 : Int32), b = 0 ∨ b = 1 → fr pAM c0 d → cS d 874 0 0 = nI r → cS d 875 0 0 = nI k' → Rp n (ofL l) (cS d 880 26) → (∀ e, fr pAM c0 e → cS e 875 0 0 = nI (k' + b) → cS e 880 27 = cS d 880 27 → R (some (.int (nI (k' + b)))) e) → ec g tb_X9_answersOf 82 [some (.ref a), some (.int x1), some (.int 1), some (.int (nI b)), some (.int x4)] [] 0 0 d R X := by
      intro d k' b x4 hb hd h4 h5 hr hR
      have step : ∀ x : Int32, nI k' + x = nI (k' + b) → (vp_in (cS (cset d 875 0 0 ((cS d 875 0 0) + x)) 874 0 0) 20 ∧ wc g (wp_X9_goesOn g) (cset d 875 0 0 ((cS d 875 0 0) + x)) [.ref a, .int (cS (cset d 875 0 0 ((cS d 875 0 0) + x)) 880 0 ((cS (cset d 875 0 0 ((cS d 875 0 0) + x)) 874 0 0)).toNatClampNeg)] (fun v c6 => ∃ x11 : Int32, v = some (.int x11) ∧ ec g tb_X9_answersOf 25 [some (.ref a), some (.int x1), some (.int x11), some (.int (nI b)), some (.int x4)] [] 0 0 c6 R X) X) := by
        intro x hx
        rw [h5, hx]
        have hd2 : fr pAM c0 (cset d 875 0 0 (nI (k' + b))) := hd.set (Or.inl ⟨Or.inr rfl, rfl⟩)
        have e4 : cS (cset d 875 0 0 (nI (k' + b))) 874 0 0 = nI r := (cS_f (by decide)).trans h4
        have e0' : cS (cset d 875 0 0 (nI (k' + b))) 880 0 r = nI n := (cS_f (by decide)).trans (ansOkM_fr hd pAM_no o0).2.1
        rw [e4, nI_clamp (by omega)]
        refine ⟨vp_in_nI hr20 (by omega), m_goesOn (hd2.sl s0) e0' (by omega) hn6 (by rw [cS_fn (by omega)]; exact hr) (fun k _ => by have := hlt k; omega) (fun _ => ⟨_, rfl, mk_X9_answersOf_25 (hd2.sl s0) ⟨fun _ => ?_, fun e => absurd rfl e⟩⟩) (fun p' hp' => ?_)⟩
        · rw [cS_at]
          exact hR _ hd2 (cS_at _ _ _ _ _) (cS_fn (by omega))
        · rw [e0] at hp'
          cases hp'
      refine mk_X9_answersOf_82 (hd.sl s0) ⟨fun e => ?_, fun e => ?_⟩
      · refine step 0 ?_
        have : b = 0 := hb.resolve_right (fun q => by rw [q] at e; exact absurd e (by decide))
        rw [this]
        exact nI_add k' 0
      · refine step 1 ?_
        have : b = 1 := hb.resolve_left (fun q => by rw [q] at e; exact absurd rfl e)
        rw [this]
        exact nI_add k' 1
    cases hP : aF (clM c0 r) l nc with
    | false =>
      refine mk_X9_answersOf_37 sc ⟨fun _ => next c k 0 _ (Or.inl rfl) hf h4 h5 hr (fun e h1 h2 h3 => ?_), fun e => absurd rfl e⟩
      have ec0 : cntL n (fun l => aF (clM c0 r) l nc) 0 l = 0 := by
        unfold cntL
        rw [hP]
        rfl
      rw [ec0] at H
      exact H e h1 h2 (fun _ => h3) (fun _ h => absurd h (Nat.lt_irrefl 0))
    | true =>
      have ec0 : cntL n (fun l => aF (clM c0 r) l nc) 0 l = 1 := by
        unfold cntL
        rw [hP]
        rfl
      have ef0 : fstL n (fun l => aF (clM c0 r) l nc) 0 l = l := by
        unfold fstL
        rw [hP]
        rfl
      rw [ec0, ef0] at H
      by_cases hk0 : k = 0
      · subst hk0
        refine m_found n 0 c (by omega) sc oc h4 h5 hr (fun i hi => absurd hi (Nat.not_lt_zero i)) hf (fun d hd h5' h4' h26 h27 => next d 0 1 _ (Or.inr rfl) hd h4' h5' h26 (fun e h1 h2 h3 => H e h1 h2 (fun h => absurd h (Nat.lt_irrefl 0)) (fun _ _ => by rw [h3]; exact h27)))
      · refine mk_X9_answersOf_37 sc ⟨fun e => absurd e (by decide), fun _ => ⟨fun e => absurd ?_ hk0, fun _ => next c k 1 _ (Or.inr rfl) hf h4 h5 hr (fun e h1 h2 h3 => H e h1 h2 (fun _ => h3) (fun h => absurd h hk0))⟩⟩
        rw [h5] at e
        exact (nI_eq (a := k) (b := 0) (by omega) (by omega)).mp e
  | succ m ih =>
    intro c l k o3 o4 hch hk2 hf h4 h5 hr H
    have hn3 := o0.2.2.2.1
    have hn6 := o0.2.2.1
    have hr20 := o0.1
    have hlt := chain_lt (show 0 < n by omega) hch
    obtain ⟨p', e0, e1, hch'⟩ := chain_s hch
    have oc := ansOkM_fr hf pAM_no o0
    have sc := hf.sl s0
    have eK : clM c r = clM c0 r := clM_fr hf pAM_no
    refine mk_X9_answersOf_25 sc ⟨fun e => absurd e (by decide), fun _ => m_fitsAll sc oc h4 hr hlt ⟨_, rfl, ?_⟩⟩
    rw [eK]
    have next : ∀ (d : cc_C) (k' b : Nat) (x4 : Int32), b = 0 ∨ b = 1 → k' + b + m < 900 → fr pAM c0 d → cS d 874 0 0 = nI r → cS d 875 0 0 = nI k' → Rp n (ofL l) (cS d 880 26) → (∀ e, fr pAM c0 e → cS e 875 0 0 = nI (k' + b + cntL n (fun l => aF (clM c0 r) l nc) m (lsP n p')) → (0 < k' + b → cS e 880 27 = cS d 880 27) → (k' + b = 0 → 0 < cntL n (fun l => aF (clM c0 r) l nc) m (lsP n p') → Rp n (ofL (fstL n (fun l => aF (clM c0 r) l nc) m (lsP n p'))) (cS e 880 27)) → R (some (.int (nI (k' + b + cntL n (fun l => aF (clM c0 r) l nc) m (lsP n p'))))) e) → ec g tb_X9_answersOf 82 [some (.ref a), some (.int x1), some (.int 1), some (.int (nI b)), some (.int x4)] [] 0 0 d R X := by
      intro d k' b x4 hb hkb hd h4 h5 hr hR
      have step : ∀ x : Int32, nI k' + x = nI (k' + b) → (vp_in (cS (cset d 875 0 0 ((cS d 875 0 0) + x)) 874 0 0) 20 ∧ wc g (wp_X9_goesOn g) (cset d 875 0 0 ((cS d 875 0 0) + x)) [.ref a, .int (cS (cset d 875 0 0 ((cS d 875 0 0) + x)) 880 0 ((cS (cset d 875 0 0 ((cS d 875 0 0) + x)) 874 0 0)).toNatClampNeg)] (fun v c6 => ∃ x11 : Int32, v = some (.int x11) ∧ ec g tb_X9_answersOf 25 [some (.ref a), some (.int x1), some (.int x11), some (.int (nI b)), some (.int x4)] [] 0 0 c6 R X) X) := by
        intro x hx
        rw [h5, hx]
        have hd2 : fr pAM c0 (cset d 875 0 0 (nI (k' + b))) := hd.set (Or.inl ⟨Or.inr rfl, rfl⟩)
        have e4 : cS (cset d 875 0 0 (nI (k' + b))) 874 0 0 = nI r := (cS_f (by decide)).trans h4
        have e0' : cS (cset d 875 0 0 (nI (k' + b))) 880 0 r = nI n := (cS_f (by decide)).trans (ansOkM_fr hd pAM_no o0).2.1
        rw [e4, nI_clamp (by omega)]
        refine ⟨vp_in_nI hr20 (by omega), m_goesOn (hd2.sl s0) e0' (by omega) hn6 (by rw [cS_fn (by omega)]; exact hr) (fun k _ => by have := hlt k; omega) (fun h => ?_) (fun p'' hp' e he hre => ⟨_, rfl, ?_⟩)⟩
        · rw [e0] at h
          cases h
        · rw [e0] at hp'
          cases hp'
          have hP : ∀ i f, i ≠ 26 → ¬ (f = 880 ∧ i = 26) := fun i f h q => h q.2
          refine ih e (lsP n p') (k' + b) _ _ hch' (by omega) (hd2.trans (he.mono (fun f i h => Or.inr ⟨h.1, Or.inl h.2⟩))) ?_ ?_ (Rp_ls hre) (fun e' h1 h2 h3 h4 => hR e' h1 h2 (fun h => (h3 h).trans ?_) h4)
          · rw [he.row (show ¬ (874 = 880 ∧ 0 = 26) by omega)]
            exact e4
          · rw [he.row (show ¬ (875 = 880 ∧ 0 = 26) by omega)]
            exact cS_at _ _ _ _ _
          · rw [he.row (show ¬ (880 = 880 ∧ 27 = 26) by omega)]
            exact cS_fn (by omega)
      refine mk_X9_answersOf_82 (hd.sl s0) ⟨fun e => ?_, fun e => ?_⟩
      · refine step 0 ?_
        have : b = 0 := hb.resolve_right (fun q => by rw [q] at e; exact absurd e (by decide))
        rw [this]
        exact nI_add k' 0
      · refine step 1 ?_
        have : b = 1 := hb.resolve_left (fun q => by rw [q] at e; exact absurd rfl e)
        rw [this]
        exact nI_add k' 1
    cases hP : aF (clM c0 r) l nc with
    | false =>
      have e2 : cntL n (fun l => aF (clM c0 r) l nc) (m + 1) l = cntL n (fun l => aF (clM c0 r) l nc) m (lsP n p') := by
        conv => lhs; unfold cntL
        rw [hP, e1, if_neg (by decide), Nat.zero_add]
      have e3 : fstL n (fun l => aF (clM c0 r) l nc) (m + 1) l = fstL n (fun l => aF (clM c0 r) l nc) m (lsP n p') := by
        conv => lhs; unfold fstL
        rw [hP, e1]
        rfl
      rw [e2, e3] at H
      exact mk_X9_answersOf_37 sc ⟨fun _ => next c k 0 _ (Or.inl rfl) (by omega) hf h4 h5 hr H, fun e => absurd rfl e⟩
    | true =>
      have e2 : cntL n (fun l => aF (clM c0 r) l nc) (m + 1) l = 1 + cntL n (fun l => aF (clM c0 r) l nc) m (lsP n p') := by
        conv => lhs; unfold cntL
        rw [hP, e1, if_pos rfl]
      have e3 : fstL n (fun l => aF (clM c0 r) l nc) (m + 1) l = l := by
        conv => lhs; unfold fstL
        rw [hP]
        rfl
      rw [e2, e3, ← Nat.add_assoc] at H
      by_cases hk0 : k = 0
      · subst hk0
        refine m_found n 0 c (by omega) sc oc h4 h5 hr (fun i hi => absurd hi (Nat.not_lt_zero i)) hf (fun d hd h5' h4' h26 h27 => next d 0 1 _ (Or.inr rfl) (by omega) hd h4' h5' h26 (fun e h1 h2 h3 _ => H e h1 h2 (fun h => absurd h (Nat.lt_irrefl 0)) (fun _ _ => by rw [h3 (by omega)]; exact h27)))
      · refine mk_X9_answersOf_37 sc ⟨fun e => absurd e (by decide), fun _ => ⟨fun e => absurd ?_ hk0, fun _ => next c k 1 _ (Or.inr rfl) (by omega) hf h4 h5 hr (fun e h1 h2 h3 _ => H e h1 h2 (fun h => h3 (by omega)) (fun h => absurd h hk0))⟩⟩
        rw [h5] at e
        exact (nI_eq (a := k) (b := 0) (by omega) (by omega)).mp e
theorem m_answersOf {c : cc_C} {r a n nc : Nat} {x : Int32} (s : sl c 21 0 0 a) (hx : x = nI r) (o : ansOkM c r n nc) (H : ∀ d, fr pAM c d → (0 < cntL n (fun l => aF (clM c r) l nc) (fuelN n) (List.range n) → Rp n (ofL (fstL n (fun l => aF (clM c r) l nc) (fuelN n) (List.range n))) (cS d 880 27)) → R (some (.int (nI (cntL n (fun l => aF (clM c r) l nc) (fuelN n) (List.range n))))) d) : wc g (wp_X9_answersOf g) c [.ref a, .int x] R X := by
  subst hx
  have hr20 := o.1
  have hch := chainN o.2.2.2.1 o.2.2.1
  refine mk_X9_answersOf_0 s ?_
  have f1 : fr pAM c (cset (cset c 874 0 0 (nI r)) 875 0 0 0) := (fr_rfl.set (Or.inl ⟨Or.inl rfl, rfl⟩)).set (Or.inl ⟨Or.inr rfl, rfl⟩)
  have e4 : cS (cset (cset c 874 0 0 (nI r)) 875 0 0 0) 874 0 0 = nI r := (cS_f (by decide)).trans (cS_at _ _ _ _ _)
  have o1 := ansOkM_fr f1 pAM_no o
  rw [e4, nI_clamp (by omega)]
  refine ⟨vp_in_nI hr20 (by omega), m_begins (f1.sl s) o1.2.1 o.2.2.1 (fun d hd hid => ⟨rfl, ?_⟩)⟩
  have f2 : fr pAM c d := f1.trans (hd.mono (fun f i h => Or.inr ⟨h.1, Or.inl h.2⟩))
  refine m_ansLoop s o (fuelN n) d (List.range n) 0 _ _ hch.1 (by omega) f2 ?_ ?_ (fun i hi => ?_) (fun e h1 h2 _ h4 => ?_)
  · rw [hd.row (show ¬ (874 = 880 ∧ 0 = 26) by omega)]
    exact e4
  · rw [hd.row (show ¬ (875 = 880 ∧ 0 = 26) by omega)]
    exact cS_at _ _ _ _ _
  · rw [ofL_range hi]
    exact hid i hi
  · rw [Nat.zero_add]
    exact H e h1 (h4 rfl)
end
