section
variable {g : Nat → Nat} {R : Option Value → cc_C → Prop} {X : String → cc_C → Prop}
/-- what a riddle needs so that its answers can be counted -/
def ansOk (c : cc_C) (r n nc : Nat) : Prop := cV c 1 (r + 4) 0 ∧ cw c ∧ cN c 120 r = n ∧ n ≤ 6 ∧ 3 ≤ n ∧ cS c 42 (r + 4) 0 = nI nc ∧ nc ≤ 8 ∧ ∀ e, e < nc → KvK n (clC c r) e
theorem clC_fr {P : Nat → Nat → Prop} {c d : cc_C} {r : Nat} (h : fr P c d) (hP : ∀ f i, 240 ≤ f → f ≤ 243 → ¬ P f i) : clC d r = clC c r := by
  funext e
  unfold clC
  rw [h.1, h.row (hP 240 _ (by omega) (by omega)), h.row (hP 241 _ (by omega) (by omega)), h.row (hP 242 _ (by omega) (by omega)), h.row (hP 243 _ (by omega) (by omega))]
theorem ansOk_fr {P : Nat → Nat → Prop} {c d : cc_C} {r n nc : Nat} (h : fr P c d) (hP : ∀ f i, f = 120 ∨ f = 126 ∨ f = 42 ∨ f = 80 ∨ (240 ≤ f ∧ f ≤ 243) → ¬ P f i) (o : ansOk c r n nc) : ansOk d r n nc := by
  obtain ⟨o1, o2, o3, o4, o5, o6, o7, o8⟩ := o
  refine ⟨by rw [h.2.1]; exact o1, h.cws (fun i => hP 126 i (by omega)) (fun i => hP 42 i (by omega)) (fun i => hP 80 i (by omega)) o2, (h.nn (hP 120 r (by omega))).trans o3, o4, o5, by rw [h.row (hP 42 _ (by omega))]; exact o6, o7, fun e he => ?_⟩
  rw [clC_fr h (fun f i h1 h2 => hP f i (by omega))]
  exact o8 e he
theorem pAns_no {r q : Nat} : ∀ f i, f = 120 ∨ f = 126 ∨ f = 42 ∨ f = 80 ∨ (240 ≤ f ∧ f ≤ 243) → ¬ pAns r q f i := by
  intro f i h hp
  unfold pAns at hp
  omega
theorem s_findLoop {c0 : cc_C} {r q a b n nc : Nat} (s : sl c0 3 r 0 a) (s2 : sl c0 18 q 0 b) (hl : cN c0 720 q = n) (o : ansOk c0 r n nc) : ∀ (m : Nat) (c : cc_C) (l : List Nat) (k i : Nat), chain n m l = true → i + m < 720 → fr (pAns r q) c0 c → Rp n (ofL l) (cS c 760 q) → cS c 124 r 0 = nI k → k + m < 900 → (∀ d, fr (pAns r q) c0 d → cS d 124 r 0 = nI (k + cntL n (fun l => aF (clC c0 r) l nc) m l) → (0 < k → cS d 520 r = cS c 520 r) → (k = 0 → 0 < cntL n (fun l => aF (clC c0 r) l nc) m l → Rp n (ofL (fstL n (fun l => aF (clC c0 r) l nc) m l)) (cS d 520 r)) → R none d) → ec g tb_X7_findAnswers 30 [some (.ref a), some (.ref b), some (.int 1), some (.int (nI i))] [] 2 7 c R X := by
  intro m
  induction m with
  | zero =>
    intro c l k i hch hi hf hr hk hk2 H
    have hlt := chain_lt (show 0 < n by have := o.2.2.2.2.1; omega) hch
    have sc := hf.sl s
    have sc2 := hf.sl s2
    have oc := ansOk_fr hf pAns_no o
    have hlc : cN c 720 q = n := (hf.nn (by unfold pAns; omega)).trans hl
    have e0 := chain_0 hch
    have eK : clC c r = clC c0 r := clC_fr hf (fun f i h1 h2 => pAns_no f i (by omega))
    refine mk_X7_findAnswers_30 sc sc2 ⟨fun e => absurd e (by decide), fun _ => ⟨fun e => absurd e (nI_ge (b := 720) (by omega) (by omega)), fun _ => ⟨⟨by decide, by decide⟩, s_isAnsweredBy sc oc.1 oc.2.1 sc2 hlc oc.2.2.2.1 hr hlt oc.2.2.2.2.2.1 oc.2.2.2.2.2.2.1 oc.2.2.2.2.2.2.2 ⟨_, rfl, ?_⟩⟩⟩⟩
    rw [eK]
    have next : ∀ d, fr (pAns r q) c0 d → Rp n (ofL l) (cS d 760 q) → (R none d) → wc g (wp_X3_goOn g) d [.ref b] (fun v c7 => ∃ x12 : Int32, v = some (.int x12) ∧ ec g tb_X7_findAnswers 30 [some (.ref a), some (.ref b), some (.int x12), some (.int (nI i + 1))] [] 2 7 c7 R X) X := by
      intro d hd hrd hR
      refine s_goOn (hd.sl s2) ((hd.nn (by unfold pAns; omega)).trans hl) (by have := o.2.2.2.2.1; omega) o.2.2.2.1 hrd (fun k _ => by have := hlt k; have := o.2.2.2.1; omega) (fun _ => ⟨_, rfl, mk_X7_findAnswers_30 (hd.sl s) (hd.sl s2) ⟨fun _ => ⟨⟨by decide, by decide⟩, hR⟩, fun e => absurd rfl e⟩⟩) (fun p' hp' => ?_)
      rw [e0] at hp'
      cases hp'
    cases hP : aF (clC c0 r) l nc with
    | false =>
      refine ⟨fun _ => ⟨⟨by decide, by decide⟩, next c hf hr (H c hf ?_ (fun _ => rfl) (fun _ h => ?_))⟩, fun e => absurd rfl e⟩
      · unfold cntL
        rw [hP]
        exact hk
      · unfold cntL at h
        rw [hP] at h
        exact absurd h (Nat.lt_irrefl 0)
    | true =>
      refine ⟨fun e => absurd e (by decide), fun _ => ⟨⟨by decide, by decide⟩, s_addAnswer sc sc2 hlc oc.2.2.1 oc.2.2.2.1 hr hk (by omega) hf (fun d hd h76 h12 h5 h5' => ⟨rfl, ⟨by decide, by decide⟩, next d hd (h76 ▸ hr) (H d hd ?_ h5 (fun h _ => ?_))⟩)⟩⟩
      · unfold cntL
        rw [hP]
        exact h12
      · unfold fstL
        rw [hP]
        exact h5' h
  | succ m ih =>
    intro c l k i hch hi hf hr hk hk2 H
    have hlt := chain_lt (show 0 < n by have := o.2.2.2.2.1; omega) hch
    have sc := hf.sl s
    have sc2 := hf.sl s2
    have oc := ansOk_fr hf pAns_no o
    have hlc : cN c 720 q = n := (hf.nn (by unfold pAns; omega)).trans hl
    obtain ⟨p', e0, e1, hch'⟩ := chain_s hch
    have eK : clC c r = clC c0 r := clC_fr hf (fun f i h1 h2 => pAns_no f i (by omega))
    refine mk_X7_findAnswers_30 sc sc2 ⟨fun e => absurd e (by decide), fun _ => ⟨fun e => absurd e (nI_ge (b := 720) (by omega) (by omega)), fun _ => ⟨⟨by decide, by decide⟩, s_isAnsweredBy sc oc.1 oc.2.1 sc2 hlc oc.2.2.2.1 hr hlt oc.2.2.2.2.2.1 oc.2.2.2.2.2.2.1 oc.2.2.2.2.2.2.2 ⟨_, rfl, ?_⟩⟩⟩⟩
    rw [eK]
    have next : ∀ d k', fr (pAns r q) c0 d → Rp n (ofL l) (cS d 760 q) → cS d 124 r 0 = nI k' → k' + m < 900 → (∀ e, fr (pAns r q) c0 e → cS e 124 r 0 = nI (k' + cntL n (fun l => aF (clC c0 r) l nc) m (lsP n p')) → (0 < k' → cS e 520 r = cS d 520 r) → (k' = 0 → 0 < cntL n (fun l => aF (clC c0 r) l nc) m (lsP n p') → Rp n (ofL (fstL n (fun l => aF (clC c0 r) l nc) m (lsP n p'))) (cS e 520 r)) → R none e) → wc g (wp_X3_goOn g) d [.ref b] (fun v c7 => ∃ x12 : Int32, v = some (.int x12) ∧ ec g tb_X7_findAnswers 30 [some (.ref a), some (.ref b), some (.int x12), some (.int (nI i + 1))] [] 2 7 c7 R X) X := by
      intro d k' hd hrd hk' hk2' hR
      refine s_goOn (hd.sl s2) ((hd.nn (by unfold pAns; omega)).trans hl) (by have := o.2.2.2.2.1; omega) o.2.2.2.1 hrd (fun k _ => by have := hlt k; have := o.2.2.2.1; omega) (fun h => ?_) (fun p'' hp' e he hre => ⟨_, rfl, ?_⟩)
      · rw [e0] at h
        cases h
      · rw [e0] at hp'
        cases hp'
        rw [nI_1]
        have h124 : cS e 124 r = cS d 124 r := he.row (by omega)
        have h520 : cS e 520 r = cS d 520 r := he.row (by omega)
        refine ih e (lsP n p') k' (i + 1) hch' (by omega) (hd.trans (he.mono (fun f i h => Or.inr (Or.inr h)))) (Rp_ls hre) (by rw [h124]; exact hk') hk2' (fun e' h1 h2 h3 h4 => hR e' h1 h2 (fun h => (h3 h).trans h520) h4)
    have ecnt : cntL n (fun l => aF (clC c0 r) l nc) (m + 1) l = (if aF (clC c0 r) l nc = true then 1 else 0) + cntL n (fun l => aF (clC c0 r) l nc) m (lsP n p') := by
      conv => lhs; unfold cntL
      rw [e1]
    cases hP : aF (clC c0 r) l nc with
    | false =>
      have e2 : cntL n (fun l => aF (clC c0 r) l nc) (m + 1) l = cntL n (fun l => aF (clC c0 r) l nc) m (lsP n p') := by
        rw [ecnt, hP, if_neg (by decide), Nat.zero_add]
      have e3 : fstL n (fun l => aF (clC c0 r) l nc) (m + 1) l = fstL n (fun l => aF (clC c0 r) l nc) m (lsP n p') := by
        conv => lhs; unfold fstL
        rw [hP, e1]
        rfl
      rw [e2, e3] at H
      exact ⟨fun _ => ⟨⟨by decide, by decide⟩, next c k hf hr hk (by omega) H⟩, fun e => absurd rfl e⟩
    | true =>
      have e2 : cntL n (fun l => aF (clC c0 r) l nc) (m + 1) l = 1 + cntL n (fun l => aF (clC c0 r) l nc) m (lsP n p') := by
        rw [ecnt, hP, if_pos rfl]
      have e3 : fstL n (fun l => aF (clC c0 r) l nc) (m + 1) l = l := by
        conv => lhs; unfold fstL
        rw [hP]
        rfl
      rw [e2, e3] at H
      refine ⟨fun e => absurd e (by decide), fun _ => ⟨⟨by decide, by decide⟩, s_addAnswer sc sc2 hlc oc.2.2.1 oc.2.2.2.1 hr hk (by omega) hf (fun d hd h76 h12 h5 h5' => ⟨rfl, ⟨by decide, by decide⟩, next d (k + 1) hd (h76 ▸ hr) h12 (by omega) (fun e h1 h2 h3 _ => H e h1 ?_ (fun h => (h3 (by omega)).trans (h5 h)) (fun h _ => ?_))⟩)⟩⟩
      · rw [h2]
        congr 1
        omega
      · rw [h3 (by omega)]
        exact h5' h
theorem wc_cw {W : ab_Wp} {c : cc_C} {as : List Value} (H : cw c → wc g W c as R X) : wc g W c as R X := fun L h R2 XP cc hR hX => H cc.2.2 L h R2 XP cc hR hX
theorem ec_cw {tab : (Nat → Nat) → ab_R → ab_XP → Nat → ab_I} {pc : Nat} {ls : List (Option Value)} {st : List Value} {k n : Nat} {c : cc_C} (H : cw c → ec g tab pc ls st k n c R X) : ec g tab pc ls st k n c R X := fun L h R2 XP cc hR hX => H cc.2.2 L h R2 XP cc hR hX
/-- states that differ in a few rows, and in orders and loose clues -/
def frx (P : Nat → Nat → Prop) (c d : cc_C) : Prop := (∀ k i j, k ≠ 18 → k ≠ 19 → k ≠ 6 → cV d k i j = cV c k i j) ∧ (∀ k i j, k ≠ 18 → k ≠ 19 → k ≠ 6 → cA d k i j = cA c k i j) ∧ (∀ i, cV c 6 i 0 → cV d 6 i 0) ∧ cP d = cP c ∧ cD d = cD c ∧ (∀ f i, ¬ P f i → f ≠ 720 → f ≠ 760 → ¬ (240 ≤ f ∧ f ≤ 243) → cS d f i = cS c f i) ∧ (∀ i f, cV c 6 i 0 → 240 ≤ f → f ≤ 243 → cS d f i = cS c f i)
theorem fr.x {P Q : Nat → Nat → Prop} {c d : cc_C} (h : fr P c d) (hpq : ∀ f i, P f i → f ≠ 720 → f ≠ 760 → ¬ (240 ≤ f ∧ f ≤ 243) → Q f i) (h6 : ∀ f i, P f i → ¬ (240 ≤ f ∧ f ≤ 243)) : frx Q c d := ⟨fun _ _ _ _ _ _ => by rw [h.2.1], fun _ _ _ _ _ _ => by rw [h.1], fun _ hv => by rw [h.2.1]; exact hv, h.2.2.1, h.2.2.2.1, fun f i hq h1 h2 h3 => h.row (fun hp => hq (hpq f i hp h1 h2 h3)), fun i f _ h1 h2 => h.row (fun hp => h6 f i hp ⟨h1, h2⟩)⟩
theorem frx.trans {P : Nat → Nat → Prop} {c d e : cc_C} (h : frx P c d) (h2 : frx P d e) : frx P c e := ⟨fun k i j a b z => (h2.1 k i j a b z).trans (h.1 k i j a b z), fun k i j a b z => (h2.2.1 k i j a b z).trans (h.2.1 k i j a b z), fun i hv => h2.2.2.1 i (h.2.2.1 i hv), h2.2.2.2.1.trans h.2.2.2.1, h2.2.2.2.2.1.trans h.2.2.2.2.1, fun f i hq a b z => (h2.2.2.2.2.2.1 f i hq a b z).trans (h.2.2.2.2.2.1 f i hq a b z), fun i f hv a b => (h2.2.2.2.2.2.2 i f (h.2.2.1 i hv) a b).trans (h.2.2.2.2.2.2 i f hv a b)⟩
theorem frx_dO {P : Nat → Nat → Prop} {c : cc_C} {a q n : Nat} : frx P c (dO c a q n) := ⟨fun k i j a b z => by
    show (cV c k i j ∨ (k = 18 ∧ _ ∧ _ ∨ k = 19 ∧ _ ∧ _)) = _
    exact propext ⟨fun h => h.elim id (fun h => by omega), Or.inl⟩, fun k i j a b z => dO_A (by omega), fun i hv => Or.inl hv, rfl, rfl, fun f i _ a b z => funext fun j => dO_S (by omega), fun i f hv a b => funext fun j => dO_S (by omega)⟩
def pA2 (r : Nat) (f i : Nat) : Prop := (f = 124 ∧ i = r) ∨ (f = 520 ∧ i = r)
theorem s_findAnswers {c : cc_C} {r a n nc : Nat} (s : sl c 3 r 0 a) (o : ansOk c r n nc) (hp : cS c 120 r 0 = nI n) (hE : ¬ cS c 124 r 0 = -1 → R none c) (H : cS c 124 r 0 = -1 → ∀ d, frx (pA2 r) c d → cS d 124 r 0 = nI (cntL n (fun l => aF (clC c r) l nc) (fuelN n) (List.range n)) → (0 < cntL n (fun l => aF (clC c r) l nc) (fuelN n) (List.range n) → Rp n (ofL (fstL n (fun l => aF (clC c r) l nc) (fuelN n) (List.range n))) (cS d 520 r)) → R none d) : wc g (wp_X7_findAnswers g) c [.ref a] R X := by
  have o5 := o.2.2.2.2.1
  have o4 := o.2.2.2.1
  refine mk_X7_findAnswers_0 s ⟨fun e => ?_, hE⟩
  have f1 : fr (fun f i => f = 124 ∧ i = r) c (cset c 124 r 0 0) := fr_rfl.set ⟨rfl, rfl⟩
  have e120 : cS (cset c 124 r 0 0) 120 r 0 = nI n := (cS_f (by decide)).trans hp
  refine s_newOrder e120 (by omega) (fun b q w18 w19 => ⟨b, ⟨Or.inr (Or.inl ⟨rfl, rfl, rfl⟩), dO_a18⟩, ec_cw fun hw => ?_⟩)
  generalize hd0 : dO (cset c 124 r 0 0) b q n = d0 at *
  have fx : frx (pA2 r) c d0 := (f1.x (fun f i h _ _ _ => Or.inl h) (fun f i h => by omega)).trans (hd0 ▸ frx_dO)
  have s0 : sl d0 3 r 0 a := by
    have := s
    exact ⟨by rw [fx.1 3 r 0 (by decide) (by decide) (by decide)]; exact s.1, by rw [fx.2.1 3 r 0 (by decide) (by decide) (by decide)]; exact s.2⟩
  have sb0 : sl d0 18 b 0 b := hd0 ▸ ⟨Or.inr (Or.inl ⟨rfl, rfl, rfl⟩), dO_a18⟩
  have hl0 : cN d0 720 b = n := by
    unfold cN
    rw [← hd0, dO_s720, nI_clamp (by omega)]
  have r0 : Rp n (ofL (List.range n)) (cS d0 760 b) := by
    intro i hi
    rw [← hd0, dO_s760, if_pos hi, ofL_range hi]
  have k0 : cS d0 124 r 0 = nI 0 := by
    rw [← hd0, dO_S (by omega), cS_at]
    rfl
  have V : ∀ k i j, k ≠ 18 → k ≠ 19 → k ≠ 6 → cV d0 k i j = cV c k i j := fx.1
  have eK : ∀ e, e < nc → clC d0 r e = clC c r e := by
    intro e he
    have hc : cN c 42 (r + 4) = nc := by
      unfold cN
      rw [o.2.2.2.2.2.1, nI_clamp (by have := o.2.2.2.2.2.2.1; omega)]
    have h6 := (el_slot o.2.1 o.1 (show e < cN c 42 (r + 4) by omega)).1
    unfold clC
    rw [fx.2.1 5 r e (by decide) (by decide) (by decide)]
    rw [fx.2.2.2.2.2.2 _ 240 h6 (by decide) (by decide), fx.2.2.2.2.2.2 _ 241 h6 (by decide) (by decide), fx.2.2.2.2.2.2 _ 242 h6 (by decide) (by decide), fx.2.2.2.2.2.2 _ 243 h6 (by decide) (by decide)]
  have hP2 : ∀ f i, f = 120 ∨ f = 42 → ¬ pA2 r f i := by
    intro f i h hp
    unfold pA2 at hp
    omega
  have o0 : ansOk d0 r n nc := by
    refine ⟨by rw [V _ _ _ (by decide) (by decide) (by decide)]; exact o.1, hw, ?_, o.2.2.2.1, o5, ?_, o.2.2.2.2.2.2.1, fun e he => ?_⟩
    · unfold cN
      rw [fx.2.2.2.2.2.1 120 r (hP2 _ _ (Or.inl rfl)) (by decide) (by decide) (by decide)]
      exact o.2.2.1
    · rw [fx.2.2.2.2.2.1 42 _ (hP2 _ _ (Or.inr rfl)) (by decide) (by decide) (by decide)]
      exact o.2.2.2.2.2.1
    · unfold KvK
      rw [eK e he]
      exact o.2.2.2.2.2.2.2 e he
  have eF : (fun l => aF (clC d0 r) l nc) = fun l => aF (clC c r) l nc := by
    funext l
    have : ∀ m, m ≤ nc → aF (clC d0 r) l m = aF (clC c r) l m := by
      intro m
      induction m with
      | zero => intro _; rfl
      | succ m ih =>
        intro hm
        show (aF (clC d0 r) l m && fitK (clC d0 r) m l) = (aF (clC c r) l m && fitK (clC c r) m l)
        rw [ih (by omega)]
        unfold fitK
        rw [eK m (by omega)]
    exact this nc (Nat.le_refl _)
  have hch := chainN o5 o4
  refine s_findLoop s0 sb0 hl0 o0 (fuelN n) d0 (List.range n) 0 0 hch.1 (by omega) fr_rfl r0 k0 (by omega) (fun d hd h1 h2 h3 => H e d (fx.trans (hd.x (fun f i h a1 a2 _ => ?_) (fun f i h => ?_))) ?_ ?_)
  · unfold pAns at h
    unfold pA2
    omega
  · unfold pAns at h
    omega
  · rw [h1, eF, Nat.zero_add]
  · intro h
    rw [eF] at h3
    exact h3 rfl h
end
