section
variable {g : Nat → Nat} {R : Option Value → cc_C → Prop} {X : String → cc_C → Prop}
/-- the class's own rules -/
def owC (c : cc_C) (nO : Nat) (O : cc_O) : Prop := cS c 42 1 0 = nI nO ∧ nO ≤ 6 ∧ ∀ u, u < nO → Ov (cS c 560 u 0) (cS c 563 u 0) (O u).2.2.1 (nI (O u).2.2.2.1) (O u).2.1 (O u).2.2.2.1 ∧ cS c 560 u 0 = (O u).1 ∧ cS c 564 u 0 = (O u).2.2.1 ∧ cS c 565 u 0 = nI (O u).2.2.2.1 ∧ cS c 561 u 0 = bI (O u).2.2.2.2
theorem owC_fr {P : Nat → Nat → Prop} {c d : cc_C} {nO : Nat} {O : cc_O} (h : fr P c d) (hp : ∀ f i, f = 42 ∨ (560 ≤ f ∧ f ≤ 565) → ¬ P f i) (o : owC c nO O) : owC d nO O := by
  obtain ⟨o1, o2, o3⟩ := o
  refine ⟨by rw [h.row (hp 42 1 (by omega))]; exact o1, o2, fun u hu => ?_⟩
  rw [h.row (hp 560 u (by omega)), h.row (hp 561 u (by omega)), h.row (hp 563 u (by omega)), h.row (hp 564 u (by omega)), h.row (hp 565 u (by omega))]
  exact o3 u hu
theorem pPr_no2 {r : Nat} : ∀ f i, f = 42 ∨ (560 ≤ f ∧ f ≤ 565) → ¬ pPr r f i := by
  intro f i h q
  have := q.2
  omega
theorem s_mkByOwns {c : cc_C} {r n nc nO e a b k : Nat} {m : Nat → Nat} {S : cc_St} {O : cc_O} (s : sl c 7 r 0 e) (s2 : sl c 1 (r + 4) 0 a) (s3 : sl c 1 1 0 b) (o : ansOk c r n nc) (ow : owC c nO O) (hse : seR c r n m) (st : stC c r k S) (hk : k < 36)
    (HN : owS (clC c r) O n nc m nO 0 = none → ∀ d, fr (pPr r) c d → seR d r n m → stC d r k S → R (some (.int 0)) d)
    (HS : ∀ ru ca x, owS (clC c r) O n nc m nO 0 = some (ru, ca, x) → ∀ d, fr (pPr r) c d → seR d r n x.1 → stC d r (k + 1) (puS S k (ru, ca, x.2)) → R (some (.int 1)) d) : wc g (wp_X6_makeStepByOwnRules g) c [.ref e, .ref a, .ref b] R X := by
  have loop : ∀ (w u b14 : Nat), u < nO → cV c 14 u 0 → cA c 14 u 0 = b14 → (O u).2.2.2.2 = true → (∀ (c' : cc_C) (o4 o5 o6 : Option Value), fr (pPr r) c c' → seR c' r n m → stC c' r k S → owS (clC c r) O n nc m w (u + 1) = owS (clC c r) O n nc m nO 0 → ec g tb_X6_makeStepByOwnRules 2 [some (.ref e), some (.ref a), some (.ref b), some (.int (nI (u + 1))), o4, o5, o6] [] 0 0 c' R X) → ∀ (d i : Nat) (c' : cc_C) (o6 : Option Value), i + d = nc → fr (pPr r) c c' → seR c' r n m → stC c' r k S → orE (tag (10 + u) (scR (owK (clC c r) O n u m) d i)) (owS (clC c r) O n nc m w (u + 1)) = owS (clC c r) O n nc m nO 0 → ec g tb_X6_makeStepByOwnRules 27 [some (.ref e), some (.ref a), some (.ref b), some (.int (nI u)), some (.ref b14), some (.int (nI i)), o6] [] 0 0 c' R X := by
    intro w u b14 hu hv14 hb14 hsta L2 d
    have sb : sl c 14 u 0 b14 := ⟨hv14, hb14⟩
    induction d with
    | zero =>
      intro i c' o6 hi hf hs hst hsc
      obtain ⟨o1, o2, o3, o4', o5, o6, o7, o8⟩ := ansOk_fr hf pPr_no o
      obtain ⟨v1, v2, v3, v4, v5⟩ := (owC_fr hf pPr_no2 ow).2.2 u hu
      refine mk_X6_makeStepByOwnRules_27 (hf.sl s) (hf.sl s2) (hf.sl s3) (hf.sl sb) ⟨fun q => ?_, fun _ => s_size (hf.sl s2) ⟨_, rfl, ?_⟩⟩
      · rw [v5, hsta] at q
        exact absurd q (by decide)
      · rw [o6, nI_1]
        exact ⟨fun _ => L2 c' _ _ _ hf hs hst hsc, fun q => absurd (nI_le (by omega) (by omega)) q⟩
    | succ d ih =>
      intro i c' o6 hi hf hs hst hsc
      obtain ⟨o1, o2, o3, o4', o5, o6, o7, o8⟩ := ansOk_fr hf pPr_no o
      obtain ⟨v1, v2, v3, v4, v5⟩ := (owC_fr hf pPr_no2 ow).2.2 u hu
      have eK : clC c' r = clC c r := clC_fr hf (fun f i a b => pPr_no f i (by omega))
      have sc := hf.sl s
      have sc2 := hf.sl s2
      have sc3 := hf.sl sb
      have hN : cN c' 42 (r + 4) = nc := by
        unfold cN
        rw [o6, nI_clamp (by omega)]
      have slc : sl c' 6 (cA c' 5 r i) 0 (el c' (r + 4) i) := el_slot o2 o1 (by omega)
      have s11 : sl c' 11 r 0 (cA c' 11 r 0) := ⟨(o2.2.2.2.1 r sc.1).2.2.2, rfl⟩
      have kv := o8 i (by omega)
      refine mk_X6_makeStepByOwnRules_27 sc sc2 (hf.sl s3) sc3 ⟨fun q => ?_, fun _ => s_size sc2 ⟨_, rfl, ?_⟩⟩
      · rw [v5, hsta] at q
        exact absurd q (by decide)
      rw [o6]
      refine ⟨fun q => absurd q (nI_ge (by omega) (by omega)), fun _ => s_get (e := i) sc2 rfl (by rw [o6]; exact nI_lt (by omega) (by omega)) (by omega) ⟨_, cA c' 5 r i, rfl, slc, s_byOwn s11 sc3 slc hs o5 v1 v3 v4 kv (fun d1 hd1 hs1 => ⟨_, rfl, ?_⟩)⟩⟩
      have ex : ownE (cS c' 560 u 0) (O u).2.1 (O u).2.2.1 (O u).2.2.2.1 (cS c' 240 (cA c' 5 r i) 0) (cS c' 241 (cA c' 5 r i) 0).toNatClampNeg (cS c' 242 (cA c' 5 r i) 0).toNatClampNeg (cS c' 243 (cA c' 5 r i) 0).toNatClampNeg n m = owK (clC c r) O n u m i := by
        rw [← eK, v2]
        rfl
      rw [ex] at hs1 ⊢
      rw [nI_1]
      rw [scR_s] at hsc
      have e10 : (10 : Int32) + nI u = nI (10 + u) := nI_add 10 u
      refine s_try (ru := 10 + u) (ca := i) (hd1.sl sc) (hf.trans (hd1.mono pSe_Pr)) hs1 (fun h0 => ownE_0 hse.2.2.2 h0) (stC_fr hd1 pSe_st hst) hk ownE_l e10 rfl (fun h0 d2 hf2 hs2 st2 => ⟨_, rfl, fun _ => ?_, fun q => absurd rfl q⟩) (fun h0 d2 hf2 hs2 st2 => ⟨_, rfl, fun q => absurd q (by decide), fun _ => ?_⟩)
      · rw [if_pos h0] at hsc
        exact ih (i + 1) d2 _ (by omega) hf2 hs2 st2 hsc
      · rw [if_neg h0] at hsc
        exact HS _ i _ hsc.symm d2 hf2 hs2 st2
  have L2 : ∀ (w u : Nat) (d : cc_C) (o4 o5 o6 : Option Value), u + w = nO → fr (pPr r) c d → seR d r n m → stC d r k S → owS (clC c r) O n nc m w u = owS (clC c r) O n nc m nO 0 → ec g tb_X6_makeStepByOwnRules 2 [some (.ref e), some (.ref a), some (.ref b), some (.int (nI u)), o4, o5, o6] [] 0 0 d R X := by
    intro w
    induction w with
    | zero =>
      intro u d o4 o5 o6 hu hf hs hst hT
      have od := owC_fr hf pPr_no2 ow
      refine mk_X6_makeStepByOwnRules_2 (hf.sl s) (hf.sl s2) (hf.sl s3) (s_size (hf.sl s3) ⟨_, rfl, ?_⟩)
      rw [od.1]
      exact ⟨fun _ => HN hT.symm d hf hs hst, fun q => absurd (nI_le (by omega) (by have := od.2.1; omega)) q⟩
    | succ w ih =>
      intro u d o4 o5 o6 hu hf hs hst hT
      have od := owC_fr hf pPr_no2 ow
      have ad := ansOk_fr hf pPr_no o
      have nO6 := od.2.1
      obtain ⟨v1, v2, v3, v4, v5⟩ := od.2.2 u (by omega)
      have hN : cN d 42 1 = nO := by
        unfold cN
        rw [od.1, nI_clamp (by omega)]
      have s14 : sl d 14 u 0 (el d 1 u) := ⟨(ad.2.1.2.2.2.2.2.2.2.2.2.2 1 (hf.sl s3).1).2.2.2 u (by omega), rfl⟩
      have eo : owS (clC c r) O n nc m (w + 1) u = orE (if (O u).2.2.2.2 then tag (10 + u) (scR (owK (clC c r) O n u m) nc 0) else none) (owS (clC c r) O n nc m w (u + 1)) := rfl
      rw [eo] at hT
      refine mk_X6_makeStepByOwnRules_2 (hf.sl s) (hf.sl s2) (hf.sl s3) (s_size (hf.sl s3) ⟨_, rfl, ?_⟩)
      rw [od.1]
      refine ⟨fun q => absurd q (nI_ge (by omega) (by omega)), fun _ => s_get (e := u) (hf.sl s3) rfl (by rw [od.1]; exact nI_lt (by omega) (by omega)) (by omega) ⟨_, u, rfl, s14, ?_⟩⟩
      cases hb : (O u).2.2.2.2 with
      | false =>
        rw [hb] at hT
        refine mk_X6_makeStepByOwnRules_27 (hf.sl s) (hf.sl s2) (hf.sl s3) s14 ⟨fun _ => ?_, fun q => ?_⟩
        · rw [nI_1]
          exact ih (u + 1) d _ _ _ (by omega) hf hs hst hT
        · rw [v5, hb] at q
          exact absurd rfl q
      | true =>
        rw [hb, if_pos rfl] at hT
        exact loop w u _ (by omega) (by rw [← hf.2.1]; exact s14.1) (by rw [← hf.1]; rfl) hb (fun c' o4 o5 o6 hf' hs' hst' hT' => ih (u + 1) c' o4 o5 o6 (by omega) hf' hs' hst' hT') nc 0 d _ (by omega) hf hs hst hT
  exact mk_X6_makeStepByOwnRules_0 s s2 s3 (L2 nO 0 c _ _ _ (by omega) fr_rfl hse st rfl)
/-- the five tries, one behind the other -/
theorem s_step5 {c : cc_C} {r n nc nO e a b k : Nat} {m : Nat → Nat} {S : cc_St} {O : cc_O} {Q0 Q1 : cc_C → Prop} (s : sl c 7 r 0 e) (s2 : sl c 1 (r + 4) 0 a) (s3 : sl c 1 1 0 b) (o : ansOk c r n nc) (ow : owC c nO O) (hse : seR c r n m) (st : stC c r k S) (hk : k < 36)
    (HN : stpS (clC c r) O n nc nO m = none → ∀ d, fr (pPr r) c d → seR d r n m → stC d r k S → Q0 d)
    (HS : ∀ ru ca x, stpS (clC c r) O n nc nO m = some (ru, ca, x) → ∀ d, fr (pPr r) c d → seR d r n x.1 → stC d r (k + 1) (puS S k (ru, ca, x.2)) → Q1 d) :
    wc g (wp_X6_makeStepByClues g) c [.ref e, .ref a] (fun v1 c1 => ∃ x1 : Int32, v1 = some (.int x1) ∧ ((x1 = 0 → wc g (wp_X6_makeStepByPersons g) c1 [.ref e] (fun v2 c2 => ∃ x2 : Int32, v2 = some (.int x2) ∧ ((x2 = 0 → wc g (wp_X6_makeStepByPlaces g) c2 [.ref e] (fun v3 c3 => ∃ x3 : Int32, v3 = some (.int x3) ∧ ((x3 = 0 → wc g (wp_X6_makeStepByPairs g) c3 [.ref e] (fun v4 c4 => ∃ x4 : Int32, v4 = some (.int x4) ∧ ((x4 = 0 → wc g (wp_X6_makeStepByOwnRules g) c4 [.ref e, .ref a, .ref b] (fun v5 c5 => ∃ x5 : Int32, v5 = some (.int x5) ∧ ((x5 = 0 → Q0 c5) ∧ (¬ x5 = 0 → Q1 c5))) X) ∧ (¬ x4 = 0 → Q1 c4))) X) ∧ (¬ x3 = 0 → Q1 c3))) X) ∧ (¬ x2 = 0 → Q1 c2))) X) ∧ (¬ x1 = 0 → Q1 c1))) X := by
  have eK : ∀ d, fr (pPr r) c d → clC d r = clC c r := fun d hd => clC_fr hd (fun f i a b => pPr_no f i (by omega))
  have v11 : ∀ d, fr (pPr r) c d → cV d 11 r 0 := fun d hd => ((ansOk_fr hd pPr_no o).2.1.2.2.2.1 r (hd.sl s).1).2.2.2
  have hT : orE (clS (clC c r) nc m 7 0) (orE (orE (tag 7 (scR (perE m n) n 0)) (orE (tag 8 (scR (placE m n) n 0)) (paS m n n 0))) (owS (clC c r) O n nc m nO 0)) = stpS (clC c r) O n nc nO m := rfl
  refine s_mkByClues s s2 o hse st hk (fun h0 d1 hd1 hs1 st1 => ⟨_, rfl, fun _ => ?_, fun q => absurd rfl q⟩) (fun ru ca x h0 d1 hd1 hs1 st1 => ⟨_, rfl, fun q => absurd q (by decide), fun _ => HS ru ca x (by rw [← hT, h0]; rfl) d1 hd1 hs1 st1⟩)
  rw [h0] at hT
  refine s_mkByPersons (hd1.sl s) (v11 d1 hd1) hs1 st1 hk (fun h1 d2 hd2 hs2 st2 => ⟨_, rfl, fun _ => ?_, fun q => absurd rfl q⟩) (fun ru ca x h1 d2 hd2 hs2 st2 => ⟨_, rfl, fun q => absurd q (by decide), fun _ => HS ru ca x (by rw [← hT, h1]; rfl) d2 (hd1.trans hd2) hs2 st2⟩)
  rw [h1] at hT
  have hd12 := hd1.trans hd2
  refine s_mkByPlaces (hd12.sl s) (v11 d2 hd12) hs2 st2 hk (fun h2 d3 hd3 hs3 st3 => ⟨_, rfl, fun _ => ?_, fun q => absurd rfl q⟩) (fun ru ca x h2 d3 hd3 hs3 st3 => ⟨_, rfl, fun q => absurd q (by decide), fun _ => HS ru ca x (by rw [← hT, h2]; rfl) d3 (hd12.trans hd3) hs3 st3⟩)
  rw [h2] at hT
  have hd13 := hd12.trans hd3
  refine s_mkByPairs (hd13.sl s) (v11 d3 hd13) hs3 st3 hk (fun h3 d4 hd4 hs4 st4 => ⟨_, rfl, fun _ => ?_, fun q => absurd rfl q⟩) (fun ru ca x h3 d4 hd4 hs4 st4 => ⟨_, rfl, fun q => absurd q (by decide), fun _ => HS ru ca x (by rw [← hT, h3]; rfl) d4 (hd13.trans hd4) hs4 st4⟩)
  rw [h3] at hT
  have hd14 := hd13.trans hd4
  refine s_mkByOwns (hd14.sl s) (hd14.sl s2) (hd14.sl s3) (ansOk_fr hd14 pPr_no o) (owC_fr hd14 pPr_no2 ow) hs4 st4 hk (fun h4 d5 hd5 hs5 st5 => ⟨_, rfl, fun _ => ?_, fun q => absurd rfl q⟩) (fun ru ca x h4 d5 hd5 hs5 st5 => ⟨_, rfl, fun q => absurd q (by decide), fun _ => ?_⟩)
  · rw [eK d4 hd14] at h4
    exact HN (by rw [← hT, h4]; rfl) d5 (hd14.trans hd5) hs5 st5
  · rw [eK d4 hd14] at h4
    exact HS ru ca x (by rw [← hT, h4]; rfl) d5 (hd14.trans hd5) hs5 st5
end
