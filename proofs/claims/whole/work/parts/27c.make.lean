section
variable {g : Nat → Nat} {R : Option Value → cc_C → Prop} {X : String → cc_C → Prop}
/-- the class's own rules -/
def owC (c : cc_C) (nO : Nat) (O : cc_O) : Prop := cS c 42 1 0 = nI nO ∧ nO ≤ 6 ∧ ∀ u, u < nO → Ov (cS c 560 u 0) (cS c 563 u 0) (O u).2.2.1 (nI (O u).2.2.2.1) (O u).2.1 (O u).2.2.2.1 ∧ cS c 560 u 0 = (O u).1 ∧ cS c 564 u 0 = (O u).2.2.1 ∧ cS c 565 u 0 = nI (O u).2.2.2.1 ∧ cS c 561 u 0 = bI (O u).2.2.2.2
theorem owC_fr {P : Nat → Nat → Prop} {c d : cc_C} {nO : Nat} {O : cc_O} (h : fr P c d) (hp : ∀ f i, f = 42 ∨ (560 ≤ f ∧ f ≤ 565) → ¬ P f i) (o : owC c nO O) : owC d nO O := by
  obtain ⟨o1, o2, o3⟩ := o
  refine ⟨by rw [h.row (hp 42 1 (by omega))]; exact o1, o2, fun u hu => ?_⟩
  rw [h.row (hp 560 u (by omega)), h.row (hp 561 u (by omega)), h.row (hp 563 u (by omega)), h.row (hp 564 u (by omega)), h.row (hp 565 u (by omega))]
  exact o3 u hu
theorem pPr_no2 {r : Nat} : ∀ f i, f = 42 ∨ (560 ≤ f ∧ f ≤ 565) → ¬ pPr r f i := by
  intro f i h q
  have := q.2
  omega
theorem s_mkByOwn {c : cc_C} {r n nc nO e a b k u : Nat} {m : Nat → Nat} {S : cc_St} {O : cc_O} {x1 : Int32} (s : sl c 7 r 0 e) (s2 : sl c 1 (r + 4) 0 a) (s3 : sl c 14 u 0 b) (o : ansOk c r n nc) (ow : owC c nO O) (hu : u < nO) (hse : seR c r n m) (st : stC c r k S) (hk : k < 36) (h1 : x1 = nI (10 + u))
    (HN : scR (owK (clC c r) O n u m) nc 0 = none → ∀ d, fr (pPr r) c d → seR d r n m → stC d r k S → R (some (.int 0)) d)
    (HS : ∀ i x, scR (owK (clC c r) O n u m) nc 0 = some (i, x) → ∀ d, fr (pPr r) c d → seR d r n x.1 → stC d r (k + 1) (puS S k (10 + u, i, x.2)) → R (some (.int 1)) d) : wc g (wp_X6_makeStepByOwnRule g) c [.ref e, .int x1, .ref b, .ref a] R X := by
  subst h1
  have loop : ∀ (d i : Nat) (c' : cc_C), i + d = nc → fr (pPr r) c c' → seR c' r n m → stC c' r k S → scR (owK (clC c r) O n u m) d i = scR (owK (clC c r) O n u m) nc 0 → ec g tb_X6_makeStepByOwnRule 3 [some (.ref e), some (.int (nI (10 + u))), some (.ref b), some (.ref a), some (.int (nI i))] [] 0 0 c' R X := by
    intro d
    induction d with
    | zero =>
      intro i c' hi hf hs hst hsc
      obtain ⟨o1, o2, o3, o4', o5, o6, o7, o8⟩ := ansOk_fr hf pPr_no o
      refine mk_X6_makeStepByOwnRule_3 (hf.sl s) (hf.sl s3) (hf.sl s2) (s_size (hf.sl s2) ⟨_, rfl, ?_⟩)
      rw [o6]
      exact ⟨fun _ => HN hsc.symm c' hf hs hst, fun q => absurd (nI_le (by omega) (by omega)) q⟩
    | succ d ih =>
      intro i c' hi hf hs hst hsc
      obtain ⟨o1, o2, o3, o4', o5, o6, o7, o8⟩ := ansOk_fr hf pPr_no o
      obtain ⟨v1, v2, v3, v4, v5⟩ := (owC_fr hf pPr_no2 ow).2.2 u hu
      have eK : clC c' r = clC c r := clC_fr hf (fun f i a b => pPr_no f i (by omega))
      have sc := hf.sl s
      have sc2 := hf.sl s2
      have sc3 := hf.sl s3
      have hN : cN c' 42 (r + 4) = nc := by
        unfold cN
        rw [o6, nI_clamp (by omega)]
      have slc : sl c' 6 (cA c' 5 r i) 0 (el c' (r + 4) i) := el_slot o2 o1 (by omega)
      have s11 : sl c' 11 r 0 (cA c' 11 r 0) := ⟨(o2.2.2.2.1 r sc.1).2.2.2, rfl⟩
      have kv := o8 i (by omega)
      refine mk_X6_makeStepByOwnRule_3 sc sc3 sc2 (s_size sc2 ⟨_, rfl, ?_⟩)
      rw [o6]
      refine ⟨fun q => absurd q (nI_ge (by omega) (by omega)), fun _ => s_get (e := i) sc2 rfl (by rw [o6]; exact nI_lt (by omega) (by omega)) (by omega) ⟨_, cA c' 5 r i, rfl, slc, s_byOwn s11 sc3 slc hs o5 v1 v3 v4 kv (fun d1 hd1 hs1 => ⟨_, rfl, ?_⟩)⟩⟩
      have ex : ownE (cS c' 560 u 0) (O u).2.1 (O u).2.2.1 (O u).2.2.2.1 (cS c' 240 (cA c' 5 r i) 0) (cS c' 241 (cA c' 5 r i) 0).toNatClampNeg (cS c' 242 (cA c' 5 r i) 0).toNatClampNeg (cS c' 243 (cA c' 5 r i) 0).toNatClampNeg n m = owK (clC c r) O n u m i := by
        rw [← eK, v2]
        rfl
      rw [ex] at hs1 ⊢
      rw [nI_1]
      rw [scR_s] at hsc
      refine s_try (ru := 10 + u) (ca := i) (hd1.sl sc) (hf.trans (hd1.mono pSe_Pr)) hs1 (fun h0 => ownE_0 hse.2.2.2 h0) (stC_fr hd1 pSe_st hst) hk ownE_l rfl rfl (fun h0 d2 hf2 hs2 st2 => ⟨_, rfl, fun _ => ?_, fun q => absurd rfl q⟩) (fun h0 d2 hf2 hs2 st2 => ⟨_, rfl, fun q => absurd q (by decide), fun _ => ?_⟩)
      · rw [if_pos h0] at hsc
        exact ih (i + 1) d2 (by omega) hf2 hs2 st2 hsc
      · rw [if_neg h0] at hsc
        exact HS i _ hsc.symm d2 hf2 hs2 st2
  exact mk_X6_makeStepByOwnRule_0 s s3 s2 (loop nc 0 c (by omega) fr_rfl hse st rfl)
theorem s_makeStep {c : cc_C} {r n nc nO e a b k : Nat} {m : Nat → Nat} {S : cc_St} {O : cc_O} (s : sl c 7 r 0 e) (s2 : sl c 1 (r + 4) 0 a) (s3 : sl c 1 1 0 b) (o : ansOk c r n nc) (ow : owC c nO O) (hse : seR c r n m) (st : stC c r k S) (hk : k < 36)
    (HN : stpS (clC c r) O n nc nO m = none → ∀ d, fr (pPr r) c d → seR d r n m → stC d r k S → R (some (.int 0)) d)
    (HS : ∀ ru ca x, stpS (clC c r) O n nc nO m = some (ru, ca, x) → ∀ d, fr (pPr r) c d → seR d r n x.1 → stC d r (k + 1) (puS S k (ru, ca, x.2)) → R (some (.int 1)) d) : wc g (wp_X6_makeStep g) c [.ref e, .ref a, .ref b] R X := by
  have eK : ∀ d, fr (pPr r) c d → clC d r = clC c r := fun d hd => clC_fr hd (fun f i a b => pPr_no f i (by omega))
  have L36 : ∀ (w u : Nat) (d : cc_C) (o4 : Option Value), u + w = nO → fr (pPr r) c d → seR d r n m → stC d r k S → owS (clC c r) O n nc m w u = stpS (clC c r) O n nc nO m → ec g tb_X6_makeStep 36 [some (.ref e), some (.ref a), some (.ref b), some (.int (nI u)), o4] [] 0 0 d R X := by
    intro w
    induction w with
    | zero =>
      intro u d o4 hu hf hs hst hT
      have od := owC_fr hf pPr_no2 ow
      refine mk_X6_makeStep_36 (hf.sl s) (hf.sl s2) (hf.sl s3) (s_size (hf.sl s3) ⟨_, rfl, ?_⟩)
      rw [od.1]
      exact ⟨fun _ => HN hT.symm d hf hs hst, fun q => absurd (nI_le (by omega) (by have := od.2.1; omega)) q⟩
    | succ w ih =>
      intro u d o4 hu hf hs hst hT
      have od := owC_fr hf pPr_no2 ow
      have ad := ansOk_fr hf pPr_no o
      have nO6 := od.2.1
      obtain ⟨v1, v2, v3, v4, v5⟩ := od.2.2 u (by omega)
      have hN : cN d 42 1 = nO := by
        unfold cN
        rw [od.1, nI_clamp (by omega)]
      have s14 : sl d 14 u 0 (el d 1 u) := ⟨(ad.2.1.2.2.2.2.2.2.2.2.2.2 1 (hf.sl s3).1).2.2.2 u (by omega), rfl⟩
      have eo : owS (clC c r) O n nc m (w + 1) u = orE (if (O u).2.2.2.2 then tag (10 + u) (scR (owK (clC c r) O n u m) nc 0) else none) (owS (clC c r) O n nc m w (u + 1)) := rfl
      rw [eo] at hT
      refine mk_X6_makeStep_36 (hf.sl s) (hf.sl s2) (hf.sl s3) (s_size (hf.sl s3) ⟨_, rfl, ?_⟩)
      rw [od.1, nI_1]
      refine ⟨fun q => absurd q (nI_ge (by omega) (by omega)), fun _ => s_get (e := u) (hf.sl s3) rfl (by rw [od.1]; exact nI_lt (by omega) (by omega)) (by omega) ⟨_, u, rfl, s14, fun q => ?_, fun q => ?_⟩⟩
      · rw [v5] at q
        have hb : (O u).2.2.2.2 = false := by
          cases hb : (O u).2.2.2.2 with
          | false => rfl
          | true => rw [hb] at q; exact absurd q (by decide)
        rw [hb] at hT
        exact ih (u + 1) d _ (by omega) hf hs hst hT
      · rw [v5] at q
        have hb : (O u).2.2.2.2 = true := by
          cases hb : (O u).2.2.2.2 with
          | true => rfl
          | false => rw [hb] at q; exact absurd rfl q
        rw [hb, if_pos rfl] at hT
        have e10 : (10 : Int32) + nI u = nI (10 + u) := nI_add 10 u
        refine s_mkByOwn (hf.sl s) (hf.sl s2) s14 ad od (by omega) hs hst hk e10 (fun h0 d2 hd2 hs2 st2 => ⟨_, rfl, fun _ => ?_, fun q => absurd rfl q⟩) (fun i x h0 d2 hd2 hs2 st2 => ⟨_, rfl, fun q => absurd q (by decide), fun _ => ?_⟩)
        · rw [eK d hf] at h0
          rw [h0] at hT
          exact ih (u + 1) d2 _ (by omega) (hf.trans hd2) hs2 st2 hT
        · rw [eK d hf] at h0
          rw [h0] at hT
          exact HS _ _ _ hT.symm d2 (hf.trans hd2) hs2 st2
  have L2 : ∀ (w ru : Nat) (d : cc_C) (o4 : Option Value), ru + w = 7 → fr (pPr r) c d → seR d r n m → stC d r k S → orE (clS (clC c r) nc m w ru) (orE (plS m n) (owS (clC c r) O n nc m nO 0)) = stpS (clC c r) O n nc nO m → ec g tb_X6_makeStep 2 [some (.ref e), some (.ref a), some (.ref b), some (.int (nI ru)), o4] [] 0 0 d R X := by
    intro w
    induction w with
    | zero =>
      intro ru d o4 hru hf hs hst hT
      obtain rfl : ru = 7 := by omega
      have ad := ansOk_fr hf pPr_no o
      have v11 : cV d 11 r 0 := (ad.2.1.2.2.2.1 r (hf.sl s).1).2.2.2
      refine mk_X6_makeStep_2 (hf.sl s) (hf.sl s2) (hf.sl s3) ⟨fun _ => s_mkByPlaces (hf.sl s) v11 hs hst hk (fun h0 d2 hd2 hs2 st2 => ⟨_, rfl, fun _ => ?_, fun q => absurd rfl q⟩) (fun ru ca x h0 d2 hd2 hs2 st2 => ⟨_, rfl, fun q => absurd q (by decide), fun _ => ?_⟩), fun e => absurd (nI_le (a := 7) (b := 7) (by omega) (by omega)) e⟩
      · rw [h0] at hT
        exact L36 nO 0 d2 _ (by omega) (hf.trans hd2) hs2 st2 hT
      · rw [h0] at hT
        exact HS _ _ _ hT.symm d2 (hf.trans hd2) hs2 st2
    | succ w ih =>
      intro ru d o4 hru hf hs hst hT
      have ad := ansOk_fr hf pPr_no o
      have eo : clS (clC c r) nc m (w + 1) ru = orE (tag ru (scR (clK (clC c r) ru m) nc 0)) (clS (clC c r) nc m w (ru + 1)) := rfl
      rw [eo] at hT
      refine mk_X6_makeStep_2 (hf.sl s) (hf.sl s2) (hf.sl s3) ⟨fun q => absurd q (nI_ge (b := 7) (by omega) (by omega)), fun _ => s_mkByClue (hf.sl s) (hf.sl s2) ad hs hst hk rfl (by omega) (fun h0 d2 hd2 hs2 st2 => ⟨_, rfl, fun _ => ?_, fun q => absurd rfl q⟩) (fun i x h0 d2 hd2 hs2 st2 => ⟨_, rfl, fun q => absurd q (by decide), fun _ => ?_⟩)⟩
      · rw [eK d hf] at h0
        rw [h0] at hT
        rw [nI_1]
        exact ih (ru + 1) d2 _ (by omega) (hf.trans hd2) hs2 st2 hT
      · rw [eK d hf] at h0
        rw [h0] at hT
        exact HS _ _ _ hT.symm d2 (hf.trans hd2) hs2 st2
  exact mk_X6_makeStep_0 s s2 s3 (L2 7 0 c _ (by omega) fr_rfl hse st rfl)
end
