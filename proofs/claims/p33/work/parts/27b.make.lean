section
variable {g : Nat → Nat} {R : Option Value → cc_C → Prop} {X : String → cc_C → Prop}
theorem s_count {c : cc_C} {r a n : Nat} (s : sl c 11 r 0 a) (hn : cN c 120 r = n) (H : R (some (.int (nI n))) c) : wc g (wp_X5_count g) c [.ref a] R X := by
  refine mk_X5_count_0 s ?_
  rw [hn]
  exact H
theorem scR_s {f : Nat → cc_Ef} {d i : Nat} : scR f (d + 1) i = if (f i).2 = 0 then scR f d (i + 1) else some (i, f i) := rfl
theorem s_mkByPersons {c : cc_C} {r n e k : Nat} {m : Nat → Nat} {S : cc_St} (s : sl c 7 r 0 e) (hv : cV c 11 r 0) (hse : seR c r n m) (st : stC c r k S) (hk : k < 36)
    (HN : tag 7 (scR (perE m n) n 0) = none → ∀ d, fr (pPr r) c d → seR d r n m → stC d r k S → R (some (.int 0)) d)
    (HS : ∀ ru ca x, tag 7 (scR (perE m n) n 0) = some (ru, ca, x) → ∀ d, fr (pPr r) c d → seR d r n x.1 → stC d r (k + 1) (puS S k (ru, ca, x.2)) → R (some (.int 1)) d) : wc g (wp_X6_makeStepByPersons g) c [.ref e] R X := by
  have hn := hse.2.1
  have h64 := hse.2.2.2
  have s11 : ∀ d, fr (pPr r) c d → sl d 11 r 0 (cA d 11 r 0) := fun d hd => ⟨by rw [hd.2.1]; exact hv, rfl⟩
  have L2 : ∀ (w t : Nat) (d : cc_C), t + w = n → fr (pPr r) c d → seR d r n m → stC d r k S → tag 7 (scR (perE m n) w t) = tag 7 (scR (perE m n) n 0) → ec g tb_X6_makeStepByPersons 2 [some (.ref e), some (.int (nI t))] [] 0 0 d R X := by
    intro w
    induction w with
    | zero =>
      intro t d ht hf hs hst hT
      exact mk_X6_makeStepByPersons_2 (hf.sl s) (s_count (s11 d hf) hs.1 ⟨_, rfl, fun _ => HN hT.symm d hf hs hst, fun e => absurd (nI_le (by omega) (by omega)) e⟩)
    | succ w ih =>
      intro t d ht hf hs hst hT
      refine mk_X6_makeStepByPersons_2 (hf.sl s) (s_count (s11 d hf) hs.1 ⟨_, rfl, fun e => absurd e (nI_ge (by omega) (by omega)), fun _ => s_byPerson (s11 d hf) hs rfl (by omega) (fun d1 hd1 hs1 => ⟨_, rfl, ?_⟩)⟩)
      rw [nI_1]
      rw [scR_s] at hT
      refine s_try (ru := 7) (ca := t) (hd1.sl (hf.sl s)) (hf.trans (hd1.mono pSe_Pr)) hs1 (fun h0 => perE_0 h64 h0) (stC_fr hd1 pSe_st hst) hk (perE_l hn) rfl rfl (fun h0 d2 hf2 hs2 st2 => ⟨_, rfl, fun _ => ?_, fun q => absurd rfl q⟩) (fun h0 d2 hf2 hs2 st2 => ⟨_, rfl, fun q => absurd q (by decide), fun _ => ?_⟩)
      · rw [if_pos h0] at hT
        exact ih (t + 1) d2 (by omega) hf2 hs2 st2 hT
      · rw [if_neg h0] at hT
        exact HS _ _ _ hT.symm d2 hf2 hs2 st2
  exact mk_X6_makeStepByPersons_0 s (L2 n 0 c (by omega) fr_rfl hse st rfl)
theorem s_mkByPlaces {c : cc_C} {r n e k : Nat} {m : Nat → Nat} {S : cc_St} (s : sl c 7 r 0 e) (hv : cV c 11 r 0) (hse : seR c r n m) (st : stC c r k S) (hk : k < 36)
    (HN : tag 8 (scR (placE m n) n 0) = none → ∀ d, fr (pPr r) c d → seR d r n m → stC d r k S → R (some (.int 0)) d)
    (HS : ∀ ru ca x, tag 8 (scR (placE m n) n 0) = some (ru, ca, x) → ∀ d, fr (pPr r) c d → seR d r n x.1 → stC d r (k + 1) (puS S k (ru, ca, x.2)) → R (some (.int 1)) d) : wc g (wp_X6_makeStepByPlaces g) c [.ref e] R X := by
  have hn := hse.2.1
  have h64 := hse.2.2.2
  have s11 : ∀ d, fr (pPr r) c d → sl d 11 r 0 (cA d 11 r 0) := fun d hd => ⟨by rw [hd.2.1]; exact hv, rfl⟩
  have L2 : ∀ (w t : Nat) (d : cc_C), t + w = n → fr (pPr r) c d → seR d r n m → stC d r k S → tag 8 (scR (placE m n) w t) = tag 8 (scR (placE m n) n 0) → ec g tb_X6_makeStepByPlaces 2 [some (.ref e), some (.int (nI t))] [] 0 0 d R X := by
    intro w
    induction w with
    | zero =>
      intro t d ht hf hs hst hT
      exact mk_X6_makeStepByPlaces_2 (hf.sl s) (s_count (s11 d hf) hs.1 ⟨_, rfl, fun _ => HN hT.symm d hf hs hst, fun e => absurd (nI_le (by omega) (by omega)) e⟩)
    | succ w ih =>
      intro t d ht hf hs hst hT
      refine mk_X6_makeStepByPlaces_2 (hf.sl s) (s_count (s11 d hf) hs.1 ⟨_, rfl, fun e => absurd e (nI_ge (by omega) (by omega)), fun _ => s_byPlace (s11 d hf) hs rfl (by omega) (fun d1 hd1 hs1 => ⟨_, rfl, ?_⟩)⟩)
      rw [nI_1]
      rw [scR_s] at hT
      refine s_try (ru := 8) (ca := t) (hd1.sl (hf.sl s)) (hf.trans (hd1.mono pSe_Pr)) hs1 (fun h0 => placE_0 h64 (by omega) h0) (stC_fr hd1 pSe_st hst) hk placE_l rfl rfl (fun h0 d2 hf2 hs2 st2 => ⟨_, rfl, fun _ => ?_, fun q => absurd rfl q⟩) (fun h0 d2 hf2 hs2 st2 => ⟨_, rfl, fun q => absurd q (by decide), fun _ => ?_⟩)
      · rw [if_pos h0] at hT
        exact ih (t + 1) d2 (by omega) hf2 hs2 st2 hT
      · rw [if_neg h0] at hT
        exact HS _ _ _ hT.symm d2 hf2 hs2 st2
  exact mk_X6_makeStepByPlaces_0 s (L2 n 0 c (by omega) fr_rfl hse st rfl)
theorem s_mkByPairs {c : cc_C} {r n e k : Nat} {m : Nat → Nat} {S : cc_St} (s : sl c 7 r 0 e) (hv : cV c 11 r 0) (hse : seR c r n m) (st : stC c r k S) (hk : k < 36)
    (HN : paS m n n 0 = none → ∀ d, fr (pPr r) c d → seR d r n m → stC d r k S → R (some (.int 0)) d)
    (HS : ∀ ru ca x, paS m n n 0 = some (ru, ca, x) → ∀ d, fr (pPr r) c d → seR d r n x.1 → stC d r (k + 1) (puS S k (ru, ca, x.2)) → R (some (.int 1)) d) : wc g (wp_X6_makeStepByPairs g) c [.ref e] R X := by
  have hn := hse.2.1
  have h64 := hse.2.2.2
  have s11 : ∀ d, fr (pPr r) c d → sl d 11 r 0 (cA d 11 r 0) := fun d hd => ⟨by rw [hd.2.1]; exact hv, rfl⟩
  have L95 : ∀ (z p : Nat) (L80 : ∀ (d : cc_C) (o2 o3 : Option Value), fr (pPr r) c d → seR d r n m → stC d r k S → paS m n z (p + 1) = paS m n n 0 → ec g tb_X6_makeStepByPairs 2 [some (.ref e), some (.int (nI (p + 1))), o2, o3] [] 0 0 d R X), p < n → ∀ (w q : Nat) (d : cc_C) (o3 : Option Value), q + w = n → p < q → fr (pPr r) c d → seR d r n m → stC d r k S → orE (match scR (pairE m n p) w q with | none => none | some (q, x) => some (9, 10 * p + q, x)) (paS m n z (p + 1)) = paS m n n 0 → ec g tb_X6_makeStepByPairs 17 [some (.ref e), some (.int (nI p)), some (.int (nI q)), o3] [] 0 0 d R X := by
    intro z p L80 hp w
    induction w with
    | zero =>
      intro q d o3 hq hpq hf hs hst hT
      refine mk_X6_makeStepByPairs_17 (hf.sl s) (s_count (s11 d hf) hs.1 ⟨_, rfl, fun _ => ?_, fun e => absurd (nI_le (by omega) (by omega)) e⟩)
      rw [nI_1]
      exact L80 d _ _ hf hs hst hT
    | succ w ih =>
      intro q d o3 hq hpq hf hs hst hT
      refine mk_X6_makeStepByPairs_17 (hf.sl s) (s_count (s11 d hf) hs.1 ⟨_, rfl, fun e => absurd e (nI_ge (by omega) (by omega)), fun _ => s_byPair (s11 d hf) hs rfl rfl hp (by omega) (fun d1 hd1 hs1 => ⟨_, rfl, ?_⟩)⟩)
      have ec9 : (10 : Int32) * nI p + nI q = nI (10 * p + q) := by
        show nI 10 * nI p + nI q = _
        rw [pk_mul, nI_add]
      rw [ec9, nI_1]
      rw [scR_s] at hT
      refine s_try (ru := 9) (ca := 10 * p + q) (hd1.sl (hf.sl s)) (hf.trans (hd1.mono pSe_Pr)) hs1 (fun h0 => pairE_0 h64 h0) (stC_fr hd1 pSe_st hst) hk (pairE_l hn) rfl rfl (fun h0 d2 hf2 hs2 st2 => ⟨_, rfl, fun _ => ?_, fun q => absurd rfl q⟩) (fun h0 d2 hf2 hs2 st2 => ⟨_, rfl, fun q => absurd q (by decide), fun _ => ?_⟩)
      · rw [if_pos h0] at hT
        exact ih (q + 1) d2 _ (by omega) (by omega) hf2 hs2 st2 hT
      · rw [if_neg h0] at hT
        exact HS _ _ _ hT.symm d2 hf2 hs2 st2
  have L80 : ∀ (z p : Nat) (d : cc_C) (o2 o3 : Option Value), p + z = n → fr (pPr r) c d → seR d r n m → stC d r k S → paS m n z p = paS m n n 0 → ec g tb_X6_makeStepByPairs 2 [some (.ref e), some (.int (nI p)), o2, o3] [] 0 0 d R X := by
    intro z
    induction z with
    | zero =>
      intro p d o2 o3 hp hf hs hst hT
      refine mk_X6_makeStepByPairs_2 (hf.sl s) (s_count (s11 d hf) hs.1 ⟨_, rfl, fun _ => HN hT.symm d hf hs hst, fun e => absurd (nI_le (by omega) (by omega)) e⟩)
    | succ z ih =>
      intro p d o2 o3 hp hf hs hst hT
      refine mk_X6_makeStepByPairs_2 (hf.sl s) (s_count (s11 d hf) hs.1 ⟨_, rfl, fun e => absurd e (nI_ge (by omega) (by omega)), fun _ => ?_⟩)
      rw [nI_1]
      exact L95 z p (fun d' o2 o3 hf' hs' hst' hT' => ih (p + 1) d' o2 o3 (by omega) hf' hs' hst' hT') (by omega) (n - (p + 1)) (p + 1) d _ (by omega) (by omega) hf hs hst hT
  exact mk_X6_makeStepByPairs_0 s (L80 n 0 c _ _ (by omega) fr_rfl hse st rfl)
end
