section
variable {g : Nat → Nat} {R : Option Value → cc_C → Prop} {X : String → cc_C → Prop}
theorem pMk_no {r : Nat} : ∀ f i, f = 120 ∨ f = 126 ∨ f = 42 ∨ f = 80 ∨ (240 ≤ f ∧ f ≤ 243) → ¬ pMk r f i := by
  intro f i h q
  have := q.2
  omega
theorem pMk_no2 {r : Nat} : ∀ f i, f = 42 ∨ (560 ≤ f ∧ f ≤ 565) → ¬ pMk r f i := by
  intro f i h q
  have := q.2
  omega
theorem pPr_Mk {r : Nat} : ∀ f i, pPr r f i → pMk r f i := by
  intro f i h
  have := h.2
  exact ⟨h.1, by omega⟩
theorem s_makeLoop {c0 : cc_C} {r n nc nO e a b : Nat} {O : cc_O} (s : sl c0 7 r 0 e) (s2 : sl c0 1 (r + 4) 0 a) (s3 : sl c0 1 1 0 b) (o : ansOk c0 r n nc) (ow : owC c0 nO O) (oO : okO nO O) : ∀ (d i : Nat) (c : cc_C) (m : Nat → Nat) (S : cc_St) (o5 : Option Value), i + d = 36 → fr (pMk r) c0 c → seR c r n m → stC c r i S → eE m n = false → i + smB m n ≤ 36 → (∀ z, fr (pMk r) c0 z → stC z r (rnS (clC c0 r) O n nc nO d m i S).2.1 (rnS (clC c0 r) O n nc nO d m i S).2.2 → cS z 284 r 0 = outS (rnS (clC c0 r) O n nc nO d m i S).1 n → R none z) → ec g tb_X6_make 16 [some (.ref e), some (.ref a), some (.ref b), some (.int 1), some (.int (nI i)), o5] [] 0 0 c R X := by
  intro d
  induction d with
  | zero =>
    intro i c m S o5 hi hf hs hst he hsm H
    exfalso
    have := smB_pos hs.2.2.2 he
    have := o.2.2.2.2.1
    omega
  | succ d ih =>
    intro i c m S o5 hi hf hs hst he hsm H
    have oc := ansOk_fr hf pMk_no o
    have owc := owC_fr hf pMk_no2 ow
    have eK : clC c r = clC c0 r := clC_fr hf (fun f i a b => pMk_no f i (by omega))
    have v11 : ∀ z, fr (pMk r) c0 z → cV z 11 r 0 := fun z hz => by
      rw [hz.2.1]
      exact (o.2.1.2.2.2.1 r s.1).2.2.2
    have er : rnS (clC c0 r) O n nc nO (d + 1) m i S = match stpS (clC c0 r) O n nc nO m with
      | none => (m, i, S)
      | some (ru, ca, x) => if eE x.1 n = true then (x.1, i + 1, puS S i (ru, ca, x.2)) else rnS (clC c0 r) O n nc nO d x.1 (i + 1) (puS S i (ru, ca, x.2)) := rfl
    have out : ∀ (z : cc_C) (m' : Nat → Nat) (k' : Nat) (S' : cc_St) (y : Int32) (o5 : Option Value), fr (pMk r) c0 z → seR z r n m' → stC z r k' S' → rnS (clC c0 r) O n nc nO (d + 1) m i S = (m', k', S') → ec g tb_X6_make 16 [some (.ref e), some (.ref a), some (.ref b), some (.int 0), some (.int y), o5] [] 0 0 z R X := by
      intro z m' k' S' y o5 hz hs' st' hr
      rw [hr] at H
      refine mk_X6_make_16 (hz.sl s) (hz.sl s2) (hz.sl s3) ⟨fun _ => s_outcome hz (v11 z hz) hs' (fun w hw h284 hrest => H w hw ?_ h284), fun q => absurd rfl q⟩
      unfold stC
      rw [hrest 283 (by decide), hrest 320 (by decide), hrest 360 (by decide), hrest 400 (by decide), hrest 286 (by decide)]
      exact st'
    refine mk_X6_make_16 (hf.sl s) (hf.sl s2) (hf.sl s3) ⟨fun q => absurd q (by decide), fun _ => ⟨fun q => absurd q (nI_ge (a := i) (b := 36) (by omega) (by omega)), fun _ => s_step5 (Q0 := fun z => ec g tb_X6_make 16 [some (.ref e), some (.ref a), some (.ref b), some (.int 0), some (.int (nI i + 1)), some (.int 0)] [] 0 0 z R X) (Q1 := fun z => ec g tb_X6_make 65 [some (.ref e), some (.ref a), some (.ref b), some (.int 1), some (.int (nI i)), o5] [] 0 0 z R X) (hf.sl s) (hf.sl s2) (hf.sl s3) oc owc hs hst (by omega) (fun h0 z hz hs' st' => ?_) (fun ru ca x h0 z hz hs' st' => ?_)⟩⟩
    · rw [eK] at h0
      rw [h0] at er
      exact out z m i S _ _ (hf.trans (hz.mono pPr_Mk)) hs' st' er
    · rw [eK] at h0
      rw [h0] at er
      have hz2 := hf.trans (hz.mono pPr_Mk)
      have hg := stpS_g hs.2.2.2 hs.2.1 o.2.2.2.2.2.2.2 oO h0
      have f1 : smB x.1 n + x.2 = smB m n := hg.1.1
      have f2 : x.2 ≠ 0 := hg.2.1
      refine mk_X6_make_65 (hz2.sl s) (hz2.sl s2) (hz2.sl s3) (s_isSomeoneWithout ⟨v11 z hz2, rfl⟩ hs' ⟨_, rfl, fun q => ?_, fun q => ?_⟩)
      · have he' : eE x.1 n = false := by
          cases h : eE x.1 n with
          | false => rfl
          | true => rw [h] at q; exact absurd q (by decide)
        have er' : rnS (clC c0 r) O n nc nO (d + 1) m i S = rnS (clC c0 r) O n nc nO d x.1 (i + 1) (puS S i (ru, ca, x.2)) := er.trans (if_neg (by rw [he']; decide))
        rw [er'] at H
        rw [nI_1]
        exact ih (i + 1) z x.1 _ _ (by omega) hz2 hs' st' he' (by omega) H
      · have he' : eE x.1 n = true := by
          cases h : eE x.1 n with
          | true => rfl
          | false => rw [h] at q; exact absurd rfl q
        have er' : rnS (clC c0 r) O n nc nO (d + 1) m i S = (x.1, i + 1, puS S i (ru, ca, x.2)) := er.trans (if_pos he')
        exact out z x.1 (i + 1) _ _ _ hz2 hs' st' er'
end
