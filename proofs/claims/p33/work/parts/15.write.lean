/-! what a write makes of a state -/
theorem cS_at (c : cc_C) (f i j : Nat) (x : Int32) : cS (cset c f i j x) f i j = x := up3_at _ _ _ _ _
theorem cS_f {c : cc_C} {f i j : Nat} {x : Int32} {f' i' j' : Nat} (h : f' ≠ f) : cS (cset c f i j x) f' i' j' = cS c f' i' j' := up3_f h
theorem cS_ne {c : cc_C} {f i j : Nat} {x : Int32} {f' i' j' : Nat} (h : ¬ (f' = f ∧ i' = i ∧ j' = j)) : cS (cset c f i j x) f' i' j' = cS c f' i' j' := up3_ne h
theorem cP_at (c : cc_C) (p q : Nat) (x : Int64) : cP (cpset c p q x) p q = x := if_pos (c := p = p ∧ q = q) ⟨rfl, rfl⟩
theorem cP_ne {c : cc_C} {p q : Nat} {x : Int64} {p' q' : Nat} (h : ¬ (p' = p ∧ q' = q)) : cP (cpset c p q x) p' q' = cP c p' q' := if_neg h
theorem cS_row (c : cc_C) (f i j : Nat) (x : Int32) : cS (cset c f i j x) f i = upd (cS c f i) j x := up3_row _ _ _ _ _
theorem ct_far {g : Nat → Nat} {c : cc_C} {f i j : Nat} {x : Int32} {k i' : Nat} (hi : ¬ i' = i) (h25 : k ≠ 25) (h21 : k ≠ 21) (j' : Nat) : ct g (cset c f i j x) k i' j' = ct g c k i' j' := by
  have ef : ∀ f', cS (cset c f i j x) f' i' = cS c f' i' := fun f' => up3_fn (fun e => hi e.2)
  unfold ct
  split
  · rfl
  · unfold ct1 dat cN
    rw [ef 40, ef 42, ef 80] <;> rfl
  · unfold ct2 els cN
    rw [ef 80, ef 42] <;> rfl
  · unfold ct3 ivo cN
    rw [ef 120, ef 124, ef 125, ef 126] <;> rfl
  · unfold ct6
    rw [ef 240, ef 241, ef 242, ef 243] <;> rfl
  · unfold ct7
    rw [ef 283, ef 284, ef 286] <;> rfl
  · unfold ct8
    rw [ef 320] <;> rfl
  · unfold ct9
    rw [ef 360] <;> rfl
  · unfold ct10
    rw [ef 400] <;> rfl
  · rfl
  · unfold ct12 cN
    rw [ef 120, ef 480] <;> rfl
  · unfold ct13 cN
    rw [ef 120, ef 520] <;> rfl
  · unfold ct14
    rw [ef 560, ef 561, ef 562, ef 563, ef 564, ef 565] <;> rfl
  · unfold ct15
    rw [ef 600, ef 601] <;> rfl
  · unfold ct16
    rw [ef 640, ef 641] <;> rfl
  · unfold ct17
    rw [ef 680] <;> rfl
  · rfl
  · unfold ct19 cN
    rw [ef 720, ef 760] <;> rfl
  · exact absurd rfl h21
  · unfold ct22
    rw [ef 880] <;> rfl
  · rfl
  · rfl
  · exact absurd rfl h25
  · rfl
theorem CC_seti {g : Nat → Nat} {c : cc_C} {L : List Nat} {h : ab_H} {k f i q a : Nat} {x : Int32} {e : ab_E} (cc : CC g c L h) (s : sl c k i 0 a) (hk : ∀ k', k' ≠ k → sees k' f = false) (h25 : k ≠ 25) (hw : cw (cset c f i q x)) (he : ct g (cset c f i q x) k i 0 = e) : CC g (cset c f i q x) L (va_up h a e) := by
  refine CC_up cc s rfl rfl hw he fun k' i' j' hv hn => ?_
  by_cases hkk : k' = k
  · subst hkk
    have hj : j' = 0 := (cc.2.2.1 k' i' j' hv).1
    by_cases h21 : k' = 21
    · exfalso
      have h1 := (cc.2.2.1 k' i' j' hv).2.1 (by omega)
      have h2 := (cc.2.2.1 k' i 0 s.1).2.1 (by omega)
      exact hn ⟨rfl, by omega, hj⟩
    · exact ct_far (fun e => hn ⟨rfl, e, hj⟩) h25 h21 j'
  · exact ct_blind (hk k' hkk) i' j'
theorem CC_pset {g : Nat → Nat} {c : cc_C} {L : List Nat} {h : ab_H} {k p q a : Nat} {x : Int64} {e : ab_E} (cc : CC g c L h) (s : sl c k 0 0 a) (hk : k = 0 ∧ p = 0 ∨ k = 21 ∧ p = 2 ∨ k = 23 ∧ p = 1) (he : ct g (cpset c p q x) k 0 0 = e) : CC g (cpset c p q x) L (va_up h a e) := by
  refine CC_up cc s rfl rfl cc.2.2 he fun k' i' j' hv hn => ?_
  have hz := cc.2.2.1 k' i' j' hv
  have hne : k' ≠ k := fun e => by
    subst e
    exact hn ⟨rfl, hz.2.1 (by omega), hz.1⟩
  have ne : ∀ p' q', p' ≠ p → up2L (cP c) p q x p' q' = cP c p' q' := fun p' q' h => if_neg fun e => h e.1
  unfold ct
  split <;> try rfl
  · show ct0 g _ i' j' = ct0 g _ i' j'
    unfold ct0
    rw [show cP (cpset c p q x) 0 0 = cP c 0 0 from ne 0 0 (by omega)] <;> rfl
  · show ct21 g _ i' j' = ct21 g _ i' j'
    unfold ct21
    rw [show cP (cpset c p q x) 2 0 = cP c 2 0 from ne 2 0 (by omega)] <;> rfl
  · show ct23 g _ i' j' = ct23 g _ i' j'
    unfold ct23
    rw [show cP (cpset c p q x) 1 = cP c 1 from funext fun q' => ne 1 q' (by omega)]
theorem fw3_4 {g : Nat → Nat} {c : cc_C} {L : List Nat} {h : ab_H} {i : Nat} {a : Nat} {x : Int32} (cc : CC g c L h) (s : sl c 3 i 0 a) : CC g (cset c 124 i 0 x) L (va_up h a (.inr (10, [.int (cS c 120 i 0), .ref (cA c 1 (i + 4) 0), .ref (cA c 7 i 0), .ref (cA c 13 i 0), .int (cS c 124 i 0), .int (cS c 125 i 0), va_rf (ivo c i)].set 4 (.int x)))) := by
  refine CC_seti (k := 3) cc s (fun k' hk => by
    unfold sees
    split <;> first | rfl | exact absurd rfl hk) (by decide) (cw_set cc.2.2 (by decide) (by decide) (by decide)) ?_
  show ct3 g _ i 0 = _
  unfold ct3 ivo cN
  rw [show cS (cset c 124 i 0 x) 124 i 0 = x from cS_at _ _ _ _ _, show cS (cset c 124 i 0 x) 120 i 0 = cS c 120 i 0 from cS_f (by decide), show cS (cset c 124 i 0 x) 125 i 0 = cS c 125 i 0 from cS_f (by decide), show cS (cset c 124 i 0 x) 126 i 0 = cS c 126 i 0 from cS_f (by decide)] <;> rfl
theorem fw3_5 {g : Nat → Nat} {c : cc_C} {L : List Nat} {h : ab_H} {i : Nat} {a : Nat} {x : Int32} (cc : CC g c L h) (s : sl c 3 i 0 a) : CC g (cset c 125 i 0 x) L (va_up h a (.inr (10, [.int (cS c 120 i 0), .ref (cA c 1 (i + 4) 0), .ref (cA c 7 i 0), .ref (cA c 13 i 0), .int (cS c 124 i 0), .int (cS c 125 i 0), va_rf (ivo c i)].set 5 (.int x)))) := by
  refine CC_seti (k := 3) cc s (fun k' hk => by
    unfold sees
    split <;> first | rfl | exact absurd rfl hk) (by decide) (cw_set cc.2.2 (by decide) (by decide) (by decide)) ?_
  show ct3 g _ i 0 = _
  unfold ct3 ivo cN
  rw [show cS (cset c 125 i 0 x) 125 i 0 = x from cS_at _ _ _ _ _, show cS (cset c 125 i 0 x) 120 i 0 = cS c 120 i 0 from cS_f (by decide), show cS (cset c 125 i 0 x) 124 i 0 = cS c 124 i 0 from cS_f (by decide), show cS (cset c 125 i 0 x) 126 i 0 = cS c 126 i 0 from cS_f (by decide)] <;> rfl
theorem fw7_3 {g : Nat → Nat} {c : cc_C} {L : List Nat} {h : ab_H} {i : Nat} {a : Nat} {x : Int32} (cc : CC g c L h) (s : sl c 7 i 0 a) : CC g (cset c 283 i 0 x) L (va_up h a (.inr (9, [.ref (cA c 8 i 0), .ref (cA c 9 i 0), .ref (cA c 10 i 0), .int (cS c 283 i 0), .int (cS c 284 i 0), .ref (cA c 11 i 0), .int (cS c 286 i 0)].set 3 (.int x)))) := by
  refine CC_seti (k := 7) cc s (fun k' hk => by
    unfold sees
    split <;> first | rfl | exact absurd rfl hk) (by decide) (cw_set cc.2.2 (by decide) (by decide) (by decide)) ?_
  show ct7 g _ i 0 = _
  unfold ct7
  rw [show cS (cset c 283 i 0 x) 283 i 0 = x from cS_at _ _ _ _ _, show cS (cset c 283 i 0 x) 284 i 0 = cS c 284 i 0 from cS_f (by decide), show cS (cset c 283 i 0 x) 286 i 0 = cS c 286 i 0 from cS_f (by decide)] <;> rfl
theorem fw7_4 {g : Nat → Nat} {c : cc_C} {L : List Nat} {h : ab_H} {i : Nat} {a : Nat} {x : Int32} (cc : CC g c L h) (s : sl c 7 i 0 a) : CC g (cset c 284 i 0 x) L (va_up h a (.inr (9, [.ref (cA c 8 i 0), .ref (cA c 9 i 0), .ref (cA c 10 i 0), .int (cS c 283 i 0), .int (cS c 284 i 0), .ref (cA c 11 i 0), .int (cS c 286 i 0)].set 4 (.int x)))) := by
  refine CC_seti (k := 7) cc s (fun k' hk => by
    unfold sees
    split <;> first | rfl | exact absurd rfl hk) (by decide) (cw_set cc.2.2 (by decide) (by decide) (by decide)) ?_
  show ct7 g _ i 0 = _
  unfold ct7
  rw [show cS (cset c 284 i 0 x) 284 i 0 = x from cS_at _ _ _ _ _, show cS (cset c 284 i 0 x) 283 i 0 = cS c 283 i 0 from cS_f (by decide), show cS (cset c 284 i 0 x) 286 i 0 = cS c 286 i 0 from cS_f (by decide)] <;> rfl
theorem fw7_6 {g : Nat → Nat} {c : cc_C} {L : List Nat} {h : ab_H} {i : Nat} {a : Nat} {x : Int32} (cc : CC g c L h) (s : sl c 7 i 0 a) : CC g (cset c 286 i 0 x) L (va_up h a (.inr (9, [.ref (cA c 8 i 0), .ref (cA c 9 i 0), .ref (cA c 10 i 0), .int (cS c 283 i 0), .int (cS c 284 i 0), .ref (cA c 11 i 0), .int (cS c 286 i 0)].set 6 (.int x)))) := by
  refine CC_seti (k := 7) cc s (fun k' hk => by
    unfold sees
    split <;> first | rfl | exact absurd rfl hk) (by decide) (cw_set cc.2.2 (by decide) (by decide) (by decide)) ?_
  show ct7 g _ i 0 = _
  unfold ct7
  rw [show cS (cset c 286 i 0 x) 286 i 0 = x from cS_at _ _ _ _ _, show cS (cset c 286 i 0 x) 283 i 0 = cS c 283 i 0 from cS_f (by decide), show cS (cset c 286 i 0 x) 284 i 0 = cS c 284 i 0 from cS_f (by decide)] <;> rfl
theorem fw14_1 {g : Nat → Nat} {c : cc_C} {L : List Nat} {h : ab_H} {i : Nat} {a : Nat} {x : Int32} (cc : CC g c L h) (s : sl c 14 i 0 a) : CC g (cset c 561 i 0 x) L (va_up h a (.inr (7, [.int (cS c 560 i 0), .int (cS c 561 i 0), .int (cS c 562 i 0), .int (cS c 563 i 0), .int (cS c 564 i 0), .int (cS c 565 i 0)].set 1 (.int x)))) := by
  refine CC_seti (k := 14) cc s (fun k' hk => by
    unfold sees
    split <;> first | rfl | exact absurd rfl hk) (by decide) (cw_set cc.2.2 (by decide) (by decide) (by decide)) ?_
  show ct14 g _ i 0 = _
  unfold ct14
  rw [show cS (cset c 561 i 0 x) 561 i 0 = x from cS_at _ _ _ _ _, show cS (cset c 561 i 0 x) 560 i 0 = cS c 560 i 0 from cS_f (by decide), show cS (cset c 561 i 0 x) 562 i 0 = cS c 562 i 0 from cS_f (by decide), show cS (cset c 561 i 0 x) 563 i 0 = cS c 563 i 0 from cS_f (by decide), show cS (cset c 561 i 0 x) 564 i 0 = cS c 564 i 0 from cS_f (by decide), show cS (cset c 561 i 0 x) 565 i 0 = cS c 565 i 0 from cS_f (by decide)] <;> rfl
theorem fw14_2 {g : Nat → Nat} {c : cc_C} {L : List Nat} {h : ab_H} {i : Nat} {a : Nat} {x : Int32} (cc : CC g c L h) (s : sl c 14 i 0 a) : CC g (cset c 562 i 0 x) L (va_up h a (.inr (7, [.int (cS c 560 i 0), .int (cS c 561 i 0), .int (cS c 562 i 0), .int (cS c 563 i 0), .int (cS c 564 i 0), .int (cS c 565 i 0)].set 2 (.int x)))) := by
  refine CC_seti (k := 14) cc s (fun k' hk => by
    unfold sees
    split <;> first | rfl | exact absurd rfl hk) (by decide) (cw_set cc.2.2 (by decide) (by decide) (by decide)) ?_
  show ct14 g _ i 0 = _
  unfold ct14
  rw [show cS (cset c 562 i 0 x) 562 i 0 = x from cS_at _ _ _ _ _, show cS (cset c 562 i 0 x) 560 i 0 = cS c 560 i 0 from cS_f (by decide), show cS (cset c 562 i 0 x) 561 i 0 = cS c 561 i 0 from cS_f (by decide), show cS (cset c 562 i 0 x) 563 i 0 = cS c 563 i 0 from cS_f (by decide), show cS (cset c 562 i 0 x) 564 i 0 = cS c 564 i 0 from cS_f (by decide), show cS (cset c 562 i 0 x) 565 i 0 = cS c 565 i 0 from cS_f (by decide)] <;> rfl
theorem fw15_0 {g : Nat → Nat} {c : cc_C} {L : List Nat} {h : ab_H} {i : Nat} {a : Nat} {x : Int32} (cc : CC g c L h) (s : sl c 15 i 0 a) : CC g (cset c 600 i 0 x) L (va_up h a (.inr (5, [.int (cS c 600 i 0), .int (cS c 601 i 0)].set 0 (.int x)))) := by
  refine CC_seti (k := 15) cc s (fun k' hk => by
    unfold sees
    split <;> first | rfl | exact absurd rfl hk) (by decide) (cw_set cc.2.2 (by decide) (by decide) (by decide)) ?_
  show ct15 g _ i 0 = _
  unfold ct15
  rw [show cS (cset c 600 i 0 x) 600 i 0 = x from cS_at _ _ _ _ _, show cS (cset c 600 i 0 x) 601 i 0 = cS c 601 i 0 from cS_f (by decide)] <;> rfl
theorem fw15_1 {g : Nat → Nat} {c : cc_C} {L : List Nat} {h : ab_H} {i : Nat} {a : Nat} {x : Int32} (cc : CC g c L h) (s : sl c 15 i 0 a) : CC g (cset c 601 i 0 x) L (va_up h a (.inr (5, [.int (cS c 600 i 0), .int (cS c 601 i 0)].set 1 (.int x)))) := by
  refine CC_seti (k := 15) cc s (fun k' hk => by
    unfold sees
    split <;> first | rfl | exact absurd rfl hk) (by decide) (cw_set cc.2.2 (by decide) (by decide) (by decide)) ?_
  show ct15 g _ i 0 = _
  unfold ct15
  rw [show cS (cset c 601 i 0 x) 601 i 0 = x from cS_at _ _ _ _ _, show cS (cset c 601 i 0 x) 600 i 0 = cS c 600 i 0 from cS_f (by decide)] <;> rfl
theorem fw16_0 {g : Nat → Nat} {c : cc_C} {L : List Nat} {h : ab_H} {i : Nat} {a : Nat} {x : Int32} (cc : CC g c L h) (s : sl c 16 i 0 a) : CC g (cset c 640 i 0 x) L (va_up h a (.inr (4, [.int (cS c 640 i 0), .int (cS c 641 i 0), .ref (cA c 17 i 0)].set 0 (.int x)))) := by
  refine CC_seti (k := 16) cc s (fun k' hk => by
    unfold sees
    split <;> first | rfl | exact absurd rfl hk) (by decide) (cw_set cc.2.2 (by decide) (by decide) (by decide)) ?_
  show ct16 g _ i 0 = _
  unfold ct16
  rw [show cS (cset c 640 i 0 x) 640 i 0 = x from cS_at _ _ _ _ _, show cS (cset c 640 i 0 x) 641 i 0 = cS c 641 i 0 from cS_f (by decide)] <;> rfl
theorem fw16_1 {g : Nat → Nat} {c : cc_C} {L : List Nat} {h : ab_H} {i : Nat} {a : Nat} {x : Int32} (cc : CC g c L h) (s : sl c 16 i 0 a) : CC g (cset c 641 i 0 x) L (va_up h a (.inr (4, [.int (cS c 640 i 0), .int (cS c 641 i 0), .ref (cA c 17 i 0)].set 1 (.int x)))) := by
  refine CC_seti (k := 16) cc s (fun k' hk => by
    unfold sees
    split <;> first | rfl | exact absurd rfl hk) (by decide) (cw_set cc.2.2 (by decide) (by decide) (by decide)) ?_
  show ct16 g _ i 0 = _
  unfold ct16
  rw [show cS (cset c 641 i 0 x) 641 i 0 = x from cS_at _ _ _ _ _, show cS (cset c 641 i 0 x) 640 i 0 = cS c 640 i 0 from cS_f (by decide)] <;> rfl
theorem fw21_29 {g : Nat → Nat} {c : cc_C} {L : List Nat} {h : ab_H} {a : Nat} {x : Int32} (cc : CC g c L h) (s : sl c 21 0 0 a) : CC g (cset c 869 0 0 x) L (va_up h a (.inr (12, [.ref (cA c 22 0 0), .ref (cA c 22 1 0), .ref (cA c 22 2 0), .ref (cA c 22 3 0), .ref (cA c 22 4 0), .ref (cA c 22 5 0), .ref (cA c 22 6 0), .ref (cA c 22 7 0), .ref (cA c 22 8 0), .ref (cA c 22 9 0), .ref (cA c 22 10 0), .ref (cA c 22 11 0), .ref (cA c 22 12 0), .ref (cA c 22 13 0), .ref (cA c 22 14 0), .ref (cA c 22 15 0), .ref (cA c 22 16 0), .ref (cA c 22 17 0), .ref (cA c 22 18 0), .ref (cA c 22 19 0), .ref (cA c 22 20 0), .ref (cA c 22 21 0), .ref (cA c 22 22 0), .ref (cA c 22 23 0), .ref (cA c 22 24 0), .ref (cA c 22 25 0), .ref (cA c 22 26 0), .ref (cA c 22 27 0), .long (cP c 2 0), .int (cS c 869 0 0), .int (cS c 870 0 0), .int (cS c 871 0 0), .int (cS c 872 0 0), .int (cS c 873 0 0), .int (cS c 874 0 0), .int (cS c 875 0 0)].set 29 (.int x)))) := by
  refine CC_seti (k := 21) cc s (fun k' hk => by
    unfold sees
    split <;> first | rfl | exact absurd rfl hk) (by decide) (cw_set cc.2.2 (by decide) (by decide) (by decide)) ?_
  show ct21 g _ 0 0 = _
  unfold ct21
  rw [show cS (cset c 869 0 0 x) 869 0 0 = x from cS_at _ _ _ _ _, show cS (cset c 869 0 0 x) 870 0 0 = cS c 870 0 0 from cS_f (by decide), show cS (cset c 869 0 0 x) 871 0 0 = cS c 871 0 0 from cS_f (by decide), show cS (cset c 869 0 0 x) 872 0 0 = cS c 872 0 0 from cS_f (by decide), show cS (cset c 869 0 0 x) 873 0 0 = cS c 873 0 0 from cS_f (by decide), show cS (cset c 869 0 0 x) 874 0 0 = cS c 874 0 0 from cS_f (by decide), show cS (cset c 869 0 0 x) 875 0 0 = cS c 875 0 0 from cS_f (by decide)] <;> rfl
theorem fw21_30 {g : Nat → Nat} {c : cc_C} {L : List Nat} {h : ab_H} {a : Nat} {x : Int32} (cc : CC g c L h) (s : sl c 21 0 0 a) : CC g (cset c 870 0 0 x) L (va_up h a (.inr (12, [.ref (cA c 22 0 0), .ref (cA c 22 1 0), .ref (cA c 22 2 0), .ref (cA c 22 3 0), .ref (cA c 22 4 0), .ref (cA c 22 5 0), .ref (cA c 22 6 0), .ref (cA c 22 7 0), .ref (cA c 22 8 0), .ref (cA c 22 9 0), .ref (cA c 22 10 0), .ref (cA c 22 11 0), .ref (cA c 22 12 0), .ref (cA c 22 13 0), .ref (cA c 22 14 0), .ref (cA c 22 15 0), .ref (cA c 22 16 0), .ref (cA c 22 17 0), .ref (cA c 22 18 0), .ref (cA c 22 19 0), .ref (cA c 22 20 0), .ref (cA c 22 21 0), .ref (cA c 22 22 0), .ref (cA c 22 23 0), .ref (cA c 22 24 0), .ref (cA c 22 25 0), .ref (cA c 22 26 0), .ref (cA c 22 27 0), .long (cP c 2 0), .int (cS c 869 0 0), .int (cS c 870 0 0), .int (cS c 871 0 0), .int (cS c 872 0 0), .int (cS c 873 0 0), .int (cS c 874 0 0), .int (cS c 875 0 0)].set 30 (.int x)))) := by
  refine CC_seti (k := 21) cc s (fun k' hk => by
    unfold sees
    split <;> first | rfl | exact absurd rfl hk) (by decide) (cw_set cc.2.2 (by decide) (by decide) (by decide)) ?_
  show ct21 g _ 0 0 = _
  unfold ct21
  rw [show cS (cset c 870 0 0 x) 870 0 0 = x from cS_at _ _ _ _ _, show cS (cset c 870 0 0 x) 869 0 0 = cS c 869 0 0 from cS_f (by decide), show cS (cset c 870 0 0 x) 871 0 0 = cS c 871 0 0 from cS_f (by decide), show cS (cset c 870 0 0 x) 872 0 0 = cS c 872 0 0 from cS_f (by decide), show cS (cset c 870 0 0 x) 873 0 0 = cS c 873 0 0 from cS_f (by decide), show cS (cset c 870 0 0 x) 874 0 0 = cS c 874 0 0 from cS_f (by decide), show cS (cset c 870 0 0 x) 875 0 0 = cS c 875 0 0 from cS_f (by decide)] <;> rfl
theorem fw21_31 {g : Nat → Nat} {c : cc_C} {L : List Nat} {h : ab_H} {a : Nat} {x : Int32} (cc : CC g c L h) (s : sl c 21 0 0 a) : CC g (cset c 871 0 0 x) L (va_up h a (.inr (12, [.ref (cA c 22 0 0), .ref (cA c 22 1 0), .ref (cA c 22 2 0), .ref (cA c 22 3 0), .ref (cA c 22 4 0), .ref (cA c 22 5 0), .ref (cA c 22 6 0), .ref (cA c 22 7 0), .ref (cA c 22 8 0), .ref (cA c 22 9 0), .ref (cA c 22 10 0), .ref (cA c 22 11 0), .ref (cA c 22 12 0), .ref (cA c 22 13 0), .ref (cA c 22 14 0), .ref (cA c 22 15 0), .ref (cA c 22 16 0), .ref (cA c 22 17 0), .ref (cA c 22 18 0), .ref (cA c 22 19 0), .ref (cA c 22 20 0), .ref (cA c 22 21 0), .ref (cA c 22 22 0), .ref (cA c 22 23 0), .ref (cA c 22 24 0), .ref (cA c 22 25 0), .ref (cA c 22 26 0), .ref (cA c 22 27 0), .long (cP c 2 0), .int (cS c 869 0 0), .int (cS c 870 0 0), .int (cS c 871 0 0), .int (cS c 872 0 0), .int (cS c 873 0 0), .int (cS c 874 0 0), .int (cS c 875 0 0)].set 31 (.int x)))) := by
  refine CC_seti (k := 21) cc s (fun k' hk => by
    unfold sees
    split <;> first | rfl | exact absurd rfl hk) (by decide) (cw_set cc.2.2 (by decide) (by decide) (by decide)) ?_
  show ct21 g _ 0 0 = _
  unfold ct21
  rw [show cS (cset c 871 0 0 x) 871 0 0 = x from cS_at _ _ _ _ _, show cS (cset c 871 0 0 x) 869 0 0 = cS c 869 0 0 from cS_f (by decide), show cS (cset c 871 0 0 x) 870 0 0 = cS c 870 0 0 from cS_f (by decide), show cS (cset c 871 0 0 x) 872 0 0 = cS c 872 0 0 from cS_f (by decide), show cS (cset c 871 0 0 x) 873 0 0 = cS c 873 0 0 from cS_f (by decide), show cS (cset c 871 0 0 x) 874 0 0 = cS c 874 0 0 from cS_f (by decide), show cS (cset c 871 0 0 x) 875 0 0 = cS c 875 0 0 from cS_f (by decide)] <;> rfl
theorem fw21_32 {g : Nat → Nat} {c : cc_C} {L : List Nat} {h : ab_H} {a : Nat} {x : Int32} (cc : CC g c L h) (s : sl c 21 0 0 a) : CC g (cset c 872 0 0 x) L (va_up h a (.inr (12, [.ref (cA c 22 0 0), .ref (cA c 22 1 0), .ref (cA c 22 2 0), .ref (cA c 22 3 0), .ref (cA c 22 4 0), .ref (cA c 22 5 0), .ref (cA c 22 6 0), .ref (cA c 22 7 0), .ref (cA c 22 8 0), .ref (cA c 22 9 0), .ref (cA c 22 10 0), .ref (cA c 22 11 0), .ref (cA c 22 12 0), .ref (cA c 22 13 0), .ref (cA c 22 14 0), .ref (cA c 22 15 0), .ref (cA c 22 16 0), .ref (cA c 22 17 0), .ref (cA c 22 18 0), .ref (cA c 22 19 0), .ref (cA c 22 20 0), .ref (cA c 22 21 0), .ref (cA c 22 22 0), .ref (cA c 22 23 0), .ref (cA c 22 24 0), .ref (cA c 22 25 0), .ref (cA c 22 26 0), .ref (cA c 22 27 0), .long (cP c 2 0), .int (cS c 869 0 0), .int (cS c 870 0 0), .int (cS c 871 0 0), .int (cS c 872 0 0), .int (cS c 873 0 0), .int (cS c 874 0 0), .int (cS c 875 0 0)].set 32 (.int x)))) := by
  refine CC_seti (k := 21) cc s (fun k' hk => by
    unfold sees
    split <;> first | rfl | exact absurd rfl hk) (by decide) (cw_set cc.2.2 (by decide) (by decide) (by decide)) ?_
  show ct21 g _ 0 0 = _
  unfold ct21
  rw [show cS (cset c 872 0 0 x) 872 0 0 = x from cS_at _ _ _ _ _, show cS (cset c 872 0 0 x) 869 0 0 = cS c 869 0 0 from cS_f (by decide), show cS (cset c 872 0 0 x) 870 0 0 = cS c 870 0 0 from cS_f (by decide), show cS (cset c 872 0 0 x) 871 0 0 = cS c 871 0 0 from cS_f (by decide), show cS (cset c 872 0 0 x) 873 0 0 = cS c 873 0 0 from cS_f (by decide), show cS (cset c 872 0 0 x) 874 0 0 = cS c 874 0 0 from cS_f (by decide), show cS (cset c 872 0 0 x) 875 0 0 = cS c 875 0 0 from cS_f (by decide)] <;> rfl
theorem fw21_33 {g : Nat → Nat} {c : cc_C} {L : List Nat} {h : ab_H} {a : Nat} {x : Int32} (cc : CC g c L h) (s : sl c 21 0 0 a) : CC g (cset c 873 0 0 x) L (va_up h a (.inr (12, [.ref (cA c 22 0 0), .ref (cA c 22 1 0), .ref (cA c 22 2 0), .ref (cA c 22 3 0), .ref (cA c 22 4 0), .ref (cA c 22 5 0), .ref (cA c 22 6 0), .ref (cA c 22 7 0), .ref (cA c 22 8 0), .ref (cA c 22 9 0), .ref (cA c 22 10 0), .ref (cA c 22 11 0), .ref (cA c 22 12 0), .ref (cA c 22 13 0), .ref (cA c 22 14 0), .ref (cA c 22 15 0), .ref (cA c 22 16 0), .ref (cA c 22 17 0), .ref (cA c 22 18 0), .ref (cA c 22 19 0), .ref (cA c 22 20 0), .ref (cA c 22 21 0), .ref (cA c 22 22 0), .ref (cA c 22 23 0), .ref (cA c 22 24 0), .ref (cA c 22 25 0), .ref (cA c 22 26 0), .ref (cA c 22 27 0), .long (cP c 2 0), .int (cS c 869 0 0), .int (cS c 870 0 0), .int (cS c 871 0 0), .int (cS c 872 0 0), .int (cS c 873 0 0), .int (cS c 874 0 0), .int (cS c 875 0 0)].set 33 (.int x)))) := by
  refine CC_seti (k := 21) cc s (fun k' hk => by
    unfold sees
    split <;> first | rfl | exact absurd rfl hk) (by decide) (cw_set cc.2.2 (by decide) (by decide) (by decide)) ?_
  show ct21 g _ 0 0 = _
  unfold ct21
  rw [show cS (cset c 873 0 0 x) 873 0 0 = x from cS_at _ _ _ _ _, show cS (cset c 873 0 0 x) 869 0 0 = cS c 869 0 0 from cS_f (by decide), show cS (cset c 873 0 0 x) 870 0 0 = cS c 870 0 0 from cS_f (by decide), show cS (cset c 873 0 0 x) 871 0 0 = cS c 871 0 0 from cS_f (by decide), show cS (cset c 873 0 0 x) 872 0 0 = cS c 872 0 0 from cS_f (by decide), show cS (cset c 873 0 0 x) 874 0 0 = cS c 874 0 0 from cS_f (by decide), show cS (cset c 873 0 0 x) 875 0 0 = cS c 875 0 0 from cS_f (by decide)] <;> rfl
theorem fw21_34 {g : Nat → Nat} {c : cc_C} {L : List Nat} {h : ab_H} {a : Nat} {x : Int32} (cc : CC g c L h) (s : sl c 21 0 0 a) : CC g (cset c 874 0 0 x) L (va_up h a (.inr (12, [.ref (cA c 22 0 0), .ref (cA c 22 1 0), .ref (cA c 22 2 0), .ref (cA c 22 3 0), .ref (cA c 22 4 0), .ref (cA c 22 5 0), .ref (cA c 22 6 0), .ref (cA c 22 7 0), .ref (cA c 22 8 0), .ref (cA c 22 9 0), .ref (cA c 22 10 0), .ref (cA c 22 11 0), .ref (cA c 22 12 0), .ref (cA c 22 13 0), .ref (cA c 22 14 0), .ref (cA c 22 15 0), .ref (cA c 22 16 0), .ref (cA c 22 17 0), .ref (cA c 22 18 0), .ref (cA c 22 19 0), .ref (cA c 22 20 0), .ref (cA c 22 21 0), .ref (cA c 22 22 0), .ref (cA c 22 23 0), .ref (cA c 22 24 0), .ref (cA c 22 25 0), .ref (cA c 22 26 0), .ref (cA c 22 27 0), .long (cP c 2 0), .int (cS c 869 0 0), .int (cS c 870 0 0), .int (cS c 871 0 0), .int (cS c 872 0 0), .int (cS c 873 0 0), .int (cS c 874 0 0), .int (cS c 875 0 0)].set 34 (.int x)))) := by
  refine CC_seti (k := 21) cc s (fun k' hk => by
    unfold sees
    split <;> first | rfl | exact absurd rfl hk) (by decide) (cw_set cc.2.2 (by decide) (by decide) (by decide)) ?_
  show ct21 g _ 0 0 = _
  unfold ct21
  rw [show cS (cset c 874 0 0 x) 874 0 0 = x from cS_at _ _ _ _ _, show cS (cset c 874 0 0 x) 869 0 0 = cS c 869 0 0 from cS_f (by decide), show cS (cset c 874 0 0 x) 870 0 0 = cS c 870 0 0 from cS_f (by decide), show cS (cset c 874 0 0 x) 871 0 0 = cS c 871 0 0 from cS_f (by decide), show cS (cset c 874 0 0 x) 872 0 0 = cS c 872 0 0 from cS_f (by decide), show cS (cset c 874 0 0 x) 873 0 0 = cS c 873 0 0 from cS_f (by decide), show cS (cset c 874 0 0 x) 875 0 0 = cS c 875 0 0 from cS_f (by decide)] <;> rfl
theorem fw21_35 {g : Nat → Nat} {c : cc_C} {L : List Nat} {h : ab_H} {a : Nat} {x : Int32} (cc : CC g c L h) (s : sl c 21 0 0 a) : CC g (cset c 875 0 0 x) L (va_up h a (.inr (12, [.ref (cA c 22 0 0), .ref (cA c 22 1 0), .ref (cA c 22 2 0), .ref (cA c 22 3 0), .ref (cA c 22 4 0), .ref (cA c 22 5 0), .ref (cA c 22 6 0), .ref (cA c 22 7 0), .ref (cA c 22 8 0), .ref (cA c 22 9 0), .ref (cA c 22 10 0), .ref (cA c 22 11 0), .ref (cA c 22 12 0), .ref (cA c 22 13 0), .ref (cA c 22 14 0), .ref (cA c 22 15 0), .ref (cA c 22 16 0), .ref (cA c 22 17 0), .ref (cA c 22 18 0), .ref (cA c 22 19 0), .ref (cA c 22 20 0), .ref (cA c 22 21 0), .ref (cA c 22 22 0), .ref (cA c 22 23 0), .ref (cA c 22 24 0), .ref (cA c 22 25 0), .ref (cA c 22 26 0), .ref (cA c 22 27 0), .long (cP c 2 0), .int (cS c 869 0 0), .int (cS c 870 0 0), .int (cS c 871 0 0), .int (cS c 872 0 0), .int (cS c 873 0 0), .int (cS c 874 0 0), .int (cS c 875 0 0)].set 35 (.int x)))) := by
  refine CC_seti (k := 21) cc s (fun k' hk => by
    unfold sees
    split <;> first | rfl | exact absurd rfl hk) (by decide) (cw_set cc.2.2 (by decide) (by decide) (by decide)) ?_
  show ct21 g _ 0 0 = _
  unfold ct21
  rw [show cS (cset c 875 0 0 x) 875 0 0 = x from cS_at _ _ _ _ _, show cS (cset c 875 0 0 x) 869 0 0 = cS c 869 0 0 from cS_f (by decide), show cS (cset c 875 0 0 x) 870 0 0 = cS c 870 0 0 from cS_f (by decide), show cS (cset c 875 0 0 x) 871 0 0 = cS c 871 0 0 from cS_f (by decide), show cS (cset c 875 0 0 x) 872 0 0 = cS c 872 0 0 from cS_f (by decide), show cS (cset c 875 0 0 x) 873 0 0 = cS c 873 0 0 from cS_f (by decide), show cS (cset c 875 0 0 x) 874 0 0 = cS c 874 0 0 from cS_f (by decide)] <;> rfl
theorem cw_iss {c : cc_C} {i : Nat} {x : Int32} (hw : cw c) (hx : ¬ x = 0 → cV c 15 (x.toNatClampNeg - 1) 0) : cw (cset c 126 i 0 x) := by
  obtain ⟨a1, a2, a3, a4, a5, a6, a7, a8, a9, a11, a10⟩ := hw
  have e2 : ∀ i', cS (cset c 126 i 0 x) 42 i' 0 = cS c 42 i' 0 := fun i' => cS_f (by decide)
  have e3 : ∀ i', cS (cset c 126 i 0 x) 80 i' 0 = cS c 80 i' 0 := fun i' => cS_f (by decide)
  refine ⟨a1, a2, fun i' hv => ?_, a4, a5, a6, a7, a8, a9, a11, fun i' hv => ?_⟩
  · obtain ⟨b1, b2, b3, b4⟩ := a3 i' hv
    refine ⟨b1, b2, b3, ?_⟩
    unfold cN
    by_cases hi : i' = i
    · subst hi
      rw [show cS (cset c 126 i' 0 x) 126 i' 0 = x from cS_at _ _ _ _ _]
      exact hx
    · rw [show cS (cset c 126 i 0 x) 126 i' 0 = cS c 126 i' 0 from cS_ne (fun e => hi e.2.1)]
      exact b4
  · have := a10 i' hv
    unfold cN at this ⊢
    rw [e2, e3]
    exact this
theorem fw3_6n {g : Nat → Nat} {c : cc_C} {L : List Nat} {h : ab_H} {i a : Nat} (cc : CC g c L h) (s : sl c 3 i 0 a) : CC g (cset c 126 i 0 0) L (va_up h a (.inr (10, [.int (cS c 120 i 0), .ref (cA c 1 (i + 4) 0), .ref (cA c 7 i 0), .ref (cA c 13 i 0), .int (cS c 124 i 0), .int (cS c 125 i 0), va_rf (ivo c i)].set 6 .null))) := by
  refine CC_seti (k := 3) cc s (fun k' hk => by
    unfold sees
    split <;> first | rfl | exact absurd rfl hk) (by decide) (cw_iss cc.2.2 (fun h => absurd rfl h)) ?_
  show ct3 g _ i 0 = _
  unfold ct3 ivo cN
  rw [show cS (cset c 126 i 0 0) 126 i 0 = 0 from cS_at _ _ _ _ _, show cS (cset c 126 i 0 0) 120 i 0 = cS c 120 i 0 from cS_f (by decide), show cS (cset c 126 i 0 0) 124 i 0 = cS c 124 i 0 from cS_f (by decide), show cS (cset c 126 i 0 0) 125 i 0 = cS c 125 i 0 from cS_f (by decide)]
  rw [if_pos rfl] <;> rfl
theorem fw3_6r {g : Nat → Nat} {c : cc_C} {L : List Nat} {h : ab_H} {i a : Nat} {m b : Nat} (hm : m < 1000) (sm : sl c 15 m 0 b) (cc : CC g c L h) (s : sl c 3 i 0 a) : CC g (cset c 126 i 0 (Int32.ofNat (m + 1))) L (va_up h a (.inr (10, [.int (cS c 120 i 0), .ref (cA c 1 (i + 4) 0), .ref (cA c 7 i 0), .ref (cA c 13 i 0), .int (cS c 124 i 0), .int (cS c 125 i 0), va_rf (ivo c i)].set 6 (.ref b)))) := by
  have hc : (Int32.ofNat (m + 1)).toNatClampNeg = m + 1 := nI_clamp (by omega)
  have hz : ¬ Int32.ofNat (m + 1) = 0 := fun e => by
    have h1 := congrArg Int32.toNatClampNeg e
    rw [hc, sb_cl0] at h1
    omega
  refine CC_seti (k := 3) cc s (fun k' hk => by
    unfold sees
    split <;> first | rfl | exact absurd rfl hk) (by decide) (cw_iss cc.2.2 (fun _ => by rw [hc]; exact sm.1)) ?_
  show ct3 g _ i 0 = _
  unfold ct3 ivo cN
  rw [show cS (cset c 126 i 0 (Int32.ofNat (m + 1))) 126 i 0 = (Int32.ofNat (m + 1)) from cS_at _ _ _ _ _, show cS (cset c 126 i 0 (Int32.ofNat (m + 1))) 120 i 0 = cS c 120 i 0 from cS_f (by decide), show cS (cset c 126 i 0 (Int32.ofNat (m + 1))) 124 i 0 = cS c 124 i 0 from cS_f (by decide), show cS (cset c 126 i 0 (Int32.ofNat (m + 1))) 125 i 0 = cS c 125 i 0 from cS_f (by decide)]
  rw [if_neg hz, hc, show m + 1 - 1 = m from rfl, show cA (cset c 126 i 0 (Int32.ofNat (m + 1))) 15 m 0 = b from sm.2] <;> rfl
theorem aw8 {g : Nat → Nat} {c : cc_C} {L : List Nat} {h : ab_H} {i a e : Nat} {x : Int32} (cc : CC g c L h) (s : sl c 8 i 0 a) : CC g (cset c 320 i e x) L (va_up h a (.inl (0, 36, .inl (upd (cS c 320 i) e x)))) := by
  refine CC_seti (k := 8) cc s (fun k' hk => by
    unfold sees
    split <;> first | rfl | exact absurd rfl hk) (by decide) (cw_set cc.2.2 (by decide) (by decide) (by decide)) ?_
  show ct8 g _ i 0 = _
  unfold ct8
  rw [show cS (cset c 320 i e x) 320 i = upd (cS c 320 i) e x from cS_row _ _ _ _ _]
theorem aw9 {g : Nat → Nat} {c : cc_C} {L : List Nat} {h : ab_H} {i a e : Nat} {x : Int32} (cc : CC g c L h) (s : sl c 9 i 0 a) : CC g (cset c 360 i e x) L (va_up h a (.inl (0, 36, .inl (upd (cS c 360 i) e x)))) := by
  refine CC_seti (k := 9) cc s (fun k' hk => by
    unfold sees
    split <;> first | rfl | exact absurd rfl hk) (by decide) (cw_set cc.2.2 (by decide) (by decide) (by decide)) ?_
  show ct9 g _ i 0 = _
  unfold ct9
  rw [show cS (cset c 360 i e x) 360 i = upd (cS c 360 i) e x from cS_row _ _ _ _ _]
theorem aw10 {g : Nat → Nat} {c : cc_C} {L : List Nat} {h : ab_H} {i a e : Nat} {x : Int32} (cc : CC g c L h) (s : sl c 10 i 0 a) : CC g (cset c 400 i e x) L (va_up h a (.inl (0, 36, .inl (upd (cS c 400 i) e x)))) := by
  refine CC_seti (k := 10) cc s (fun k' hk => by
    unfold sees
    split <;> first | rfl | exact absurd rfl hk) (by decide) (cw_set cc.2.2 (by decide) (by decide) (by decide)) ?_
  show ct10 g _ i 0 = _
  unfold ct10
  rw [show cS (cset c 400 i e x) 400 i = upd (cS c 400 i) e x from cS_row _ _ _ _ _]
theorem aw12 {g : Nat → Nat} {c : cc_C} {L : List Nat} {h : ab_H} {i a e : Nat} {x : Int32} (cc : CC g c L h) (s : sl c 12 i 0 a) : CC g (cset c 480 i e x) L (va_up h a (.inl (0, cN c 120 i, .inl (upd (cS c 480 i) e x)))) := by
  refine CC_seti (k := 12) cc s (fun k' hk => by
    unfold sees
    split <;> first | rfl | exact absurd rfl hk) (by decide) (cw_set cc.2.2 (by decide) (by decide) (by decide)) ?_
  show ct12 g _ i 0 = _
  unfold ct12 cN
  rw [show cS (cset c 480 i e x) 480 i = upd (cS c 480 i) e x from cS_row _ _ _ _ _, show cS (cset c 480 i e x) 120 i 0 = cS c 120 i 0 from cS_f (by decide)]
theorem aw13 {g : Nat → Nat} {c : cc_C} {L : List Nat} {h : ab_H} {i a e : Nat} {x : Int32} (cc : CC g c L h) (s : sl c 13 i 0 a) : CC g (cset c 520 i e x) L (va_up h a (.inl (0, cN c 120 i, .inl (upd (cS c 520 i) e x)))) := by
  refine CC_seti (k := 13) cc s (fun k' hk => by
    unfold sees
    split <;> first | rfl | exact absurd rfl hk) (by decide) (cw_set cc.2.2 (by decide) (by decide) (by decide)) ?_
  show ct13 g _ i 0 = _
  unfold ct13 cN
  rw [show cS (cset c 520 i e x) 520 i = upd (cS c 520 i) e x from cS_row _ _ _ _ _, show cS (cset c 520 i e x) 120 i 0 = cS c 120 i 0 from cS_f (by decide)]
theorem aw17 {g : Nat → Nat} {c : cc_C} {L : List Nat} {h : ab_H} {i a e : Nat} {x : Int32} (cc : CC g c L h) (s : sl c 17 i 0 a) : CC g (cset c 680 i e x) L (va_up h a (.inl (1, 12, .inl (upd (cS c 680 i) e x)))) := by
  refine CC_seti (k := 17) cc s (fun k' hk => by
    unfold sees
    split <;> first | rfl | exact absurd rfl hk) (by decide) (cw_set cc.2.2 (by decide) (by decide) (by decide)) ?_
  show ct17 g _ i 0 = _
  unfold ct17
  rw [show cS (cset c 680 i e x) 680 i = upd (cS c 680 i) e x from cS_row _ _ _ _ _]
theorem aw19 {g : Nat → Nat} {c : cc_C} {L : List Nat} {h : ab_H} {i a e : Nat} {x : Int32} (cc : CC g c L h) (s : sl c 19 i 0 a) : CC g (cset c 760 i e x) L (va_up h a (.inl (0, cN c 720 i, .inl (upd (cS c 760 i) e x)))) := by
  refine CC_seti (k := 19) cc s (fun k' hk => by
    unfold sees
    split <;> first | rfl | exact absurd rfl hk) (by decide) (cw_set cc.2.2 (by decide) (by decide) (by decide)) ?_
  show ct19 g _ i 0 = _
  unfold ct19 cN
  rw [show cS (cset c 760 i e x) 760 i = upd (cS c 760 i) e x from cS_row _ _ _ _ _, show cS (cset c 760 i e x) 720 i 0 = cS c 720 i 0 from cS_f (by decide)]
theorem aw22 {g : Nat → Nat} {c : cc_C} {L : List Nat} {h : ab_H} {i a e : Nat} {x : Int32} (cc : CC g c L h) (s : sl c 22 i 0 a) : CC g (cset c 880 i e x) L (va_up h a (.inl (0, mlen i, .inl (upd (cS c 880 i) e x)))) := by
  refine CC_seti (k := 22) cc s (fun k' hk => by
    unfold sees
    split <;> first | rfl | exact absurd rfl hk) (by decide) (cw_set cc.2.2 (by decide) (by decide) (by decide)) ?_
  show ct22 g _ i 0 = _
  unfold ct22
  rw [show cS (cset c 880 i e x) 880 i = upd (cS c 880 i) e x from cS_row _ _ _ _ _]
theorem fw0_4 {g : Nat → Nat} {c : cc_C} {L : List Nat} {h : ab_H} {a : Nat} {x : Int64} (cc : CC g c L h) (s : sl c 0 0 0 a) : CC g (cpset c 0 0 x) L (va_up h a (.inr (11, [.ref (cA c 1 0 0), .ref (cA c 1 1 0), .ref (cA c 1 2 0), .ref (cA c 1 3 0), .long (cP c 0 0)].set 4 (.long x)))) := by
  refine CC_pset (k := 0) cc s (by decide) ?_
  show ct0 g _ 0 0 = _
  unfold ct0
  rw [show cP (cpset c 0 0 x) 0 0 = x from cP_at _ _ _ _] <;> rfl
theorem fw21_28 {g : Nat → Nat} {c : cc_C} {L : List Nat} {h : ab_H} {a : Nat} {x : Int64} (cc : CC g c L h) (s : sl c 21 0 0 a) : CC g (cpset c 2 0 x) L (va_up h a (.inr (12, [.ref (cA c 22 0 0), .ref (cA c 22 1 0), .ref (cA c 22 2 0), .ref (cA c 22 3 0), .ref (cA c 22 4 0), .ref (cA c 22 5 0), .ref (cA c 22 6 0), .ref (cA c 22 7 0), .ref (cA c 22 8 0), .ref (cA c 22 9 0), .ref (cA c 22 10 0), .ref (cA c 22 11 0), .ref (cA c 22 12 0), .ref (cA c 22 13 0), .ref (cA c 22 14 0), .ref (cA c 22 15 0), .ref (cA c 22 16 0), .ref (cA c 22 17 0), .ref (cA c 22 18 0), .ref (cA c 22 19 0), .ref (cA c 22 20 0), .ref (cA c 22 21 0), .ref (cA c 22 22 0), .ref (cA c 22 23 0), .ref (cA c 22 24 0), .ref (cA c 22 25 0), .ref (cA c 22 26 0), .ref (cA c 22 27 0), .long (cP c 2 0), .int (cS c 869 0 0), .int (cS c 870 0 0), .int (cS c 871 0 0), .int (cS c 872 0 0), .int (cS c 873 0 0), .int (cS c 874 0 0), .int (cS c 875 0 0)].set 28 (.long x)))) := by
  refine CC_pset (k := 21) cc s (by decide) ?_
  show ct21 g _ 0 0 = _
  unfold ct21
  rw [show cP (cpset c 2 0 x) 2 0 = x from cP_at _ _ _ _] <;> rfl
