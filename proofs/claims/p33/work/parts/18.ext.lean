/-! states grow: new places -/
theorem CC_ext {g : Nat → Nat} {c d : cc_C} {L L' : List Nat} {h h' : ab_H} (cc : CC g c L h) (hL : ∀ b, b ∈ L → b ∈ L') (hh : ∀ b, b ∈ L → h' b = h b) (hV : ∀ k i j, cV d k i j → (cV c k i j ∧ cA d k i j = cA c k i j ∧ ct g d k i j = ct g c k i j) ∨ (cA d k i j ∉ L ∧ cA d k i j ∈ L' ∧ h' (cA d k i j) = ct g d k i j)) (hI : ∀ k i j k' i' j', cV d k i j → cA d k i j ∉ L → cV d k' i' j' → cA d k' i' j' ∉ L → cA d k i j = cA d k' i' j' → k = k' ∧ i = i' ∧ j = j') (hw : cw d) : CC g d L' h' := by
  refine ⟨fun k i j hv => ?_, fun k i j k' i' j' hv hv' e => ?_, hw⟩
  · rcases hV k i j hv with ⟨h1, h2, h3⟩ | ⟨h1, h2, h3⟩
    · obtain ⟨m1, m2⟩ := cc.1 k i j h1
      rw [h2, h3]
      exact ⟨hL _ m1, (hh _ m1).trans m2⟩
    · exact ⟨h2, h3⟩
  · rcases hV k i j hv with ⟨h1, h2, -⟩ | ⟨h1, -, -⟩ <;> rcases hV k' i' j' hv' with ⟨h1', h2', -⟩ | ⟨h1', -, -⟩
    · exact cc.2.1 _ _ _ _ _ _ h1 h1' (by rw [← h2, ← h2', e])
    · exfalso
      rw [← e, h2] at h1'
      exact h1' (cc.1 k i j h1).1
    · exfalso
      rw [e, h2'] at h1
      exact h1 (cc.1 k' i' j' h1').1
    · exact hI _ _ _ _ _ _ hv h1 hv' h1' e
theorem ct_ext {g : Nat → Nat} {c d : cc_C} (hw : cw c) {k i : Nat} (hv : cV c k i 0) (hA : ∀ k' i', cV c k' i' 0 → k' ≠ 2 → cA d k' i' 0 = cA c k' i' 0) (hA2 : k = 1 → cV c 2 i 0 → cA d 2 i 0 = cA c 2 i 0) (h5 : ∀ r e, cV c 1 (r + 4) 0 → e < cN c 42 (r + 4) → cA d 5 r e = cA c 5 r e) (hS : ∀ f, sees k f = true → cS d f i = cS c f i) (hP : cP d = cP c) (hD : cD d = cD c) (j : Nat) : ct g d k i j = ct g c k i j := by
  obtain ⟨a1, a2, a3, a4, a5, a6, a7, a8, a9, a11, a10⟩ := hw
  unfold ct
  unfold sees at hS
  split
  · have hi : i = 0 := (a1 _ _ _ hv).2.1 (by decide)
    subst hi
    obtain ⟨b1, b2, b3, b4⟩ := a2 hv
    unfold ct0
    rw [hA _ _ b1 (by decide), hA _ _ b2 (by decide), hA _ _ b3 (by decide), hA _ _ b4 (by decide), hP]
  · obtain ⟨b1, b2, b3, b4⟩ := a10 i hv
    have hd : (if (cS c 80 i 0).toNatClampNeg = 0 then g 0 else cA d 2 i 0) = if (cS c 80 i 0).toNatClampNeg = 0 then g 0 else cA c 2 i 0 := by
      by_cases hz : (cS c 80 i 0).toNatClampNeg = 0
      · rw [if_pos hz, if_pos hz]
      · rw [if_neg hz, if_neg hz, hA2 rfl (b3 hz)]
    unfold ct1 dat cN
    rw [hS 40 rfl, hS 42 rfl, hS 80 rfl, hd]
  · obtain ⟨b1, b2, b3, b4⟩ := a10 i ((a11 i).1 hv)
    have he : els d i = els c i := by
      funext e
      unfold els cN
      rw [hS 42 rfl]
      by_cases hz : e < (cS c 42 i 0).toNatClampNeg
      · rw [if_pos hz, if_pos hz]
        have hel := b4 e hz
        have hq := (a11 i).1 hv
        unfold el
        unfold elV at hel
        split
        · rw [hA 3 e hel (by decide)]
        · rw [hA 14 e hel (by decide)]
        · rw [hA 15 e hel (by decide)]
        · rw [hA 16 e hel (by decide)]
        · rw [h5 _ e hq hz]
      · rw [if_neg hz, if_neg hz]
    unfold ct2 cN
    rw [hS 80 rfl, he]
  · obtain ⟨b1, b2, b3, b4⟩ := a3 i hv
    have hd : (if cS c 126 i 0 = 0 then none else some (cA d 15 ((cS c 126 i 0).toNatClampNeg - 1) 0)) = if cS c 126 i 0 = 0 then none else some (cA c 15 ((cS c 126 i 0).toNatClampNeg - 1) 0) := by
      by_cases hz : cS c 126 i 0 = 0
      · rw [if_pos hz, if_pos hz]
      · rw [if_neg hz, if_neg hz]
        have := hA 15 _ (b4 hz) (by decide)
        unfold cN at this
        rw [this]
    unfold ct3 ivo cN
    rw [hS 120 rfl, hS 124 rfl, hS 125 rfl, hS 126 rfl, hA _ _ b1 (by decide), hA _ _ b2 (by decide), hA _ _ b3 (by decide), hd]
  · unfold ct6
    rw [hS 240 rfl, hS 241 rfl, hS 242 rfl, hS 243 rfl]
  · obtain ⟨b1, b2, b3, b4⟩ := a4 i hv
    unfold ct7
    rw [hS 283 rfl, hS 284 rfl, hS 286 rfl, hA _ _ b1 (by decide), hA _ _ b2 (by decide), hA _ _ b3 (by decide), hA _ _ b4 (by decide)]
  · unfold ct8
    rw [hS 320 rfl]
  · unfold ct9
    rw [hS 360 rfl]
  · unfold ct10
    rw [hS 400 rfl]
  · unfold ct11
    rw [hA _ _ (a5 i hv) (by decide)]
  · unfold ct12 cN
    rw [hS 120 rfl, hS 480 rfl]
  · unfold ct13 cN
    rw [hS 120 rfl, hS 520 rfl]
  · unfold ct14
    rw [hS 560 rfl, hS 561 rfl, hS 562 rfl, hS 563 rfl, hS 564 rfl, hS 565 rfl]
  · unfold ct15
    rw [hS 600 rfl, hS 601 rfl]
  · unfold ct16
    rw [hS 640 rfl, hS 641 rfl, hA _ _ (a6 i hv) (by decide)]
  · unfold ct17
    rw [hS 680 rfl]
  · unfold ct18
    rw [hA _ _ (a7 i hv).1 (by decide)]
  · unfold ct19 cN
    rw [hS 720 rfl, hS 760 rfl]
  · have hi : i = 0 := (a1 _ _ _ hv).2.1 (by decide)
    subst hi
    unfold ct21
    rw [hS 869 rfl, hS 870 rfl, hS 871 rfl, hS 872 rfl, hS 873 rfl, hS 874 rfl, hS 875 rfl, hA 22 0 (a9 hv 0 (by decide)) (by decide), hA 22 1 (a9 hv 1 (by decide)) (by decide), hA 22 2 (a9 hv 2 (by decide)) (by decide), hA 22 3 (a9 hv 3 (by decide)) (by decide), hA 22 4 (a9 hv 4 (by decide)) (by decide), hA 22 5 (a9 hv 5 (by decide)) (by decide), hA 22 6 (a9 hv 6 (by decide)) (by decide), hA 22 7 (a9 hv 7 (by decide)) (by decide), hA 22 8 (a9 hv 8 (by decide)) (by decide), hA 22 9 (a9 hv 9 (by decide)) (by decide), hA 22 10 (a9 hv 10 (by decide)) (by decide), hA 22 11 (a9 hv 11 (by decide)) (by decide), hA 22 12 (a9 hv 12 (by decide)) (by decide), hA 22 13 (a9 hv 13 (by decide)) (by decide), hA 22 14 (a9 hv 14 (by decide)) (by decide), hA 22 15 (a9 hv 15 (by decide)) (by decide), hA 22 16 (a9 hv 16 (by decide)) (by decide), hA 22 17 (a9 hv 17 (by decide)) (by decide), hA 22 18 (a9 hv 18 (by decide)) (by decide), hA 22 19 (a9 hv 19 (by decide)) (by decide), hA 22 20 (a9 hv 20 (by decide)) (by decide), hA 22 21 (a9 hv 21 (by decide)) (by decide), hA 22 22 (a9 hv 22 (by decide)) (by decide), hA 22 23 (a9 hv 23 (by decide)) (by decide), hA 22 24 (a9 hv 24 (by decide)) (by decide), hA 22 25 (a9 hv 25 (by decide)) (by decide), hA 22 26 (a9 hv 26 (by decide)) (by decide), hA 22 27 (a9 hv 27 (by decide)) (by decide), hP]
  · unfold ct22
    rw [hS 880 rfl]
  · have hi : i = 0 := (a1 _ _ _ hv).2.1 (by decide)
    subst hi
    unfold ct23
    rw [hP]
  · have hi : i = 0 := (a1 _ _ _ hv).2.1 (by decide)
    subst hi
    unfold ct24
    rw [hD]
  · have hi : i = 0 := (a1 _ _ _ hv).2.1 (by decide)
    subst hi
    unfold ct25 cN
    rw [hS 1000 rfl, hS 1001 rfl]
  · rfl
