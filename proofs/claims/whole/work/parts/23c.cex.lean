section
variable {g : Nat → Nat} {R : Option Value → cc_C → Prop} {X : String → cc_C → Prop}
theorem far_is {pl n w : Nat} (h1 : pl < 6) (h2 : n < 7) (h3 : w < 6) : (nI pl < nI n - nI w ↔ ¬ n ≤ pl + w) := by
  have key : ∀ pl, pl < 6 → ∀ n, n < 7 → ∀ w, w < 6 → decide (nI pl < nI n - nI w) = decide (¬ n ≤ pl + w) := by decide +kernel
  have := key pl h1 n h2 w h3
  exact ⟨fun h => of_decide_eq_true (this ▸ decide_eq_true h), fun h => of_decide_eq_true (this.symm ▸ decide_eq_true h)⟩
/-- rule number u of the reference -/
def OvM (c : cc_C) (u : Nat) (k fz : Int32) (j w : Nat) : Prop := u < 6 ∧ cS c 880 13 u = k ∧ cS c 880 15 u = fz ∧ cS c 880 16 u = nI w ∧ Ov k (cS c 880 14 u) fz (nI w) j w
theorem OvM_fr {P : Nat → Nat → Prop} {c d : cc_C} {u j w : Nat} {k fz : Int32} (h : fr P c d) (hP : ∀ i, i < 20 → ¬ P 880 i) (o : OvM c u k fz j w) : OvM d u k fz j w := by
  unfold OvM
  rw [h.row (hP 13 (by omega)), h.row (hP 14 (by omega)), h.row (hP 15 (by omega)), h.row (hP 16 (by omega))]
  exact o
theorem m_isAgainst {c : cc_C} {a u n j w : Nat} {k fz : Int32} {l : List Nat} (s : sl c 21 0 0 a) (o : OvM c u k fz j w) (hn3 : 3 ≤ n) (hn : n ≤ 6) (hr : Rp n (ofL l) (cS c 880 26)) (hp : ∀ k, ofL l k < n) (H : R (some (.int (bI (agP k j fz w n l)))) c) : wc g (wp_X9_isAgainst g) c [.ref a, .int (nI u), .int (nI n)] R X := by
  obtain ⟨o1, o2, o3, o4, v1, v2, v3, v4, v5, v6, v7, v8⟩ := o
  have vu := vp_in_nI o1 (by omega)
  have h0 := hp 0
  have h1 := hp 1
  have h2 := hp 2
  have hj := hp j
  have fin : ∀ (b : Bool) (x3 x4 : Int32) (o5 o6 : Option Value), fitI k 0 1 2 l = b → ec g tb_X9_isAgainst 149 [some (.ref a), some (.int (nI u)), some (.int (nI n)), some (.int x3), some (.int x4), o5, o6] [.int (bI b)] 0 0 c R X := by
    intro b x3 x4 o5 o6 hb
    unfold agP at H
    rw [hb] at H
    refine mk_X9_isAgainst_149 s ?_
    have e1 : cS c 880 14 u - 97 = nI j := by
      rw [v2]
      have := pk_sub (a := 97 + j) (b := 97) (by omega)
      rw [show 97 + j - 97 = j by omega] at this
      exact this
    rw [nI_clamp (by omega), e1, nI_clamp (by omega), hr j (by omega), o3, o4]
    refine ⟨vu, vp_in_nI (by omega) (by omega), fun q => ?_, fun q => ⟨vu, fun z => ⟨vu, ?_⟩, fun z => ⟨vu, ?_⟩⟩⟩
    · cases b with
      | true => exact absurd q (by decide)
      | false => exact H
    · cases b with
      | false => exact absurd rfl q
      | true =>
        rw [if_pos z] at H
        exact bI_n (P := fun x => R (some (.int x)) c) ((nI_leI (by omega) (by omega)).trans (dec_f (by omega))) H
    · cases b with
      | false => exact absurd rfl q
      | true =>
        rw [if_neg z] at H
        exact bI_n (P := fun x => R (some (.int x)) c) ((far_is (by omega) (by omega) (by omega)).trans (dec_f Iff.rfl)) H
  have c0 : cS c 880 26 ((0 : Int32)).toNatClampNeg = nI (ofL l 0) := hr 0 (by omega)
  have c1 : cS c 880 26 ((1 : Int32)).toNatClampNeg = nI (ofL l 1) := hr 1 (by omega)
  have c2 : cS c 880 26 ((2 : Int32)).toNatClampNeg = nI (ofL l 2) := hr 2 (by omega)
  have w0 : vp_in (0 : Int32) 6 := vp_in_nI (n := 0) (by omega) (by omega)
  have w1 : vp_in (1 : Int32) 6 := vp_in_nI (n := 1) (by omega) (by omega)
  have w2 : vp_in (2 : Int32) 6 := vp_in_nI (n := 2) (by omega) (by omega)
  refine mk_X9_isAgainst_0 s ?_
  rw [nI_clamp (by omega), o2, c0, c1, c2]
  refine ⟨w0, w1, vu, ?_⟩
  rcases v1 with rfl | rfl | rfl | rfl
  · have hF : fitI 98 0 1 2 l = decide (ofL l 0 < ofL l 1) := rfl
    refine ⟨fun _ => ⟨fun q => fin false _ _ _ _ ?_, fun q => fin true _ _ _ _ ?_⟩, fun q => absurd rfl q⟩
    · have := (nI_leI (by omega) (by omega)).mp q
      rw [hF]
      exact decide_eq_false (by omega)
    · have : ¬ ofL l 1 ≤ ofL l 0 := fun z => q ((nI_leI (by omega) (by omega)).mpr z)
      rw [hF]
      exact decide_eq_true (by omega)
  · have hF : fitI 110 0 1 2 l = decide (ofL l 0 = ofL l 1 + 1 ∨ ofL l 1 = ofL l 0 + 1) := rfl
    refine ⟨fun q => absurd q (by decide), fun _ => ⟨vu, fun _ => ⟨fun q => fin true _ _ _ _ ?_, fun q => ⟨fun q2 => fin true _ _ _ _ ?_, fun q2 => fin false _ _ _ _ ?_⟩⟩, fun q => absurd rfl q⟩⟩
    · have := (sub_is (c := 1) (by omega) (by omega) (by omega)).mp q
      rw [hF]
      exact decide_eq_true (by omega)
    · have := (sub_is (c := 1) (by omega) (by omega) (by omega)).mp q2
      rw [hF]
      exact decide_eq_true (by omega)
    · have z1 : ¬ ofL l 0 = ofL l 1 + 1 := fun z => q ((sub_is (c := 1) (by omega) (by omega) (by omega)).mpr z)
      have z2 : ¬ ofL l 1 = ofL l 0 + 1 := fun z => q2 ((sub_is (c := 1) (by omega) (by omega) (by omega)).mpr z)
      rw [hF]
      exact decide_eq_false (by omega)
  · have hF : fitI 108 0 1 2 l = decide (ofL l 0 + 1 = ofL l 1) := rfl
    refine ⟨fun q => absurd q (by decide), fun _ => ⟨vu, fun q => absurd q (by decide), fun _ => ⟨vu, fun _ => ⟨fun q => fin true _ _ _ _ ?_, fun q => fin false _ _ _ _ ?_⟩, fun q => absurd rfl q⟩⟩⟩
    · have := (sub_is (c := 1) (by omega) (by omega) (by omega)).mp q
      rw [hF]
      exact decide_eq_true (by omega)
    · have z2 : ¬ ofL l 1 = ofL l 0 + 1 := fun z => q ((sub_is (c := 1) (by omega) (by omega) (by omega)).mpr z)
      rw [hF]
      exact decide_eq_false (by omega)
  · have hF : fitI 109 0 1 2 l = decide ((ofL l 0 < ofL l 2 ∧ ofL l 2 < ofL l 1) ∨ (ofL l 1 < ofL l 2 ∧ ofL l 2 < ofL l 0)) := rfl
    have L : ∀ x y, x < 6 → y < 6 → (nI x ≤ nI y ↔ x ≤ y) := fun x y h1 h2 => nI_leI (by omega) (by omega)
    have M : ∀ x y, x < 6 → y < 6 → (nI x < nI y ↔ x < y) := fun x y h1 h2 => nI_ltI (by omega) (by omega)
    rw [L _ _ (show ofL l 2 < 6 by omega) (show ofL l 0 < 6 by omega), L _ _ (show ofL l 2 < 6 by omega) (show ofL l 1 < 6 by omega), L _ _ (show ofL l 0 < 6 by omega) (show ofL l 2 < 6 by omega), M _ _ (show ofL l 2 < 6 by omega) (show ofL l 1 < 6 by omega)]
    refine ⟨fun q => absurd q (by decide), fun _ => ⟨vu, fun q => absurd q (by decide), fun _ => ⟨vu, fun q => absurd q (by decide), fun _ => ⟨w2, fun q1 => ⟨w2, fun q2 => fin false _ _ _ _ ?_, fun q2 => ⟨w2, fun q3 => fin false _ _ _ _ ?_, fun q3 => fin true _ _ _ _ ?_⟩⟩, fun q1 => ⟨w2, fun q2 => fin true _ _ _ _ ?_, fun q2 => ⟨w2, fun q3 => fin false _ _ _ _ ?_, fun q3 => ⟨w2, fun q4 => fin false _ _ _ _ ?_, fun q4 => fin true _ _ _ _ ?_⟩⟩⟩⟩⟩⟩⟩
    all_goals rw [hF]
    · exact decide_eq_false (by omega)
    · exact decide_eq_false (by omega)
    · exact decide_eq_true (by omega)
    · exact decide_eq_true (by omega)
    · exact decide_eq_false (by omega)
    · exact decide_eq_false (by omega)
    · exact decide_eq_true (by omega)
end
