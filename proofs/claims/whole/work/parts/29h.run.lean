section
variable {g : Nat → Nat} {R : Option Value → cc_C → Prop} {X : String → cc_C → Prop}
theorem m_whole72 {c : cc_C} {r n e : Nat} {m : Nat → Nat} {x1 : Int32} {b : Bool} (s : sl c 21 0 0 e) (nw : nwR c r n) (h : meR c n m) (hb : b = eE m n) (H : ∀ v : Int32, v = (if b = true then 3 else if wE m n = true then 1 else 2) → R (some (.int v)) (cset c 880 3 r v)) : ec g tb_X9_proves 72 [some (.ref e), some (.int x1), some (.int (bI b)), some (.int 1), some (.int 0)] [] 0 0 c R X := by
  obtain ⟨w1, w2, w3⟩ := nw
  have hn := h.1
  have vr := vp_in_nI w1 (show 20 < 2 ^ 31 by omega)
  have cr : (nI r).toNatClampNeg = r := nI_clamp (by omega)
  have k874 : ∀ v, cS (cset c 880 3 r v) 874 0 0 = nI r := fun v => (cS_f (by decide)).trans w2
  have loop : ∀ (w i : Nat), i + w = n → ec g tb_X9_proves 72 [some (.ref e), some (.int x1), some (.int (bI b)), some (.int (bI (wE m i))), some (.int (nI i))] [] 0 0 c R X := by
    intro w
    induction w with
    | zero =>
      intro i hi
      obtain rfl : i = n := by omega
      refine mk_X9_proves_72 s ?_
      rw [w2, cr, w3, k874, k874, k874, cr, cS_at, cS_at, cS_at]
      refine ⟨vr, fun _ => ⟨fun q => ⟨fun q2 => ⟨vr, vr, H 2 ?_⟩, fun q2 => ⟨vr, vr, H 1 ?_⟩⟩, fun q => ⟨vr, vr, H 3 ?_⟩⟩, fun y => absurd (nI_le (Nat.le_refl i) (by omega)) y⟩
      · cases b with
        | true => exact absurd q (by decide)
        | false =>
          cases hw : wE m i with
          | true => rw [hw] at q2; exact absurd q2 (by decide)
          | false => rfl
      · cases b with
        | true => exact absurd q (by decide)
        | false =>
          cases hw : wE m i with
          | false => rw [hw] at q2; exact absurd rfl q2
          | true => rfl
      · cases b with
        | false => exact absurd rfl q
        | true => rfl
    | succ w ih =>
      intro i hi
      have e1 : wE m (i + 1) = (wE m i && decide (pcN (m i) = 1)) := rfl
      have r1 := ih (i + 1) (by omega)
      rw [e1] at r1
      refine mk_X9_proves_72 s ?_
      rw [w2, cr, w3, nI_1]
      refine ⟨vr, fun y => absurd y (nI_ge (by omega) (by omega)), fun _ => ⟨fun q => ?_, fun q => ⟨vp_in_nI (by omega) (by omega), m_size (meR_at h (by omega)) (h.2.2 i) ⟨_, rfl, fun q2 => ?_, fun q2 => ?_⟩⟩⟩⟩
      · have hw : wE m i = false := by
          cases hw : wE m i with
          | false => rfl
          | true => rw [hw] at q; exact absurd q (by decide)
        rw [hw] at r1
        exact r1
      · have hw : wE m i = true := by
          cases hw : wE m i with
          | true => rfl
          | false => rw [hw] at q; exact absurd rfl q
        rw [hw, decide_eq_true ((pc_eq (k := 1) (by decide)).mp q2)] at r1
        exact r1
      · have hw : wE m i = true := by
          cases hw : wE m i with
          | true => rfl
          | false => rw [hw] at q; exact absurd rfl q
        rw [hw, decide_eq_false (fun z => q2 ((pc_eq (k := 1) (by decide)).mpr z))] at r1
        exact r1
  exact loop n 0 (by omega)
end
