section
variable {g : Nat → Nat} {R : Option Value → cc_C → Prop} {X : String → cc_C → Prop}
theorem okM_le {n : Nat} {m m' : Nat → Nat} (h : okM n m) (hl : ∀ k, m' k ≤ m k) (he : eE m' n = false) : okM n m' := ⟨eE_no he, fun i hi => Nat.lt_of_le_of_lt (hl i) (h.2 i hi)⟩
theorem m_provesLoop {c0 : cc_C} {r n nc nO e : Nat} {O : cc_O} {x1 : Int32} {o3 o4 : Option Value} (s : sl c0 21 0 0 e) (o : prM c0 r n nc) (ow : owM c0 nO O) (oO : okO nO O) (H : ∀ z k S m, fr pPm c0 z → kpM r c0 z → meR z n m → stM z r k S → prM z r n nc → (m, k, S) = prf (clM c0 r) O n nc nO → ec g tb_X9_proves 72 [some (.ref e), some (.int x1), some (.int (bI (eE m n))), some (.int 1), some (.int 0)] [] 0 0 z R X) : ∀ (d i : Nat) (c : cc_C) (m : Nat → Nat) (S : cc_St), i + d = 36 → fr pPm c0 c → kpM r c0 c → meR c n m → stM c r i S → okM n m → eE m n = false → i + smB m n ≤ 36 → rnS (clM c0 r) O n nc nO d m i S = prf (clM c0 r) O n nc nO → ec g tb_X9_proves 48 [some (.ref e), some (.int x1), some (.int 0), o3, o4] [] 0 0 c R X := by
  intro d
  induction d with
  | zero =>
    intro i c m S hi hf hkp hs hst ok he hsm hT
    exfalso
    have := smB_pos hs.2.2 he
    have := o.2.1
    omega
  | succ d ih =>
    intro i c m S hi hf hkp hs hst ok he hsm hT
    obtain ⟨oc, eK⟩ := prM_fr hf pPm_no pPm_no1 o
    have owc := owM_fr hf pPm_no3 pPm_no4 ow
    have er : rnS (clM c0 r) O n nc nO (d + 1) m i S = match stpS (clM c0 r) O n nc nO m with
      | none => (m, i, S)
      | some (ru, ca, x) => if eE x.1 n = true then (x.1, i + 1, puS S i (ru, ca, x.2)) else rnS (clM c0 r) O n nc nO d x.1 (i + 1) (puS S i (ru, ca, x.2)) := rfl
    refine mk_X9_proves_48 (hf.sl s) ⟨fun _ => m_isAnyDone (hf.sl s) oc owc hs hst (by omega) ok (fun h0 z hz hk2 hs' st' => ⟨_, rfl, fun _ => ?_, fun q => absurd rfl q⟩) (fun ru ca x h0 z hz hk2 hs' st' => ⟨_, rfl, fun q => absurd q (by decide), fun _ => ?_⟩), fun q => absurd rfl q⟩
    · rw [eK] at h0
      rw [h0] at er
      have hz2 := hf.trans hz
      have := H z i S m hz2 (hkp.trans hk2) hs' st' (prM_fr hz2 pPm_no pPm_no1 o).1 (er.symm.trans hT)
      rw [he] at this
      exact this
    · rw [eK] at h0
      rw [h0] at er
      have hz2 := hf.trans hz
      have pz := (prM_fr hz2 pPm_no pPm_no1 o).1
      have hg := stpS_g hs.2.2 hs.1 o.2.2.2.2.2 oO h0
      have f1 : smB x.1 n + x.2 = smB m n := hg.1.1
      have f2 : x.2 ≠ 0 := hg.2.1
      refine m_isEmpty (hz2.sl s) hs' pz.1.1 pz.1.2.1 pz.1.2.2 ⟨_, rfl, ?_⟩
      cases he' : eE x.1 n with
      | false =>
        have er' := er.trans (if_neg (by rw [he']; decide))
        exact ih (i + 1) z x.1 _ (by omega) hz2 (hkp.trans hk2) hs' st' (okM_le ok hg.1.2.2 he') he' (by omega) (er'.symm.trans hT)
      | true =>
        have er' := er.trans (if_pos he')
        have := H z (i + 1) _ x.1 hz2 (hkp.trans hk2) hs' st' pz (er'.symm.trans hT)
        rw [he'] at this
        exact mk_X9_proves_48 (hz2.sl s) ⟨fun q => absurd q (by decide), fun _ => this⟩
end
