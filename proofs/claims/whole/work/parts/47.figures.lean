/-! figures -/
def cwE (M : cc_M) : Nat → Nat
  | 0 => 0
  | r + 1 => cwE M r + (if rdO (mX M r) = 1 then 1 else 0)
def smE (M : cc_M) : Nat → Nat
  | 0 => 0
  | r + 1 => smE M r + (if rdO (mX M r) = 1 then rdk (mX M r) else 0)
theorem cwE_le {M : cc_M} : ∀ r, cwE M r ≤ r
  | 0 => Nat.le_refl 0
  | r + 1 => by
    have := cwE_le (M := M) r
    show cwE M r + (if rdO (mX M r) = 1 then 1 else 0) ≤ r + 1
    split <;> omega
theorem smE_le {M : cc_M} (w : ∀ r, r < mR M → rdk (mX M r) ≤ 36) : ∀ r, r ≤ mR M → smE M r ≤ 36 * r
  | 0, _ => Nat.le_refl 0
  | r + 1, hr => by
    have := smE_le (M := M) w r (by omega)
    have := w r (by omega)
    show smE M r + (if rdO (mX M r) = 1 then rdk (mX M r) else 0) ≤ 36 * (r + 1)
    split <;> omega
def shV (M : cc_M) : UInt32 := FP.fdiv (FP.i2f (nI (cwE M (mR M)))) (FP.i2f (nI (mR M)))
def mnV (M : cc_M) : UInt64 := FP.ddiv (FP.i2d (nI (smE M (mR M)))) (FP.i2d (nI (cwE M (mR M))))
theorem sh_n32 {a b : Nat} (ha : a < 21) (hb : b < 21) (h0 : b ≠ 0) : vf_n32 (FP.fdiv (FP.i2f (nI a)) (FP.i2f (nI b))) := by
  have key : ∀ b, b < 21 → ∀ a, a < 21 → (b ≠ 0 → (FP.fdiv (FP.i2f (nI a)) (FP.i2f (nI b))) &&& 0x7fffffff ≤ 0x7f800000) := by decide +kernel
  exact key b hb a ha h0
set_option maxRecDepth 100000 in
set_option maxHeartbeats 4000000 in
theorem mn_n64 {a b : Nat} (ha : a < 721) (hb : b < 21) (h0 : b ≠ 0) : vf_n64 (FP.ddiv (FP.i2d (nI a)) (FP.i2d (nI b))) := by
  have key : ∀ b, b < 21 → ∀ a, a < 721 → (b ≠ 0 → (FP.ddiv (FP.i2d (nI a)) (FP.i2d (nI b))) &&& 0x7fffffffffffffff ≤ 0x7ff0000000000000) := by decide +kernel
  exact key b hb a ha h0
section
variable {g : Nat → Nat} {c : cc_C} {M : cc_M} {a e t : Nat} {x y : Int32} {X : String → cc_C → Prop} {R : Option Value → cc_C → Prop}
theorem c_press (s : sl c 0 0 0 a) (hC : CL c M) (H : R (some (.long (mP M))) c) : wc g (wp_X8_press g) c [.ref a] R X := by
  refine mk_X8_press_0 s ?_
  rw [hC.2.2.2.2.2]
  exact H
theorem m_press (s : sl c 21 0 0 e) (hR : RF c M) (H : R (some (.long (mP M))) (cset c 869 0 0 0)) : wc g (wp_X9_press g) c [.ref e] R X := by
  refine mk_X9_press_0 s ?_
  rw [show cP (cset c 869 0 0 0) 2 0 = mP M from hR.2.2.2.2.2]
  exact H
theorem s_countWhole (s : sl c 0 0 0 a) (hC : CL c M) (w : wfM M t) (H : R (some (.int (nI (cwE M (mR M))))) c) : wc g (wp_X8_countWholeProofs g) c [.ref a] R X := by
  refine wc_cw fun hw => ?_
  have k := kd_ok hw s.1
  have b20 := w.1.1
  have loop : ∀ (n r : Nat), r + n = mR M → ec g tb_X8_countWholeProofs 4 [some (.ref a), some (.int (nI (cwE M r))), some (.int (nI r))] [] 0 0 c R X := by
    intro n
    induction n with
    | zero =>
      intro r hr
      obtain rfl : r = mR M := by omega
      refine mk_X8_countWholeProofs_4 s (s_size ⟨k.1, rfl⟩ ⟨_, rfl, fun _ => H, fun z => absurd ?_ z⟩)
      rw [hC.2.1.1]
      exact nI_le (Nat.le_refl _) (by omega)
    | succ n ih =>
      intro r hr
      have hr' : r < mR M := by omega
      have r1 := ih (r + 1) (by omega)
      have e1 : cwE M (r + 1) = cwE M r + (if rdO (mX M r) = 1 then 1 else 0) := rfl
      rw [e1] at r1
      have h := hC.2.1.2.2.1 r hr'
      have o4 := (w.1.2 r hr').2.2.1.1
      refine mk_X8_countWholeProofs_4 s (s_size ⟨k.1, rfl⟩ ⟨_, rfl, fun z => ?_, fun _ => s_get (e := r) ⟨k.1, rfl⟩ rfl (by rw [hC.2.1.1]; exact nI_lt hr' (by omega)) (by omega) ⟨_, r, rfl, ⟨h.1, rfl⟩, ?_⟩⟩)
      · rw [hC.2.1.1] at z
        exact absurd z (nI_ge hr' (by omega))
      · rw [h.2.2.2.2.2.1, nI_1, nI_1]
        refine ⟨fun z => ?_, fun z => ?_⟩
        · rw [if_pos ((ltr_119 o4).mp z)] at r1
          exact r1
        · rw [if_neg (fun q => z ((ltr_119 o4).mpr q)), Nat.add_zero] at r1
          exact r1
  exact mk_X8_countWholeProofs_0 s (loop (mR M) 0 (by omega))
theorem c_provedShare (s : sl c 0 0 0 a) (hC : CL c M) (w : wfM M t) (H0 : mR M = 0 → X "java/lang/ArithmeticException" c) (H : mR M ≠ 0 → vf_n32 (shV M) → R (some (.float (shV M))) c) : wc g (wp_X8_provedShare g) c [.ref a] R X := by
  refine wc_cw fun hw => ?_
  have k := kd_ok hw s.1
  have b20 := w.1.1
  refine mk_X8_provedShare_0 s (mk_Jx4a65c_isEmpty_aae02_0 ⟨k.1, rfl⟩ ?_)
  rw [hC.2.1.1]
  refine ⟨fun z => ⟨_, rfl, fun q => absurd q (by decide), fun _ => H0 ((nI_eq (b := 0) (by omega) (by omega)).mp z)⟩, fun z => ⟨_, rfl, fun _ => ?_, fun q => absurd rfl q⟩⟩
  have h0 : mR M ≠ 0 := fun q => z (by rw [q]; rfl)
  have hn : vf_n32 (shV M) := sh_n32 (by have := cwE_le (M := M) (mR M); omega) (by omega) h0
  refine s_countWhole s hC w ⟨_, rfl, s_size ⟨k.1, rfl⟩ ⟨_, rfl, ?_⟩⟩
  rw [hC.2.1.1]
  exact ⟨hn, H h0 hn⟩
theorem m_provedShare (s : sl c 21 0 0 e) (hR : RF c M) (w : wfM M t) (H0 : mR M = 0 → ∀ v, R (some (.float v)) (cset c 869 0 0 1)) (H : mR M ≠ 0 → R (some (.float (shV M))) (cset c 869 0 0 0)) : wc g (wp_X9_provedShare g) c [.ref e] R X := by
  have b20 := w.1.1
  have loop : ∀ (n r : Nat), r + n = mR M → ec g tb_X9_provedShare 4 [some (.ref e), some (.int (nI (cwE M r))), some (.int (nI r))] [] 0 0 c R X := by
    intro n
    induction n with
    | zero =>
      intro r hr
      obtain rfl : r = mR M := by omega
      refine mk_X9_provedShare_4 s ?_
      rw [show ∀ v : Int32, cS (cset c 869 0 0 v) 870 0 0 = cS c 870 0 0 from fun v => cS_f (by decide), show ∀ v : Int32, cS (cset c 869 0 0 v) 870 0 0 = cS c 870 0 0 from fun v => cS_f (by decide), hR.2.1.1]
      refine ⟨fun _ => ⟨fun z => ⟨fun _ => H0 ((nI_eq (b := 0) (by omega) (by omega)).mp z) _, fun q => absurd z q⟩, fun z => ⟨fun q => absurd q z, fun _ => ?_⟩⟩, fun z => absurd (nI_le (Nat.le_refl _) (by omega)) z⟩
      have h0 : mR M ≠ 0 := fun q => z (by rw [q]; rfl)
      exact ⟨sh_n32 (by have := cwE_le (M := M) (mR M); omega) (by omega) h0, H h0⟩
    | succ n ih =>
      intro r hr
      have hr' : r < mR M := by omega
      have r1 := ih (r + 1) (by omega)
      have e1 : cwE M (r + 1) = cwE M r + (if rdO (mX M r) = 1 then 1 else 0) := rfl
      rw [e1] at r1
      have h := hR.2.1.2.1 r hr'
      have o4 := (w.1.2 r hr').2.2.1.1
      refine mk_X9_provedShare_4 s ?_
      rw [hR.2.1.1, nI_clamp (show r < 2 ^ 31 by omega), h.2.2.2.2.1, nI_1, nI_1, show nI (cwE M r) + 0 = nI (cwE M r + 0) from nI_add _ 0]
      refine ⟨fun z => absurd z (nI_ge hr' (by omega)), fun _ => ⟨vp_in_nI (by omega) (by omega), fun z => ?_, fun z => ?_⟩⟩
      · rw [if_pos ((nI_eq (b := 1) (by omega) (by omega)).mp z)] at r1
        exact r1
      · rw [if_neg (fun q => z (by rw [q]; rfl))] at r1
        exact r1
  exact mk_X9_provedShare_0 s (loop (mR M) 0 (by omega))
theorem c_meanSteps (s : sl c 0 0 0 a) (hC : CL c M) (w : wfM M t) (H0 : cwE M (mR M) = 0 → X "java/lang/ArithmeticException" c) (H : cwE M (mR M) ≠ 0 → vf_n64 (mnV M) → R (some (.double (mnV M))) c) : wc g (wp_X8_meanSteps g) c [.ref a] R X := by
  refine wc_cw fun hw => ?_
  have k := kd_ok hw s.1
  have b20 := w.1.1
  have bc := cwE_le (M := M) (mR M)
  refine mk_X8_meanSteps_0 s (s_countWhole s hC w ⟨_, rfl, fun z => H0 ((nI_eq (b := 0) (by omega) (by omega)).mp z), fun z => ?_⟩)
  have h0 : cwE M (mR M) ≠ 0 := fun q => z (by rw [q]; rfl)
  have hn : vf_n64 (mnV M) := mn_n64 (by have := smE_le (w36 w) (mR M) (Nat.le_refl _); omega) (by omega) h0
  have loop : ∀ (n r : Nat), r + n = mR M → ec g tb_X8_meanSteps 24 [some (.ref a), some (.int (nI (cwE M (mR M)))), some (.int (nI (smE M r))), some (.int (nI r))] [] 0 0 c R X := by
    intro n
    induction n with
    | zero =>
      intro r hr
      obtain rfl : r = mR M := by omega
      refine mk_X8_meanSteps_24 s ⟨⟨by omega, by omega⟩, s_size ⟨k.1, rfl⟩ ⟨_, rfl, fun _ => ⟨hn, ⟨by omega, by omega⟩, H h0 hn⟩, fun z => absurd ?_ z⟩⟩
      rw [hC.2.1.1]
      exact nI_le (Nat.le_refl _) (by omega)
    | succ n ih =>
      intro r hr
      have hr' : r < mR M := by omega
      have r1 := ih (r + 1) (by omega)
      have e1 : smE M (r + 1) = smE M r + (if rdO (mX M r) = 1 then rdk (mX M r) else 0) := rfl
      rw [e1] at r1
      have h := hC.2.1.2.2.1 r hr'
      have o4 := (w.1.2 r hr').2.2.1.1
      have hlt : nI r < cS c 42 0 0 := by
        rw [hC.2.1.1]
        exact nI_lt hr' (by omega)
      refine mk_X8_meanSteps_24 s ⟨⟨by omega, by omega⟩, s_size ⟨k.1, rfl⟩ ⟨_, rfl, fun z => ?_, fun _ => ⟨⟨by omega, by omega⟩, s_get (e := r) ⟨k.1, rfl⟩ rfl hlt (by omega) ⟨_, r, rfl, ⟨h.1, rfl⟩, fun z => ⟨⟨by omega, by omega⟩, s_get (e := r) ⟨k.1, rfl⟩ rfl hlt (by omega) ⟨_, r, rfl, ⟨h.1, rfl⟩, ?_⟩⟩, fun z => ?_⟩⟩⟩⟩
      · rw [hC.2.1.1] at z
        exact absurd z (nI_ge hr' (by omega))
      · rw [h.2.2.2.2.2.1] at z
        rw [if_pos ((ltr_119 o4).mp z)] at r1
        rw [h.2.2.2.2.2.2.1.1, nI_add, nI_1]
        exact r1
      · rw [h.2.2.2.2.2.1] at z
        rw [if_neg (fun q => z ((ltr_119 o4).mpr q)), Nat.add_zero] at r1
        rw [nI_1]
        exact r1
  exact loop (mR M) 0 (by omega)
theorem m_meanSteps (s : sl c 21 0 0 e) (hR : RF c M) (w : wfM M t) (H0 : cwE M (mR M) = 0 → ∀ v, R (some (.double v)) (cset c 869 0 0 1)) (H : cwE M (mR M) ≠ 0 → R (some (.double (mnV M))) (cset c 869 0 0 0)) : wc g (wp_X9_meanSteps g) c [.ref e] R X := by
  have b20 := w.1.1
  have bc := cwE_le (M := M) (mR M)
  have loop : ∀ (n r : Nat), r + n = mR M → ec g tb_X9_meanSteps 6 [some (.ref e), some (.int (nI (cwE M r))), some (.int (nI (smE M r))), some (.int (nI r))] [] 0 0 c R X := by
    intro n
    induction n with
    | zero =>
      intro r hr
      obtain rfl : r = mR M := by omega
      refine mk_X9_meanSteps_6 s ?_
      rw [hR.2.1.1]
      refine ⟨fun _ => ⟨fun z => ⟨fun _ => H0 ((nI_eq (b := 0) (by omega) (by omega)).mp z) _, fun q => absurd z q⟩, fun z => ⟨fun q => absurd q z, fun _ => ?_⟩⟩, fun z => absurd (nI_le (Nat.le_refl _) (by omega)) z⟩
      have h0 : cwE M (mR M) ≠ 0 := fun q => z (by rw [q]; rfl)
      exact ⟨mn_n64 (by have := smE_le (w36 w) (mR M) (Nat.le_refl _); omega) (by omega) h0, H h0⟩
    | succ n ih =>
      intro r hr
      have hr' : r < mR M := by omega
      have r1 := ih (r + 1) (by omega)
      have e1 : smE M (r + 1) = smE M r + (if rdO (mX M r) = 1 then rdk (mX M r) else 0) := rfl
      have e2 : cwE M (r + 1) = cwE M r + (if rdO (mX M r) = 1 then 1 else 0) := rfl
      rw [e1, e2] at r1
      have h := hR.2.1.2.1 r hr'
      have o4 := (w.1.2 r hr').2.2.1.1
      have v20 := vp_in_nI (show r < 20 by omega) (by omega)
      refine mk_X9_meanSteps_6 s ?_
      rw [hR.2.1.1, nI_clamp (show r < 2 ^ 31 by omega), h.2.2.2.2.1, nI_1, nI_1, show nI (cwE M r) + 0 = nI (cwE M r + 0) from nI_add _ 0, show nI (smE M r) + 0 = nI (smE M r + 0) from nI_add _ 0]
      refine ⟨fun z => absurd z (nI_ge hr' (by omega)), fun _ => ⟨v20, fun z => ⟨v20, fun _ => ⟨v20, ?_⟩, fun z2 => absurd z z2⟩, fun z => ⟨v20, fun z2 => absurd z2 z, fun _ => ?_⟩⟩⟩
      · have o1 := (nI_eq (b := 1) (by omega) (by omega)).mp z
        rw [if_pos o1, if_pos o1] at r1
        rw [(h.2.2.2.2.2.1 (by omega)).1, nI_add]
        exact r1
      · have o1 : ¬ rdO (mX M r) = 1 := fun q => z (by rw [q]; rfl)
        rw [if_neg o1, if_neg o1] at r1
        exact r1
  exact mk_X9_meanSteps_0 s (loop (mR M) 0 (by omega))
end
