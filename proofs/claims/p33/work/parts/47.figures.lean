/-! figures -/
def cwE (M : cc_M) : Nat → Nat
  | 0 => 0
  | r + 1 => cwE M r + (if rdO (mX M r) = 1 then 1 else 0)
def smE (M : cc_M) : Nat → Nat
  | 0 => 0
  | r + 1 => smE M r + (if rdO (mX M r) = 1 then rdk (mX M r) else 0)
theorem cwE_le {M : cc_M} : ∀ r, cwE M r ≤ r
  | 0 => Nat.le_refl 0
  | r + 1 => by
    have := cwE_le (M := M) r
    show cwE M r + (if rdO (mX M r) = 1 then 1 else 0) ≤ r + 1
    split <;> omega
theorem smE_le {M : cc_M} (w : ∀ r, r < mR M → rdk (mX M r) ≤ 36) : ∀ r, r ≤ mR M → smE M r ≤ 36 * r
  | 0, _ => Nat.le_refl 0
  | r + 1, hr => by
    have := smE_le (M := M) w r (by omega)
    have := w r (by omega)
    show smE M r + (if rdO (mX M r) = 1 then rdk (mX M r) else 0) ≤ 36 * (r + 1)
    split <;> omega
def shV (M : cc_M) : UInt32 := FP.fdiv (FP.i2f (nI (cwE M (mR M)))) (FP.i2f (nI (mR M)))
def mnV (M : cc_M) : UInt64 := FP.ddiv (FP.i2d (nI (smE M (mR M)))) (FP.i2d (nI (cwE M (mR M))))
theorem sh_n32 {a b : Nat} (ha : a < 21) (hb : b < 21) (h0 : b ≠ 0) : vf_n32 (FP.fdiv (FP.i2f (nI a)) (FP.i2f (nI b))) := by
  have key : ∀ b, b < 21 → ∀ a, a < 21 → (b ≠ 0 → (FP.fdiv (FP.i2f (nI a)) (FP.i2f (nI b))) &&& 0x7fffffff ≤ 0x7f800000) := by decide +kernel
  exact key b hb a ha h0
set_option maxRecDepth 100000 in
set_option maxHeartbeats 4000000 in
theorem mn_n64 {a b : Nat} (ha : a < 721) (hb : b < 21) (h0 : b ≠ 0) : vf_n64 (FP.ddiv (FP.i2d (nI a)) (FP.i2d (nI b))) := by
  have key : ∀ b, b < 21 → ∀ a, a < 721 → (b ≠ 0 → (FP.ddiv (FP.i2d (nI a)) (FP.i2d (nI b))) &&& 0x7fffffffffffffff ≤ 0x7ff0000000000000) := by decide +kernel
  exact key b hb a ha h0
section
variable {g : Nat → Nat} {c : cc_C} {M : cc_M} {a e t : Nat} {x y : Int32} {X : String → cc_C → Prop} {R : Option Value → cc_C → Prop}
theorem c_press (s : sl c 0 0 0 a) (hC : CL c M) (H : R (some (.long (mP M))) c) : wc g (wp_X8_press g) c [.ref a] R X := by
  refine mk_X8_press_0 s ?_
  rw [hC.2.2.2.2.2]
  exact H
theorem s_countWhole (s : sl c 0 0 0 a) (hC : CL c M) (w : wfM M t) (H : R (some (.int (nI (cwE M (mR M))))) c) : wc g (wp_X8_countWholeProofs g) c [.ref a] R X := by
  refine wc_cw fun hw => ?_
  have k := kd_ok hw s.1
  have b20 := w.1.1
  have loop : ∀ (n r : Nat), r + n = mR M → ec g tb_X8_countWholeProofs 4 [some (.ref a), some (.int (nI (cwE M r))), some (.int (nI r))] [] 0 0 c R X := by
    intro n
    induction n with
    | zero =>
      intro r hr
      obtain rfl : r = mR M := by omega
      refine mk_X8_countWholeProofs_4 s (s_size ⟨k.1, rfl⟩ ⟨_, rfl, fun _ => H, fun z => absurd ?_ z⟩)
      rw [hC.2.1.1]
      exact nI_le (Nat.le_refl _) (by omega)
    | succ n ih =>
      intro r hr
      have hr' : r < mR M := by omega
      have r1 := ih (r + 1) (by omega)
      have e1 : cwE M (r + 1) = cwE M r + (if rdO (mX M r) = 1 then 1 else 0) := rfl
      rw [e1] at r1
      have h := hC.2.1.2.2.1 r hr'
      have o4 := (w.1.2 r hr').2.2.1.1
      refine mk_X8_countWholeProofs_4 s (s_size ⟨k.1, rfl⟩ ⟨_, rfl, fun z => ?_, fun _ => s_get (e := r) ⟨k.1, rfl⟩ rfl (by rw [hC.2.1.1]; exact nI_lt hr' (by omega)) (by omega) ⟨_, r, rfl, ⟨h.1, rfl⟩, ?_⟩⟩)
      · rw [hC.2.1.1] at z
        exact absurd z (nI_ge hr' (by omega))
      · rw [h.2.2.2.2.2.1, nI_1, nI_1]
        refine ⟨fun z => ?_, fun z => ?_⟩
        · rw [if_pos ((ltr_119 o4).mp z)] at r1
          exact r1
        · rw [if_neg (fun q => z ((ltr_119 o4).mpr q)), Nat.add_zero] at r1
          exact r1
  exact mk_X8_countWholeProofs_0 s (loop (mR M) 0 (by omega))
theorem c_provedShare (s : sl c 0 0 0 a) (hC : CL c M) (w : wfM M t) (H0 : mR M = 0 → X "java/lang/ArithmeticException" c) (H : mR M ≠ 0 → vf_n32 (shV M) → R (some (.float (shV M))) c) : wc g (wp_X8_provedShare g) c [.ref a] R X := by
  refine wc_cw fun hw => ?_
  have k := kd_ok hw s.1
  have b20 := w.1.1
  refine mk_X8_provedShare_0 s (mk_Jx4a65c_isEmpty_aae02_0 ⟨k.1, rfl⟩ ?_)
  rw [hC.2.1.1]
  refine ⟨fun z => ⟨_, rfl, fun q => absurd q (by decide), fun _ => H0 ((nI_eq (b := 0) (by omega) (by omega)).mp z)⟩, fun z => ⟨_, rfl, fun _ => ?_, fun q => absurd rfl q⟩⟩
  have h0 : mR M ≠ 0 := fun q => z (by rw [q]; rfl)
  have hn : vf_n32 (shV M) := sh_n32 (by have := cwE_le (M := M) (mR M); omega) (by omega) h0
  refine s_countWhole s hC w ⟨_, rfl, s_size ⟨k.1, rfl⟩ ⟨_, rfl, ?_⟩⟩
  rw [hC.2.1.1]
  exact ⟨hn, H h0 hn⟩
theorem c_meanSteps (s : sl c 0 0 0 a) (hC : CL c M) (w : wfM M t) (H0 : cwE M (mR M) = 0 → X "java/lang/ArithmeticException" c) (H : cwE M (mR M) ≠ 0 → vf_n64 (mnV M) → R (some (.double (mnV M))) c) : wc g (wp_X8_meanSteps g) c [.ref a] R X := by
  refine wc_cw fun hw => ?_
  have k := kd_ok hw s.1
  have b20 := w.1.1
  have bc := cwE_le (M := M) (mR M)
  refine mk_X8_meanSteps_0 s (s_countWhole s hC w ⟨_, rfl, fun z => H0 ((nI_eq (b := 0) (by omega) (by omega)).mp z), fun z => ?_⟩)
  have h0 : cwE M (mR M) ≠ 0 := fun q => z (by rw [q]; rfl)
  have hn : vf_n64 (mnV M) := mn_n64 (by have := smE_le (w36 w) (mR M) (Nat.le_refl _); omega) (by omega) h0
  have loop : ∀ (n r : Nat), r + n = mR M → ec g tb_X8_meanSteps 24 [some (.ref a), some (.int (nI (cwE M (mR M)))), some (.int (nI (smE M r))), some (.int (nI r))] [] 0 0 c R X := by
    intro n
    induction n with
    | zero =>
      intro r hr
      obtain rfl : r = mR M := by omega
      refine mk_X8_meanSteps_24 s ⟨⟨by omega, by omega⟩, s_size ⟨k.1, rfl⟩ ⟨_, rfl, fun _ => ⟨hn, ⟨by omega, by omega⟩, H h0 hn⟩, fun z => absurd ?_ z⟩⟩
      rw [hC.2.1.1]
      exact nI_le (Nat.le_refl _) (by omega)
    | succ n ih =>
      intro r hr
      have hr' : r < mR M := by omega
      have r1 := ih (r + 1) (by omega)
      have e1 : smE M (r + 1) = smE M r + (if rdO (mX M r) = 1 then rdk (mX M r) else 0) := rfl
      rw [e1] at r1
      have h := hC.2.1.2.2.1 r hr'
      have o4 := (w.1.2 r hr').2.2.1.1
      have hlt : nI r < cS c 42 0 0 := by
        rw [hC.2.1.1]
        exact nI_lt hr' (by omega)
      refine mk_X8_meanSteps_24 s ⟨⟨by omega, by omega⟩, s_size ⟨k.1, rfl⟩ ⟨_, rfl, fun z => ?_, fun _ => ⟨⟨by omega, by omega⟩, s_get (e := r) ⟨k.1, rfl⟩ rfl hlt (by omega) ⟨_, r, rfl, ⟨h.1, rfl⟩, fun z => ⟨⟨by omega, by omega⟩, s_get (e := r) ⟨k.1, rfl⟩ rfl hlt (by omega) ⟨_, r, rfl, ⟨h.1, rfl⟩, ?_⟩⟩, fun z => ?_⟩⟩⟩⟩
      · rw [hC.2.1.1] at z
        exact absurd z (nI_ge hr' (by omega))
      · rw [h.2.2.2.2.2.1] at z
        rw [if_pos ((ltr_119 o4).mp z)] at r1
        rw [h.2.2.2.2.2.2.1.1, nI_add, nI_1]
        exact r1
      · rw [h.2.2.2.2.2.1] at z
        rw [if_neg (fun q => z ((ltr_119 o4).mpr q)), Nat.add_zero] at r1
        rw [nI_1]
        exact r1
  exact loop (mR M) 0 (by omega)
end
