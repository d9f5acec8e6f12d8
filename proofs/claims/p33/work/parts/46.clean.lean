/-! is the press clean -/
def lwE (x : cc_Rd) : Nat → Bool
  | 0 => false
  | u + 1 => lwE x u || rdLn x (10 + u)
def fwE (O : cc_O) (x : cc_Rd) : Nat → Bool
  | 0 => false
  | u + 1 => fwE O x u || (rdLn x (10 + u) && !(O u).2.2.2.2)
def sound (O : cc_O) (nO : Nat) (x : cc_Rd) : Bool := !fwE O x nO && (lwE x nO || decide (rdA x = 1))
def cnE (M : cc_M) : Nat → Bool
  | 0 => true
  | r + 1 => cnE M r && (!decide (rdZ (mX M r) = 115) || sound (mO M) (mW M) (mX M r))
theorem fwE_mono {O : cc_O} {x : cc_Rd} {u : Nat} (h : fwE O x u = true) : ∀ w, fwE O x (u + w) = true
  | 0 => h
  | w + 1 => by
    show (fwE O x (u + w) || _) = true
    rw [fwE_mono h w]
    rfl
theorem cnE_mono {M : cc_M} {r : Nat} (h : cnE M r = false) : ∀ w, cnE M (r + w) = false
  | 0 => h
  | w + 1 => by
    show (cnE M (r + w) && _) = false
    rw [cnE_mono h w]
    rfl
def spClean (M : cc_M) : cc_Sp := (0, bI (cnE M (mR M)), M)
section
variable {g : Nat → Nat} {c : cc_C} {M : cc_M} {a e t : Nat} {x y : Int32} {X : String → cc_C → Prop}
theorem s_isSound {R : Option Value → cc_C → Prop} {r : Nat} (s : sl c 0 0 0 a) (hC : CL c M) (w : wfM M t) (hr : r < mR M) (H : ∀ d, kC c d → sl d 0 0 0 a → CL d M → R (some (.int (bI (sound (mO M) (mW M) (mX M r))))) d) : wc g (wp_X8_isSound g) c [.ref a, .ref (cA c 3 r 0)] R X := by
  refine wc_cw fun hw => ?_
  have k := kd_ok hw s.1
  have b6 := w.2.1.1
  have h := hC.2.1.2.2.1 r hr
  have s3 : sl c 3 r 0 (cA c 3 r 0) := ⟨h.1, rfl⟩
  have k7 := (hw.2.2.1 r h.1).2.1
  have loop : ∀ (n u : Nat), u + n = mW M → fwE (mO M) (mX M r) u = false → ec g tb_X8_isSound 4 [some (.ref a), some (.ref (cA c 3 r 0)), some (.int (bI (lwE (mX M r) u))), some (.int (nI u))] [] 0 0 c R X := by
    intro n
    induction n with
    | zero =>
      intro u hu hf
      obtain rfl : u = mW M := by omega
      have eS : sound (mO M) (mW M) (mX M r) = (lwE (mX M r) (mW M) || decide (rdA (mX M r) = 1)) := by
        unfold sound
        rw [hf]
        rfl
      rw [eS] at H
      have wr := w.1.2 r hr
      have b720 := rdA_le wr.1.1 wr.1.2.1
      refine mk_X8_isSound_4 s s3 ⟨⟨by omega, by omega⟩, s_size ⟨k.2.1, rfl⟩ ⟨_, rfl, fun _ => ⟨fun z => ⟨⟨by omega, by omega⟩, s_ansOf hC w hr (fun d hd hC' h1 _ => ⟨rfl, ?_⟩)⟩, fun z => ⟨⟨by omega, by omega⟩, ?_⟩⟩, fun z => absurd ?_ z⟩⟩
      · have hb : lwE (mX M r) (mW M) = false := by
          cases hb : lwE (mX M r) (mW M) with
          | false => rfl
          | true => rw [hb] at z; exact absurd z (by decide)
        rw [h1]
        have H' := H d (kC_A2 hd) (hd.slo s) hC'
        rw [hb, Bool.false_or] at H'
        refine ⟨fun q => ⟨⟨by omega, by omega⟩, ?_⟩, fun q => ⟨⟨by omega, by omega⟩, ?_⟩⟩
        · rw [decide_eq_true ((nI_eq (b := 1) (by omega) (by omega)).mp q)] at H'
          exact H'
        · rw [decide_eq_false (fun q2 => q (by rw [q2]; rfl))] at H'
          exact H'
      · have hb : lwE (mX M r) (mW M) = true := by
          cases hb : lwE (mX M r) (mW M) with
          | true => rfl
          | false => rw [hb] at z; exact absurd rfl z
        have H' := H c kC_rfl s hC
        rw [hb, Bool.true_or] at H'
        exact H'
      · rw [hC.2.2.1.1.1]
        exact nI_le (Nat.le_refl _) (by omega)
    | succ n ih =>
      intro u hu hf
      have hu' : u < mW M := by omega
      have r1 := ih (u + 1) (by omega)
      have e1 : lwE (mX M r) (u + 1) = (lwE (mX M r) u || rdLn (mX M r) (10 + u)) := rfl
      have e2 : fwE (mO M) (mX M r) (u + 1) = (fwE (mO M) (mX M r) u || (rdLn (mX M r) (10 + u) && !(mO M u).2.2.2.2)) := rfl
      rw [hf, Bool.false_or] at e2
      rw [e1, e2] at r1
      refine mk_X8_isSound_4 s s3 ⟨⟨by omega, by omega⟩, s_size ⟨k.2.1, rfl⟩ ⟨_, rfl, fun z => ?_, fun _ => ⟨⟨by omega, by omega⟩, s_hasStepBy ⟨k7, rfl⟩ h.2.2.2.2.2.2.1 (wS16 w r hr) (nI_add 10 u) (by omega) ⟨_, rfl, fun z => ?_, fun z => ⟨⟨by omega, by omega⟩, s_get (e := u) ⟨k.2.1, rfl⟩ rfl (by rw [hC.2.2.1.1.1]; exact nI_lt hu' (by omega)) (by omega) ⟨_, u, rfl, ⟨(hC.2.2.1.2.2.1 u hu').1, rfl⟩, ?_⟩⟩⟩⟩⟩⟩
      · rw [hC.2.2.1.1.1] at z
        exact absurd z (nI_ge hu' (by omega))
      · have hb : rdLn (mX M r) (10 + u) = false := by
          cases hb : rdLn (mX M r) (10 + u) with
          | false => rfl
          | true =>
            have hb' : lnS (rdS (mX M r)) (10 + u) (rdk (mX M r)) = true := hb
            rw [hb'] at z
            exact absurd z (by decide)
        rw [hb, Bool.or_false, Bool.false_and] at r1
        rw [nI_1]
        exact r1 rfl
      · have hb : rdLn (mX M r) (10 + u) = true := by
          cases hb : rdLn (mX M r) (10 + u) with
          | true => rfl
          | false =>
            have hb' : lnS (rdS (mX M r)) (10 + u) (rdk (mX M r)) = false := hb
            rw [hb'] at z
            exact absurd rfl z
        rw [hb, Bool.or_true, Bool.true_and] at r1
        rw [(hC.2.2.1.1.2.2 u hu').2.2.2.2]
        cases hs : (mO M u).2.2.2.2 with
        | true =>
          rw [hs] at r1
          rw [nI_1]
          exact ⟨fun q => absurd q (by decide), fun _ => r1 rfl⟩
        | false =>
          have ef : fwE (mO M) (mX M r) (mW M) = true := by
            have := fwE_mono (O := mO M) (x := mX M r) (u := u + 1) (by rw [e2, hb, hs]; rfl) (mW M - (u + 1))
            rw [show u + 1 + (mW M - (u + 1)) = mW M by omega] at this
            exact this
          have H' := H c kC_rfl s hC
          have eS : sound (mO M) (mW M) (mX M r) = false := by
            unfold sound
            rw [ef]
            rfl
          rw [eS] at H'
          exact ⟨fun _ => ⟨⟨by omega, by omega⟩, H'⟩, fun q => absurd rfl q⟩
  exact mk_X8_isSound_0 s s3 (loop (mW M) 0 (by omega) rfl)
theorem c_isClean (s : sl c 0 0 0 a) (hC : CL c M) (w : wfM M t) : wc g (wp_X8_isClean g) c [.ref a] (okC (spClean M) c) (okX [] (spClean M) c) := by
  have b20 := w.1.1
  have loop : ∀ (n r : Nat) (d : cc_C) (kk nn : Nat), r + n = mR M → kk ≤ 2 * r → nn ≤ 7 * r → cnE M r = true → kC c d → sl d 0 0 0 a → CL d M → ec g tb_X8_isClean 2 [some (.ref a), some (.int (nI r))] [] kk nn d (okC (spClean M) c) (okX [] (spClean M) c) := by
    intro n
    induction n with
    | zero =>
      intro r d kk nn hr hk hn hc kc sd hd
      obtain rfl : r = mR M := by omega
      refine ec_cw fun hw => ?_
      have kd := kd_ok hw sd.1
      refine mk_X8_isClean_2 sd ⟨⟨by omega, by omega⟩, s_size ⟨kd.1, rfl⟩ ⟨_, rfl, fun _ => ⟨⟨by omega, by omega⟩, lC (M := M) (y := 1) ?_ rfl kc hd⟩, fun z => absurd ?_ z⟩⟩
      · unfold spClean
        rw [hc]
        rfl
      · rw [hd.2.1.1]
        exact nI_le (Nat.le_refl _) (by omega)
    | succ n ih =>
      intro r d kk nn hr hk hn hc kc sd hd
      have hr' : r < mR M := by omega
      refine ec_cw fun hw => ?_
      have kd := kd_ok hw sd.1
      have h := hd.2.1.2.2.1 r hr'
      have e1 : cnE M (r + 1) = (cnE M r && (!decide (rdZ (mX M r) = 115) || sound (mO M) (mW M) (mX M r))) := rfl
      rw [hc, Bool.true_and] at e1
      have hlt : nI r < cS d 42 0 0 := by
        rw [hd.2.1.1]
        exact nI_lt hr' (by omega)
      refine mk_X8_isClean_2 sd ⟨⟨by omega, by omega⟩, s_size ⟨kd.1, rfl⟩ ⟨_, rfl, fun z => ?_, fun _ => ⟨⟨by omega, by omega⟩, s_get (e := r) ⟨kd.1, rfl⟩ rfl hlt (by omega) ⟨_, r, rfl, ⟨h.1, rfl⟩, fun z => ⟨⟨by omega, by omega⟩, s_get (e := r) ⟨kd.1, rfl⟩ rfl hlt (by omega) ⟨_, r, rfl, ⟨h.1, rfl⟩, ⟨by omega, by omega⟩, s_isSound sd hd w hr' (fun d2 kc2 sd2 hd2 => ⟨_, rfl, fun z2 => ⟨⟨by omega, by omega⟩, ?_⟩, fun z2 => ?_⟩)⟩⟩, fun z => ?_⟩⟩⟩⟩
      · rw [hd.2.1.1] at z
        exact absurd z (nI_ge hr' (by omega))
      · rw [h.2.2.2.2.1] at z
        have hb : sound (mO M) (mW M) (mX M r) = false := by
          cases hb : sound (mO M) (mW M) (mX M r) with
          | false => rfl
          | true => rw [hb] at z2; exact absurd z2 (by decide)
        rw [hb, decide_eq_true z] at e1
        have ef := cnE_mono (M := M) (r := r + 1) e1 (mR M - (r + 1))
        rw [show r + 1 + (mR M - (r + 1)) = mR M by omega] at ef
        refine lC (M := M) (y := 0) ?_ rfl (kc.trans kc2) hd2
        unfold spClean
        rw [ef]
        rfl
      · have hb : sound (mO M) (mW M) (mX M r) = true := by
          cases hb : sound (mO M) (mW M) (mX M r) with
          | true => rfl
          | false => rw [hb] at z2; exact absurd rfl z2
        rw [hb, Bool.or_true] at e1
        rw [nI_1]
        exact ih (r + 1) d2 (kk + 2) (nn + 7) (by omega) (by omega) (by omega) e1 (kc.trans kc2) sd2 hd2
      · rw [h.2.2.2.2.1] at z
        rw [decide_eq_false z] at e1
        rw [nI_1]
        exact ih (r + 1) d kk nn (by omega) (by omega) (by omega) e1 kc sd hd
  exact mk_X8_isClean_0 s (loop (mR M) 0 c 0 0 (by omega) (by omega) (by omega) rfl kC_rfl s hC)
end
