/-! is the press clean -/
def lwE (x : cc_Rd) : Nat → Bool
  | 0 => false
  | u + 1 => lwE x u || rdLn x (10 + u)
def fwE (O : cc_O) (x : cc_Rd) : Nat → Bool
  | 0 => false
  | u + 1 => fwE O x u || (rdLn x (10 + u) && !(O u).2.2.2.2)
def sound (O : cc_O) (nO : Nat) (x : cc_Rd) : Bool := !fwE O x nO && (lwE x nO || decide (rdA x = 1))
def cnE (M : cc_M) : Nat → Bool
  | 0 => true
  | r + 1 => cnE M r && (!decide (rdZ (mX M r) = 115) || sound (mO M) (mW M) (mX M r))
theorem fwE_mono {O : cc_O} {x : cc_Rd} {u : Nat} (h : fwE O x u = true) : ∀ w, fwE O x (u + w) = true
  | 0 => h
  | w + 1 => by
    show (fwE O x (u + w) || _) = true
    rw [fwE_mono h w]
    rfl
theorem cnE_mono {M : cc_M} {r : Nat} (h : cnE M r = false) : ∀ w, cnE M (r + w) = false
  | 0 => h
  | w + 1 => by
    show (cnE M (r + w) && _) = false
    rw [cnE_mono h w]
    rfl
def spClean (M : cc_M) : cc_Sp := (0, bI (cnE M (mR M)), M)
section
variable {g : Nat → Nat} {c : cc_C} {M : cc_M} {a e t : Nat} {x y : Int32} {X : String → cc_C → Prop}
theorem s_isSound {R : Option Value → cc_C → Prop} {r : Nat} (s : sl c 0 0 0 a) (hC : CL c M) (w : wfM M t) (hr : r < mR M) (H : ∀ d, kC c d → sl d 0 0 0 a → CL d M → R (some (.int (bI (sound (mO M) (mW M) (mX M r))))) d) : wc g (wp_X8_isSound g) c [.ref a, .ref (cA c 3 r 0)] R X := by
  refine wc_cw fun hw => ?_
  have k := kd_ok hw s.1
  have b6 := w.2.1.1
  have h := hC.2.1.2.2.1 r hr
  have s3 : sl c 3 r 0 (cA c 3 r 0) := ⟨h.1, rfl⟩
  have k7 := (hw.2.2.1 r h.1).2.1
  have loop : ∀ (n u : Nat), u + n = mW M → fwE (mO M) (mX M r) u = false → ec g tb_X8_isSound 4 [some (.ref a), some (.ref (cA c 3 r 0)), some (.int (bI (lwE (mX M r) u))), some (.int (nI u))] [] 0 0 c R X := by
    intro n
    induction n with
    | zero =>
      intro u hu hf
      obtain rfl : u = mW M := by omega
      have eS : sound (mO M) (mW M) (mX M r) = (lwE (mX M r) (mW M) || decide (rdA (mX M r) = 1)) := by
        unfold sound
        rw [hf]
        rfl
      rw [eS] at H
      have wr := w.1.2 r hr
      have b720 := rdA_le wr.1.1 wr.1.2.1
      refine mk_X8_isSound_4 s s3 ⟨⟨by omega, by omega⟩, s_size ⟨k.2.1, rfl⟩ ⟨_, rfl, fun _ => ⟨fun z => ⟨⟨by omega, by omega⟩, s_ansOf hC w hr (fun d hd hC' h1 _ => ⟨rfl, ?_⟩)⟩, fun z => ⟨⟨by omega, by omega⟩, ?_⟩⟩, fun z => absurd ?_ z⟩⟩
      · have hb : lwE (mX M r) (mW M) = false := by
          cases hb : lwE (mX M r) (mW M) with
          | false => rfl
          | true => rw [hb] at z; exact absurd z (by decide)
        rw [h1]
        have H' := H d (kC_A2 hd) (hd.slo s) hC'
        rw [hb, Bool.false_or] at H'
        refine ⟨fun q => ⟨⟨by omega, by omega⟩, ?_⟩, fun q => ⟨⟨by omega, by omega⟩, ?_⟩⟩
        · rw [decide_eq_true ((nI_eq (b := 1) (by omega) (by omega)).mp q)] at H'
          exact H'
        · rw [decide_eq_false (fun q2 => q (by rw [q2]; rfl))] at H'
          exact H'
      · have hb : lwE (mX M r) (mW M) = true := by
          cases hb : lwE (mX M r) (mW M) with
          | true => rfl
          | false => rw [hb] at z; exact absurd rfl z
        have H' := H c kC_rfl s hC
        rw [hb, Bool.true_or] at H'
        exact H'
      · rw [hC.2.2.1.1.1]
        exact nI_le (Nat.le_refl _) (by omega)
    | succ n ih =>
      intro u hu hf
      have hu' : u < mW M := by omega
      have r1 := ih (u + 1) (by omega)
      have e1 : lwE (mX M r) (u + 1) = (lwE (mX M r) u || rdLn (mX M r) (10 + u)) := rfl
      have e2 : fwE (mO M) (mX M r) (u + 1) = (fwE (mO M) (mX M r) u || (rdLn (mX M r) (10 + u) && !(mO M u).2.2.2.2)) := rfl
      rw [hf, Bool.false_or] at e2
      rw [e1, e2] at r1
      refine mk_X8_isSound_4 s s3 ⟨⟨by omega, by omega⟩, s_size ⟨k.2.1, rfl⟩ ⟨_, rfl, fun z => ?_, fun _ => ⟨⟨by omega, by omega⟩, s_hasStepBy ⟨k7, rfl⟩ h.2.2.2.2.2.2.1 (wS16 w r hr) (nI_add 10 u) (by omega) ⟨_, rfl, fun z => ?_, fun z => ⟨⟨by omega, by omega⟩, s_get (e := u) ⟨k.2.1, rfl⟩ rfl (by rw [hC.2.2.1.1.1]; exact nI_lt hu' (by omega)) (by omega) ⟨_, u, rfl, ⟨(hC.2.2.1.2.2.1 u hu').1, rfl⟩, ?_⟩⟩⟩⟩⟩⟩
      · rw [hC.2.2.1.1.1] at z
        exact absurd z (nI_ge hu' (by omega))
      · have hb : rdLn (mX M r) (10 + u) = false := by
          cases hb : rdLn (mX M r) (10 + u) with
          | false => rfl
          | true =>
            have hb' : lnS (rdS (mX M r)) (10 + u) (rdk (mX M r)) = true := hb
            rw [hb'] at z
            exact absurd z (by decide)
        rw [hb, Bool.or_false, Bool.false_and] at r1
        rw [nI_1]
        exact r1 rfl
      · have hb : rdLn (mX M r) (10 + u) = true := by
          cases hb : rdLn (mX M r) (10 + u) with
          | true => rfl
          | false =>
            have hb' : lnS (rdS (mX M r)) (10 + u) (rdk (mX M r)) = false := hb
            rw [hb'] at z
            exact absurd rfl z
        rw [hb, Bool.or_true, Bool.true_and] at r1
        rw [(hC.2.2.1.1.2.2 u hu').2.2.2.2]
        cases hs : (mO M u).2.2.2.2 with
        | true =>
          rw [hs] at r1
          rw [nI_1]
          exact ⟨fun q => absurd q (by decide), fun _ => r1 rfl⟩
        | false =>
          have ef : fwE (mO M) (mX M r) (mW M) = true := by
            have := fwE_mono (O := mO M) (x := mX M r) (u := u + 1) (by rw [e2, hb, hs]; rfl) (mW M - (u + 1))
            rw [show u + 1 + (mW M - (u + 1)) = mW M by omega] at this
            exact this
          have H' := H c kC_rfl s hC
          have eS : sound (mO M) (mW M) (mX M r) = false := by
            unfold sound
            rw [ef]
            rfl
          rw [eS] at H'
          exact ⟨fun _ => ⟨⟨by omega, by omega⟩, H'⟩, fun q => absurd rfl q⟩
  exact mk_X8_isSound_0 s s3 (loop (mW M) 0 (by omega) rfl)
theorem c_isClean (s : sl c 0 0 0 a) (hC : CL c M) (w : wfM M t) : wc g (wp_X8_isClean g) c [.ref a] (okC (spClean M) c) (okX [] (spClean M) c) := by
  have b20 := w.1.1
  have loop : ∀ (n r : Nat) (d : cc_C) (kk nn : Nat), r + n = mR M → kk ≤ 2 * r → nn ≤ 7 * r → cnE M r = true → kC c d → sl d 0 0 0 a → CL d M → ec g tb_X8_isClean 2 [some (.ref a), some (.int (nI r))] [] kk nn d (okC (spClean M) c) (okX [] (spClean M) c) := by
    intro n
    induction n with
    | zero =>
      intro r d kk nn hr hk hn hc kc sd hd
      obtain rfl : r = mR M := by omega
      refine ec_cw fun hw => ?_
      have kd := kd_ok hw sd.1
      refine mk_X8_isClean_2 sd ⟨⟨by omega, by omega⟩, s_size ⟨kd.1, rfl⟩ ⟨_, rfl, fun _ => ⟨⟨by omega, by omega⟩, lC (M := M) (y := 1) ?_ rfl kc hd⟩, fun z => absurd ?_ z⟩⟩
      · unfold spClean
        rw [hc]
        rfl
      · rw [hd.2.1.1]
        exact nI_le (Nat.le_refl _) (by omega)
    | succ n ih =>
      intro r d kk nn hr hk hn hc kc sd hd
      have hr' : r < mR M := by omega
      refine ec_cw fun hw => ?_
      have kd := kd_ok hw sd.1
      have h := hd.2.1.2.2.1 r hr'
      have e1 : cnE M (r + 1) = (cnE M r && (!decide (rdZ (mX M r) = 115) || sound (mO M) (mW M) (mX M r))) := rfl
      rw [hc, Bool.true_and] at e1
      have hlt : nI r < cS d 42 0 0 := by
        rw [hd.2.1.1]
        exact nI_lt hr' (by omega)
      refine mk_X8_isClean_2 sd ⟨⟨by omega, by omega⟩, s_size ⟨kd.1, rfl⟩ ⟨_, rfl, fun z => ?_, fun _ => ⟨⟨by omega, by omega⟩, s_get (e := r) ⟨kd.1, rfl⟩ rfl hlt (by omega) ⟨_, r, rfl, ⟨h.1, rfl⟩, fun z => ⟨⟨by omega, by omega⟩, s_get (e := r) ⟨kd.1, rfl⟩ rfl hlt (by omega) ⟨_, r, rfl, ⟨h.1, rfl⟩, ⟨by omega, by omega⟩, s_isSound sd hd w hr' (fun d2 kc2 sd2 hd2 => ⟨_, rfl, fun z2 => ⟨⟨by omega, by omega⟩, ?_⟩, fun z2 => ?_⟩)⟩⟩, fun z => ?_⟩⟩⟩⟩
      · rw [hd.2.1.1] at z
        exact absurd z (nI_ge hr' (by omega))
      · rw [h.2.2.2.2.1] at z
        have hb : sound (mO M) (mW M) (mX M r) = false := by
          cases hb : sound (mO M) (mW M) (mX M r) with
          | false => rfl
          | true => rw [hb] at z2; exact absurd z2 (by decide)
        rw [hb, decide_eq_true z] at e1
        have ef := cnE_mono (M := M) (r := r + 1) e1 (mR M - (r + 1))
        rw [show r + 1 + (mR M - (r + 1)) = mR M by omega] at ef
        refine lC (M := M) (y := 0) ?_ rfl (kc.trans kc2) hd2
        unfold spClean
        rw [ef]
        rfl
      · have hb : sound (mO M) (mW M) (mX M r) = true := by
          cases hb : sound (mO M) (mW M) (mX M r) with
          | true => rfl
          | false => rw [hb] at z2; exact absurd rfl z2
        rw [hb, Bool.or_true] at e1
        rw [nI_1]
        exact ih (r + 1) d2 (kk + 2) (nn + 7) (by omega) (by omega) (by omega) e1 (kc.trans kc2) sd2 hd2
      · rw [h.2.2.2.2.1] at z
        rw [decide_eq_false z] at e1
        rw [nI_1]
        exact ih (r + 1) d kk nn (by omega) (by omega) (by omega) e1 kc sd hd
  exact mk_X8_isClean_0 s (loop (mR M) 0 c 0 0 (by omega) (by omega) (by omega) rfl kC_rfl s hC)
theorem m_leansOwn {R : Option Value → cc_C → Prop} {r : Nat} {x1 : Int32} (s : sl c 21 0 0 e) (hR : RF c M) (w : wfM M t) (hr : r < mR M) (h1 : x1 = nI r) (H : R (some (.int (bI (lwE (mX M r) (mW M))))) c) : wc g (wp_X9_leansOwn g) c [.ref e, .int x1] R X := by
  have b6 := w.2.1.1
  have e10 : (10 : Int32) + nI (mW M) = nI (10 + mW M) := nI_add 10 _
  have loop : ∀ (n u : Nat), u + n = mW M → ec g tb_X9_leansOwn 5 [some (.ref e), some (.int x1), some (.int (bI (lwE (mX M r) u))), some (.int (nI (10 + u)))] [] 0 0 c R X := by
    intro n
    induction n with
    | zero =>
      intro u hu
      obtain rfl : u = mW M := by omega
      refine mk_X9_leansOwn_5 s ?_
      rw [hR.2.2.1.1.1, e10]
      exact ⟨fun _ => ⟨nb_bI _, H⟩, fun z => absurd (nI_le (Nat.le_refl _) (by omega)) z⟩
    | succ n ih =>
      intro u hu
      have r1 := ih (u + 1) (by omega)
      have e1 : lwE (mX M r) (u + 1) = (lwE (mX M r) u || rdLn (mX M r) (10 + u)) := rfl
      rw [e1] at r1
      refine mk_X9_leansOwn_5 s ?_
      rw [hR.2.2.1.1.1, e10, nI_1]
      refine ⟨fun z => absurd z (nI_ge (by omega) (by omega)), fun _ => ⟨fun q => m_ln s hR.2.1 w hr h1 rfl (by omega) ⟨_, rfl, fun q2 => ?_, fun q2 => ?_⟩, fun q => ?_⟩⟩
      · have hb : lwE (mX M r) u = false := by
          cases h : lwE (mX M r) u with
          | false => rfl
          | true => rw [h] at q; exact absurd q (by decide)
        have hb2 : rdLn (mX M r) (10 + u) = false := by
          cases h : rdLn (mX M r) (10 + u) with
          | false => rfl
          | true => rw [h] at q2; exact absurd q2 (by decide)
        rw [hb, hb2] at r1
        exact r1
      · have hb2 : rdLn (mX M r) (10 + u) = true := by
          cases h : rdLn (mX M r) (10 + u) with
          | true => rfl
          | false => rw [h] at q2; exact absurd rfl q2
        rw [hb2, Bool.or_true] at r1
        exact r1
      · have hb : lwE (mX M r) u = true := by
          cases h : lwE (mX M r) u with
          | true => rfl
          | false => rw [h] at q; exact absurd rfl q
        rw [hb, Bool.true_or] at r1
        exact r1
  exact mk_X9_leansOwn_0 s (loop (mW M) 0 (by omega))
theorem m_isClean (s : sl c 21 0 0 e) (hR : RF c M) (w : wfM M t) : wc g (wp_X9_isClean g) c [.ref e] (okN (spClean M) c) X := by
  have b20 := w.1.1
  have b6 := w.2.1.1
  have e10 : (10 : Int32) + nI (mW M) = nI (10 + mW M) := nI_add 10 _
  have loop : ∀ (n r : Nat) (d : cc_C) (o3 : Option Value), r + n = mR M → kM c d → sl d 21 0 0 e → RF d M → ec g tb_X9_isClean 4 [some (.ref e), some (.int (bI (cnE M r))), some (.int (nI r)), o3] [] 0 0 d (okN (spClean M) c) X := by
    intro n
    induction n with
    | zero =>
      intro r d o3 hr km sd hd
      obtain rfl : r = mR M := by omega
      refine mk_X9_isClean_4 sd ?_
      rw [hd.2.1.1]
      exact ⟨fun _ => m_tells sd ⟨_, rfl, nb_bI _, lT rfl rfl km hd⟩, fun z => absurd (nI_le (Nat.le_refl _) (by omega)) z⟩
    | succ n ih =>
      intro r d o3 hr km sd hd
      have hr' : r < mR M := by omega
      have cr : (nI r).toNatClampNeg = r := nI_clamp (by omega)
      have v20 := vp_in_nI (show r < 20 by omega) (by omega)
      have h := hd.2.1.2.1 r hr'
      have wr := w.1.2 r hr'
      have b720 := rdA_le wr.1.1 wr.1.2.1
      have e1 : cnE M (r + 1) = (cnE M r && (!decide (rdZ (mX M r) = 115) || sound (mO M) (mW M) (mX M r))) := rfl
      have nxt : ∀ (b : Bool) (d2 : cc_C) (o5 : Option Value), b = cnE M (r + 1) → kM c d2 → sl d2 21 0 0 e → RF d2 M → ec g tb_X9_isClean 4 [some (.ref e), some (.int (bI b)), some (.int (nI (r + 1))), o5] [] 0 0 d2 (okN (spClean M) c) X := fun b d2 o5 hb km2 sd2 hd2 => by
        rw [hb]
        exact ih (r + 1) d2 o5 (by omega) km2 sd2 hd2
      refine mk_X9_isClean_4 sd ?_
      rw [hd.2.1.1]
      refine ⟨fun z => absurd z (nI_ge hr' (by omega)), fun _ => ?_⟩
      by_cases hZ : rdZ (mX M r) = 115
      · rw [decide_eq_true hZ] at e1
        have e1' : cnE M (r + 1) = (cnE M r && sound (mO M) (mW M) (mX M r)) := e1
        have inner : ∀ (n u : Nat), u + n = mW M → ec g tb_X9_isClean 15 [some (.ref e), some (.int (bI (cnE M r && !fwE (mO M) (mX M r) u))), some (.int (nI r)), some (.int (nI (10 + u)))] [] 0 0 d (okN (spClean M) c) X := by
          intro n
          induction n with
          | zero =>
            intro u hu
            obtain rfl : u = mW M := by omega
            refine mk_X9_isClean_15 sd ?_
            rw [hd.2.2.1.1.1, e10, cr, h.2.2.2.1, nI_1]
            refine ⟨fun _ => ⟨fun q => ?_, fun q => ⟨v20, fun _ => ?_, fun z => absurd hZ z⟩⟩, fun z => absurd (nI_le (Nat.le_refl _) (by omega)) z⟩
            · have hb : (cnE M r && !fwE (mO M) (mX M r) (mW M)) = false := by
                cases h : (cnE M r && !fwE (mO M) (mX M r) (mW M)) with
                | false => rfl
                | true => rw [h] at q; exact absurd q (by decide)
              refine nxt false d _ ?_ km sd hd
              rw [e1']
              unfold sound
              rw [← Bool.and_assoc, hb]
              rfl
            · have hb : (cnE M r && !fwE (mO M) (mX M r) (mW M)) = true := by
                cases h : (cnE M r && !fwE (mO M) (mX M r) (mW M)) with
                | true => rfl
                | false => rw [h] at q; exact absurd rfl q
              have eS : cnE M (r + 1) = (lwE (mX M r) (mW M) || decide (rdA (mX M r) = 1)) := by
                rw [e1']
                unfold sound
                rw [← Bool.and_assoc, hb]
                rfl
              refine m_leansOwn sd hd w hr' rfl ⟨_, rfl, fun q2 => ?_, fun q2 => ?_⟩
              · have hb2 : lwE (mX M r) (mW M) = false := by
                  cases h : lwE (mX M r) (mW M) with
                  | false => rfl
                  | true => rw [h] at q2; exact absurd q2 (by decide)
                rw [hb2, Bool.false_or] at eS
                refine m_ansOf sd hd w hr' rfl (fun d2 hd2 hR2 _ => ⟨_, rfl, fun q3 => ?_, fun q3 => ?_⟩)
                · exact nxt true d2 _ (by rw [eS, decide_eq_true ((nI_eq (b := 1) (by omega) (by omega)).mp q3)]) (km.trans (kM_AM hd2)) (hd2.sl sd) hR2
                · exact nxt false d2 _ (by rw [eS, decide_eq_false (fun q4 => q3 (by rw [q4]; rfl))]) (km.trans (kM_AM hd2)) (hd2.sl sd) hR2
              · have hb2 : lwE (mX M r) (mW M) = true := by
                  cases h : lwE (mX M r) (mW M) with
                  | true => rfl
                  | false => rw [h] at q2; exact absurd rfl q2
                exact nxt true d _ (by rw [eS, hb2]; rfl) km sd hd
          | succ n ih2 =>
            intro u hu
            have hu' : u < mW M := by omega
            have r1 := ih2 (u + 1) (by omega)
            have e2 : fwE (mO M) (mX M r) (u + 1) = (fwE (mO M) (mX M r) u || (rdLn (mX M r) (10 + u) && !(mO M u).2.2.2.2)) := rfl
            rw [e2] at r1
            have v17 := (hd.2.2.1.1.2.2 u hu').2
            have eu : nI (10 + u) - 10 = nI u := by
              have := pk_sub (a := 10 + u) (b := 10) (by omega)
              rw [show 10 + u - 10 = u by omega] at this
              exact this
            refine mk_X9_isClean_15 sd ?_
            rw [hd.2.2.1.1.1, e10, cr, h.2.2.2.1, eu, nI_clamp (show u < 2 ^ 31 by omega), v17, show nI (10 + u) + 1 = nI (10 + (u + 1)) from nI_1 _]
            refine ⟨fun z => absurd z (nI_ge (by omega) (by omega)), fun _ => ⟨v20, fun _ => ⟨fun q => ?_, fun q => ⟨vp_in_nI (by omega) (by omega), fun q2 => ?_, fun q2 => m_ln sd hd.2.1 w hr' rfl rfl (by omega) ⟨_, rfl, fun q3 => ?_, fun q3 => ?_⟩⟩⟩, fun z => absurd hZ z⟩⟩
            · have hb : (cnE M r && !fwE (mO M) (mX M r) u) = false := by
                cases h : (cnE M r && !fwE (mO M) (mX M r) u) with
                | false => rfl
                | true => rw [h] at q; exact absurd q (by decide)
              have hb3 : (cnE M r && !(fwE (mO M) (mX M r) u || (rdLn (mX M r) (10 + u) && !(mO M u).2.2.2.2))) = false := by
                cases hc : cnE M r with
                | false => rfl
                | true =>
                  rw [hc, Bool.true_and] at hb
                  have : fwE (mO M) (mX M r) u = true := by
                    cases h : fwE (mO M) (mX M r) u with
                    | true => rfl
                    | false => rw [h] at hb; exact absurd hb (by decide)
                  rw [this]
                  rfl
              rw [hb3] at r1
              exact r1
            · have hs : (mO M u).2.2.2.2 = true := by
                cases h : (mO M u).2.2.2.2 with
                | true => rfl
                | false => rw [h] at q2; exact absurd q2 (by decide)
              have hb : (cnE M r && !fwE (mO M) (mX M r) u) = true := by
                cases h : (cnE M r && !fwE (mO M) (mX M r) u) with
                | true => rfl
                | false => rw [h] at q; exact absurd rfl q
              rw [hs] at r1
              have : (fwE (mO M) (mX M r) u || (rdLn (mX M r) (10 + u) && !true)) = fwE (mO M) (mX M r) u := by
                rw [show (!true) = false from rfl, Bool.and_false, Bool.or_false]
              rw [this, hb] at r1
              exact r1
            · have hb : (cnE M r && !fwE (mO M) (mX M r) u) = true := by
                cases h : (cnE M r && !fwE (mO M) (mX M r) u) with
                | true => rfl
                | false => rw [h] at q; exact absurd rfl q
              have hl : rdLn (mX M r) (10 + u) = false := by
                cases h : rdLn (mX M r) (10 + u) with
                | false => rfl
                | true => rw [h] at q3; exact absurd q3 (by decide)
              rw [hl, Bool.false_and, Bool.or_false, hb] at r1
              exact r1
            · have hl : rdLn (mX M r) (10 + u) = true := by
                cases h : rdLn (mX M r) (10 + u) with
                | true => rfl
                | false => rw [h] at q3; exact absurd rfl q3
              have hs : (mO M u).2.2.2.2 = false := by
                cases h : (mO M u).2.2.2.2 with
                | false => rfl
                | true => rw [h] at q2; exact absurd rfl q2
              rw [hl, hs] at r1
              have : (cnE M r && !(fwE (mO M) (mX M r) u || (true && !false))) = false := by
                rw [show (true && !false) = true from rfl, Bool.or_true]
                exact Bool.and_false _
              rw [this] at r1
              exact r1
        have := inner (mW M) 0 (by omega)
        have e0 : (cnE M r && !fwE (mO M) (mX M r) 0) = cnE M r := Bool.and_true _
        rw [e0] at this
        exact this
      · rw [decide_eq_false hZ] at e1
        have e1' : cnE M (r + 1) = cnE M r := e1.trans (Bool.and_true _)
        refine mk_X9_isClean_15 sd ?_
        rw [cr, h.2.2.2.1, nI_1]
        have both : (bI (cnE M r) = 0 → ec g tb_X9_isClean 4 [some (.ref e), some (.int 0), some (.int (nI (r + 1))), some (.int (nI 10))] [] 0 0 d (okN (spClean M) c) X) ∧ (¬ bI (cnE M r) = 0 → ec g tb_X9_isClean 4 [some (.ref e), some (.int 1), some (.int (nI (r + 1))), some (.int (nI 10))] [] 0 0 d (okN (spClean M) c) X) := by
          refine ⟨fun q => nxt false d _ ?_ km sd hd, fun q => nxt true d _ ?_ km sd hd⟩
          · rw [e1']
            cases h : cnE M r with
            | false => rfl
            | true => rw [h] at q; exact absurd q (by decide)
          · rw [e1']
            cases h : cnE M r with
            | true => rfl
            | false => rw [h] at q; exact absurd rfl q
        exact ⟨fun _ => ⟨both.1, fun q => ⟨v20, fun z => absurd z hZ, fun _ => both.2 q⟩⟩, fun _ => ⟨v20, fun z => absurd z hZ, fun _ => ⟨both.1, fun q => ⟨v20, fun z => absurd z hZ, fun _ => both.2 q⟩⟩⟩⟩
  exact mk_X9_isClean_0 s (loop (mR M) 0 c none (by omega) kM_rfl s hR)
end
