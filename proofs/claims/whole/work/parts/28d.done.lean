section
variable {g : Nat → Nat} {R : Option Value → cc_C → Prop} {X : String → cc_C → Prop}
theorem m_isAnyDone {c : cc_C} {r n nc nO e k : Nat} {m : Nat → Nat} {S : cc_St} {O : cc_O} (s : sl c 21 0 0 e) (o : prM c r n nc) (ow : owM c nO O) (hme : meR c n m) (st : stM c r k S) (hk : k < 36) (ok : okM n m)
    (HN : stpS (clM c r) O n nc nO m = none → ∀ d, fr pPm c d → kpM r c d → meR d n m → stM d r k S → R (some (.int 0)) d)
    (HS : ∀ ru ca x, stpS (clM c r) O n nc nO m = some (ru, ca, x) → ∀ d, fr pPm c d → kpM r c d → meR d n x.1 → stM d r (k + 1) (puS S k (ru, ca, x.2)) → R (some (.int 1)) d) : wc g (wp_X9_isAnyDone g) c [.ref e] R X := by
  have nO6 := ow.2.1
  have P := fun d (hd : fr pPm c d) => prM_fr hd pPm_no pPm_no1 o
  have start : ∀ (d : cc_C), fr pPm c d → cS d 874 0 0 = nI r ∧ cS d 880 0 (nI r).toNatClampNeg = nI n ∧ vp_in (nI r) 20 := by
    intro d hd
    obtain ⟨w1, w2, w3⟩ := (P d hd).1.1
    exact ⟨w2, by rw [nI_clamp (by omega)]; exact w3, vp_in_nI w1 (by omega)⟩
  have e10 : (10 : Int32) + nI nO = nI (10 + nO) := nI_add 10 nO
  have Lo : ∀ (w u : Nat) (d : cc_C), u + w = nO → fr pPm c d → kpM r c d → meR d n m → stM d r k S → owS (clM c r) O n nc m w u = stpS (clM c r) O n nc nO m → ec g tb_X9_isAnyDone 2 [some (.ref e), some (.int (nI (10 + u)))] [] 0 0 d R X := by
    intro w
    induction w with
    | zero =>
      intro u d hu hf hkp hs hst hT
      have od := owM_fr hf pPm_no3 pPm_no4 ow
      refine mk_X9_isAnyDone_2 (hf.sl s) ?_
      rw [od.1, e10]
      exact ⟨fun _ => HN hT.symm d hf hkp hs hst, fun q => absurd (nI_le (by omega) (by omega)) q⟩
    | succ w ih =>
      intro u d hu hf hkp hs hst hT
      have od := owM_fr hf pPm_no3 pPm_no4 ow
      obtain ⟨pd, eK⟩ := P d hf
      obtain ⟨t1, t2, t3⟩ := start d hf
      have v17 := (od.2.2 u (by omega)).2
      have eo : owS (clM c r) O n nc m (w + 1) u = orE (if (O u).2.2.2.2 then tag (10 + u) (scR (owK (clM c r) O n u m) nc 0) else none) (owS (clM c r) O n nc m w (u + 1)) := rfl
      rw [eo] at hT
      have eu : nI (10 + u) - 10 = nI u := by
        have := pk_sub (a := 10 + u) (b := 10) (by omega)
        rw [show 10 + u - 10 = u by omega] at this
        exact this
      refine mk_X9_isAnyDone_2 (hf.sl s) ?_
      rw [od.1, e10, eu, nI_clamp (by omega), nI_1]
      refine ⟨fun q => absurd q (nI_ge (by omega) (by omega)), fun _ => ⟨fun q => absurd q (nI_nlt (a := 10 + u) (b := 10) (by omega) (by omega)), fun _ => ⟨vp_in_nI (by omega) (by omega), fun q => ?_, fun q => ?_⟩⟩⟩
      · have hb : (O u).2.2.2.2 = true := by
          cases hb : (O u).2.2.2.2 with
          | true => rfl
          | false => rw [v17, hb] at q; exact absurd q (by decide)
        rw [hb, if_pos rfl] at hT
        refine mk_X9_isDone_0 (hf.sl s) ?_
        rw [t1, t2]
        refine ⟨t3, fun q => absurd q (nI_nlt (a := 10 + u) (b := 7) (by omega) (by omega)), fun _ => ⟨fun q => absurd q (nI_nlt (a := 10 + u) (b := 10) (by omega) (by omega)), fun _ => m_done24o (hf.sl s) pd od (by omega) hs hst hk (fun h0 d2 hd2 hk2 hs2 st2 => ⟨_, rfl, fun _ => ?_, fun q => absurd rfl q⟩) (fun i x h0 d2 hd2 hk2 hs2 st2 => ⟨_, rfl, fun q => absurd q (by decide), fun _ => ?_⟩)⟩⟩
        · rw [eK] at h0
          rw [h0] at hT
          exact ih (u + 1) d2 (by omega) (hf.trans hd2) (hkp.trans hk2) hs2 st2 hT
        · rw [eK] at h0
          rw [h0] at hT
          exact HS _ _ _ hT.symm d2 (hf.trans hd2) (hkp.trans hk2) hs2 st2
      · have hb : (O u).2.2.2.2 = false := by
          cases hb : (O u).2.2.2.2 with
          | false => rfl
          | true => rw [v17, hb] at q; exact absurd rfl q
        rw [hb] at hT
        exact ih (u + 1) d (by omega) hf hkp hs hst hT
  have L9 : ∀ (d : cc_C), fr pPm c d → kpM r c d → meR d n m → stM d r k S → orE (paS m n n 0) (owS (clM c r) O n nc m nO 0) = stpS (clM c r) O n nc nO m → ec g tb_X9_isAnyDone 2 [some (.ref e), some (.int (nI 9))] [] 0 0 d R X := by
    intro d hf hkp hs hst hT
    have od := owM_fr hf pPm_no3 pPm_no4 ow
    obtain ⟨pd, eK⟩ := P d hf
    obtain ⟨t1, t2, t3⟩ := start d hf
    refine mk_X9_isAnyDone_2 (hf.sl s) ?_
    rw [od.1, e10, nI_1]
    refine ⟨fun q => absurd q (nI_ge (by omega) (by omega)), fun _ => ⟨fun _ => mk_X9_isDone_0 (hf.sl s) ?_, fun q => absurd (nI_lt (a := 9) (b := 10) (by omega) (by omega)) q⟩⟩
    rw [t1, t2]
    refine ⟨t3, fun q => absurd q (by decide), fun _ => ⟨fun _ => ⟨fun _ => m_done78 (hf.sl s) pd.1 pd.2.1 hs hst hk (fun h0 d2 hd2 hk2 hs2 st2 => ⟨_, rfl, fun _ => ?_, fun q => absurd rfl q⟩) (fun ru ca x h0 d2 hd2 hk2 hs2 st2 => ⟨_, rfl, fun q => absurd q (by decide), fun _ => ?_⟩), fun q => absurd rfl q⟩, fun q => absurd (by decide) q⟩⟩
    · rw [h0] at hT
      exact Lo nO 0 d2 (by omega) (hf.trans hd2) (hkp.trans hk2) hs2 st2 hT
    · rw [h0] at hT
      exact HS _ _ _ hT.symm d2 (hf.trans hd2) (hkp.trans hk2) hs2 st2
  have L8 : ∀ (d : cc_C), fr pPm c d → kpM r c d → meR d n m → stM d r k S → orE (orE (tag 8 (scR (placE m n) n 0)) (paS m n n 0)) (owS (clM c r) O n nc m nO 0) = stpS (clM c r) O n nc nO m → ec g tb_X9_isAnyDone 2 [some (.ref e), some (.int (nI 8))] [] 0 0 d R X := by
    intro d hf hkp hs hst hT
    have od := owM_fr hf pPm_no3 pPm_no4 ow
    obtain ⟨pd, eK⟩ := P d hf
    obtain ⟨t1, t2, t3⟩ := start d hf
    refine mk_X9_isAnyDone_2 (hf.sl s) ?_
    rw [od.1, e10, nI_1]
    refine ⟨fun q => absurd q (nI_ge (by omega) (by omega)), fun _ => ⟨fun _ => mk_X9_isDone_0 (hf.sl s) ?_, fun q => absurd (nI_lt (a := 8) (b := 10) (by omega) (by omega)) q⟩⟩
    rw [t1, t2]
    refine ⟨t3, fun q => absurd q (by decide), fun _ => ⟨fun _ => ⟨fun q => absurd q (by decide), fun _ => m_done125 (ru := 8) (hf.sl s) pd.1 hs hst hk (Or.inr rfl) (fun h0 d2 hd2 hk2 hs2 st2 => ⟨_, rfl, fun _ => ?_, fun q => absurd rfl q⟩) (fun i x h0 d2 hd2 hk2 hs2 st2 => ⟨_, rfl, fun q => absurd q (by decide), fun _ => ?_⟩)⟩, fun q => absurd (by decide) q⟩⟩
    · rw [if_neg (show ¬ (8 : Nat) = 7 by decide)] at h0
      rw [h0] at hT
      exact L9 d2 (hf.trans hd2) (hkp.trans hk2) hs2 st2 hT
    · rw [if_neg (show ¬ (8 : Nat) = 7 by decide)] at h0
      rw [h0] at hT
      exact HS _ _ _ hT.symm d2 (hf.trans hd2) (hkp.trans hk2) hs2 st2
  have L7 : ∀ (d : cc_C), fr pPm c d → kpM r c d → meR d n m → stM d r k S → orE (plS m n) (owS (clM c r) O n nc m nO 0) = stpS (clM c r) O n nc nO m → ec g tb_X9_isAnyDone 2 [some (.ref e), some (.int (nI 7))] [] 0 0 d R X := by
    intro d hf hkp hs hst hT
    unfold plS at hT
    have od := owM_fr hf pPm_no3 pPm_no4 ow
    obtain ⟨pd, eK⟩ := P d hf
    obtain ⟨t1, t2, t3⟩ := start d hf
    refine mk_X9_isAnyDone_2 (hf.sl s) ?_
    rw [od.1, e10, nI_1]
    refine ⟨fun q => absurd q (nI_ge (by omega) (by omega)), fun _ => ⟨fun _ => mk_X9_isDone_0 (hf.sl s) ?_, fun q => absurd (nI_lt (a := 7) (b := 10) (by omega) (by omega)) q⟩⟩
    rw [t1, t2]
    refine ⟨t3, fun q => absurd q (by decide), fun _ => ⟨fun _ => ⟨fun q => absurd q (by decide), fun _ => m_done125 (ru := 7) (hf.sl s) pd.1 hs hst hk (Or.inl rfl) (fun h0 d2 hd2 hk2 hs2 st2 => ⟨_, rfl, fun _ => ?_, fun q => absurd rfl q⟩) (fun i x h0 d2 hd2 hk2 hs2 st2 => ⟨_, rfl, fun q => absurd q (by decide), fun _ => ?_⟩)⟩, fun q => absurd (by decide) q⟩⟩
    · rw [if_pos rfl] at h0
      rw [h0] at hT
      exact L8 d2 (hf.trans hd2) (hkp.trans hk2) hs2 st2 hT
    · rw [if_pos rfl] at h0
      rw [h0] at hT
      exact HS _ _ _ hT.symm d2 (hf.trans hd2) (hkp.trans hk2) hs2 st2
  have L0 : ∀ (w ru : Nat) (d : cc_C), ru + w = 7 → fr pPm c d → kpM r c d → meR d n m → stM d r k S → orE (clS (clM c r) nc m w ru) (orE (plS m n) (owS (clM c r) O n nc m nO 0)) = stpS (clM c r) O n nc nO m → ec g tb_X9_isAnyDone 2 [some (.ref e), some (.int (nI ru))] [] 0 0 d R X := by
    intro w
    induction w with
    | zero =>
      intro ru d hru hf hkp hs hst hT
      obtain rfl : ru = 7 := by omega
      exact L7 d hf hkp hs hst hT
    | succ w ih =>
      intro ru d hru hf hkp hs hst hT
      have od := owM_fr hf pPm_no3 pPm_no4 ow
      obtain ⟨pd, eK⟩ := P d hf
      obtain ⟨t1, t2, t3⟩ := start d hf
      have eo : clS (clM c r) nc m (w + 1) ru = orE (tag ru (scR (clK (clM c r) ru m) nc 0)) (clS (clM c r) nc m w (ru + 1)) := rfl
      rw [eo] at hT
      refine mk_X9_isAnyDone_2 (hf.sl s) ?_
      rw [od.1, e10, nI_1]
      refine ⟨fun q => absurd q (nI_ge (by omega) (by omega)), fun _ => ⟨fun _ => mk_X9_isDone_0 (hf.sl s) ?_, fun q => absurd (nI_lt (a := ru) (b := 10) (by omega) (by omega)) q⟩⟩
      rw [t1, t2]
      refine ⟨t3, fun _ => m_done24 (hf.sl s) pd hs hst hk ok (by omega) (fun h0 d2 hd2 hk2 hs2 st2 => ⟨_, rfl, fun _ => ?_, fun q => absurd rfl q⟩) (fun i x h0 d2 hd2 hk2 hs2 st2 => ⟨_, rfl, fun q => absurd q (by decide), fun _ => ?_⟩), fun q => absurd (nI_lt (a := ru) (b := 7) (by omega) (by omega)) q⟩
      · rw [eK] at h0
        rw [h0] at hT
        exact ih (ru + 1) d2 (by omega) (hf.trans hd2) (hkp.trans hk2) hs2 st2 hT
      · rw [eK] at h0
        rw [h0] at hT
        exact HS _ _ _ hT.symm d2 (hf.trans hd2) (hkp.trans hk2) hs2 st2
  exact mk_X9_isAnyDone_0 s (L0 7 0 c (by omega) fr_rfl kpM_rfl hme st rfl)
end
