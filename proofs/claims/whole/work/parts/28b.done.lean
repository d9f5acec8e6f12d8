section
variable {g : Nat → Nat} {R : Option Value → cc_C → Prop} {X : String → cc_C → Prop}
/-- the reference's own rules -/
def owM (c : cc_C) (nO : Nat) (O : cc_O) : Prop := cS c 871 0 0 = nI nO ∧ nO ≤ 6 ∧ ∀ u, u < nO → OvM c u (O u).1 (O u).2.2.1 (O u).2.1 (O u).2.2.2.1 ∧ cS c 880 17 u = (if (O u).2.2.2.2 then 0 else 1)
theorem owM_fr {P : Nat → Nat → Prop} {c d : cc_C} {nO : Nat} {O : cc_O} (h : fr P c d) (hP : ∀ i, 13 ≤ i ∧ i ≤ 17 → ¬ P 880 i) (h871 : ¬ P 871 0) (o : owM c nO O) : owM d nO O := by
  obtain ⟨o1, o2, o3⟩ := o
  refine ⟨by rw [h.row h871]; exact o1, o2, fun u hu => ?_⟩
  unfold OvM
  rw [h.row (hP 13 (by omega)), h.row (hP 14 (by omega)), h.row (hP 15 (by omega)), h.row (hP 16 (by omega)), h.row (hP 17 (by omega))]
  exact o3 u hu
theorem pPm_no3 : ∀ i, 13 ≤ i ∧ i ≤ 17 → ¬ pPm 880 i := by
  intro i h q
  have := q.2
  omega
theorem pPm_no4 : ¬ pPm 871 0 := fun q => by
  have := q.1
  omega
theorem m_done24o {c : cc_C} {r n nc nO e k u : Nat} {m : Nat → Nat} {S : cc_St} {O : cc_O} {x2 : Int32} (s : sl c 21 0 0 e) (o : prM c r n nc) (ow : owM c nO O) (hu : u < nO) (hme : meR c n m) (st : stM c r k S) (hk : k < 36)
    (HN : scR (owK (clM c r) O n u m) nc 0 = none → ∀ d, fr pPm c d → kpM r c d → meR d n m → stM d r k S → R (some (.int 0)) d)
    (HS : ∀ i x, scR (owK (clM c r) O n u m) nc 0 = some (i, x) → ∀ d, fr pPm c d → kpM r c d → meR d n x.1 → stM d r (k + 1) (puS S k (10 + u, i, x.2)) → R (some (.int 1)) d) : ec g tb_X9_isDone 24 [some (.ref e), some (.int (nI (10 + u))), some (.int x2), some (.int (nI 0))] [] 0 0 c R X := by
  have loop : ∀ (d i : Nat) (c' : cc_C), i + d = nc → fr pPm c c' → kpM r c c' → meR c' n m → stM c' r k S → scR (owK (clM c r) O n u m) d i = scR (owK (clM c r) O n u m) nc 0 → ec g tb_X9_isDone 24 [some (.ref e), some (.int (nI (10 + u))), some (.int x2), some (.int (nI i))] [] 0 0 c' R X := by
    intro d
    induction d with
    | zero =>
      intro i c' hi hf hkp hs hst hsc
      obtain ⟨⟨⟨w1, w2, w3⟩, o2, o3, o4, o5, o6⟩, eK⟩ := prM_fr hf pPm_no pPm_no1 o
      refine mk_X9_isDone_24 (hf.sl s) ?_
      rw [w2, nI_clamp (by omega), o4]
      exact ⟨vp_in_nI w1 (by omega), fun _ => HN hsc.symm c' hf hkp hs hst, fun q => absurd (nI_le (by omega) (by omega)) q⟩
    | succ d ih =>
      intro i c' hi hf hkp hs hst hsc
      obtain ⟨⟨⟨w1, w2, w3⟩, o2, o3, o4, o5, o6⟩, eK⟩ := prM_fr hf pPm_no pPm_no1 o
      have od := owM_fr hf pPm_no3 pPm_no4 ow
      have nO6 := od.2.1
      have ov := (od.2.2 u hu).1
      have kv := o6 i (by omega)
      have sc := hf.sl s
      have vi := vp_in_nI (show 8 * r + i < 160 by omega) (show 160 < 2 ^ 31 by omega)
      have e8 : (8 : Int32) * nI r + nI i = nI (8 * r + i) := by
        show nI 8 * nI r + nI i = _
        rw [pk_mul, nI_add]
      have eu : nI (10 + u) - 10 = nI u := by
        have := pk_sub (a := 10 + u) (b := 10) (by omega)
        rw [show 10 + u - 10 = u by omega] at this
        exact this
      refine mk_X9_isDone_24 sc ?_
      rw [w2, nI_clamp (by omega), o4, nI_1, e8]
      refine ⟨vp_in_nI w1 (by omega), fun q => absurd q (nI_ge (by omega) (by omega)), fun _ => mk_X9_byClue_0 sc ⟨vi, vi, fun q => absurd q (nI_nlt (a := 10 + u) (b := 10) (by omega) (by omega)), fun _ => ?_⟩⟩
      refine m_byOwn (r := r) sc ⟨w1, w2, w3⟩ hs o2 eu rfl (by omega) ov kv (fun d1 hd1 hs1 => ⟨_, rfl, _, rfl, ?_⟩)
      have ex : ownE (O u).1 (O u).2.1 (O u).2.2.1 (O u).2.2.2.1 (cS c' 880 6 (8 * r + i)) (cS c' 880 7 (8 * r + i)).toNatClampNeg (cS c' 880 8 (8 * r + i)).toNatClampNeg (cS c' 880 9 (8 * r + i)).toNatClampNeg n m = owK (clM c r) O n u m i := by
        rw [← eK]
        rfl
      rw [ex] at hs1 ⊢
      rw [scR_s] at hsc
      refine m_try (ru := 10 + u) (ca := i) (hd1.sl sc) (hf.trans (hd1.mono may_Pm)) (hkp.trans (kpM_fr hd1 may_st)) (nwR_fr hd1 may_no1 may_no2 ⟨w1, w2, w3⟩) hs1 (fun h0 => ownE_0 hme.2.2 h0) (stM_fr hd1 may_st hst) hk ownE_l rfl rfl (fun h0 d2 hf2 hk2 hs2 st2 => ⟨_, rfl, fun _ => ?_, fun q => absurd rfl q⟩) (fun h0 d2 hf2 hk2 hs2 st2 => ⟨_, rfl, fun q => absurd q (by decide), fun _ => ?_⟩)
      · rw [if_pos h0] at hsc
        exact ih (i + 1) d2 (by omega) hf2 hk2 hs2 st2 hsc
      · rw [if_neg h0] at hsc
        exact HS i _ hsc.symm d2 hf2 hk2 hs2 st2
  exact loop nc 0 c (by omega) fr_rfl kpM_rfl hme st rfl
theorem m_done125 {c : cc_C} {r n e k ru : Nat} {m : Nat → Nat} {S : cc_St} (s : sl c 21 0 0 e) (nw : nwR c r n) (hme : meR c n m) (st : stM c r k S) (hk : k < 36) (hru : ru = 7 ∨ ru = 8)
    (HN : scR (if ru = 7 then perE m n else placE m n) n 0 = none → ∀ d, fr pPm c d → kpM r c d → meR d n m → stM d r k S → R (some (.int 0)) d)
    (HS : ∀ i x, scR (if ru = 7 then perE m n else placE m n) n 0 = some (i, x) → ∀ d, fr pPm c d → kpM r c d → meR d n x.1 → stM d r (k + 1) (puS S k (ru, i, x.2)) → R (some (.int 1)) d) : ec g tb_X9_isDone 125 [some (.ref e), some (.int (nI ru)), some (.int (nI n)), some (.int (nI 0))] [] 0 0 c R X := by
  have hn := hme.1
  have h64 := hme.2.2
  have loop : ∀ (d i : Nat) (c' : cc_C), i + d = n → fr pPm c c' → kpM r c c' → meR c' n m → stM c' r k S → scR (if ru = 7 then perE m n else placE m n) d i = scR (if ru = 7 then perE m n else placE m n) n 0 → ec g tb_X9_isDone 125 [some (.ref e), some (.int (nI ru)), some (.int (nI n)), some (.int (nI i))] [] 0 0 c' R X := by
    intro d
    induction d with
    | zero =>
      intro i c' hi hf hkp hs hst hsc
      exact mk_X9_isDone_125 (hf.sl s) ⟨fun _ => HN hsc.symm c' hf hkp hs hst, fun q => absurd (nI_le (by omega) (by omega)) q⟩
    | succ d ih =>
      intro i c' hi hf hkp hs hst hsc
      have nwc := nwR_fr hf pPm_no1 pPm_no2 nw
      have sc := hf.sl s
      rw [scR_s] at hsc
      refine mk_X9_isDone_125 sc ⟨fun q => absurd q (nI_ge (by omega) (by omega)), fun _ => ⟨fun q => ?_, fun q => ?_⟩⟩
      · have h7 : ru = 7 := (nI_eq (a := ru) (b := 7) (by omega) (by omega)).mp q
        subst h7
        rw [if_pos rfl] at hsc
        refine m_byPerson sc nwc hs rfl (by omega) (fun d1 hd1 hs1 => ⟨_, rfl, ?_⟩)
        rw [nI_1]
        refine m_try (ru := 7) (ca := i) (hd1.sl sc) (hf.trans (hd1.mono may_Pm)) (hkp.trans (kpM_fr hd1 may_st)) (nwR_fr hd1 may_no1 may_no2 nwc) hs1 (fun h0 => perE_0 h64 h0) (stM_fr hd1 may_st hst) hk (perE_l hn) rfl rfl (fun h0 d2 hf2 hk2 hs2 st2 => ⟨_, rfl, fun _ => ?_, fun q => absurd rfl q⟩) (fun h0 d2 hf2 hk2 hs2 st2 => ⟨_, rfl, fun q => absurd q (by decide), fun _ => ?_⟩)
        · rw [if_pos h0] at hsc
          exact ih (i + 1) d2 (by omega) hf2 hk2 hs2 st2 (by rw [if_pos rfl]; exact hsc)
        · rw [if_neg h0] at hsc
          exact HS i _ (by rw [if_pos rfl]; exact hsc.symm) d2 hf2 hk2 hs2 st2
      · have h8 : ru = 8 := hru.resolve_left (fun z => q (by rw [z]; rfl))
        subst h8
        rw [if_neg (show ¬ (8 : Nat) = 7 by decide)] at hsc
        refine m_byPlace sc nwc hs rfl (by omega) (fun d1 hd1 hs1 => ⟨_, rfl, ?_⟩)
        rw [nI_1]
        refine m_try (ru := 8) (ca := i) (hd1.sl sc) (hf.trans (hd1.mono may_Pm)) (hkp.trans (kpM_fr hd1 may_st)) (nwR_fr hd1 may_no1 may_no2 nwc) hs1 (fun h0 => placE_0 h64 (by omega) h0) (stM_fr hd1 may_st hst) hk placE_l rfl rfl (fun h0 d2 hf2 hk2 hs2 st2 => ⟨_, rfl, fun _ => ?_, fun q => absurd rfl q⟩) (fun h0 d2 hf2 hk2 hs2 st2 => ⟨_, rfl, fun q => absurd q (by decide), fun _ => ?_⟩)
        · rw [if_pos h0] at hsc
          exact ih (i + 1) d2 (by omega) hf2 hk2 hs2 st2 (by rw [if_neg (show ¬ (8 : Nat) = 7 by decide)]; exact hsc)
        · rw [if_neg h0] at hsc
          exact HS i _ (by rw [if_neg (show ¬ (8 : Nat) = 7 by decide)]; exact hsc.symm) d2 hf2 hk2 hs2 st2
  exact loop n 0 c (by omega) fr_rfl kpM_rfl hme st rfl
end
