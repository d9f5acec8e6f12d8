/-! the reference makes a step -/
/-- nobody is empty, nobody has more than n places -/
def okM (n : Nat) (m : Nat → Nat) : Prop := (∀ i, i < n → m i ≠ 0) ∧ ∀ i, i < n → m i < 2 ^ n
def pPm (f i : Nat) : Prop := f = 880 ∧ (i = 25 ∨ i = 4 ∨ i = 10 ∨ i = 11 ∨ i = 12)
section
variable {g : Nat → Nat} {R : Option Value → cc_C → Prop} {X : String → cc_C → Prop}
theorem stM_fr {P : Nat → Nat → Prop} {c d : cc_C} {r k : Nat} {S : cc_St} (h : fr P c d) (hp : ∀ i, i = 4 ∨ i = 10 ∨ i = 11 ∨ i = 12 → ¬ P 880 i) (hs : stM c r k S) : stM d r k S := by
  unfold stM
  rw [h.row (hp 4 (by omega)), h.row (hp 10 (by omega)), h.row (hp 11 (by omega)), h.row (hp 12 (by omega))]
  exact hs
theorem meR_fr {P : Nat → Nat → Prop} {c d : cc_C} {n : Nat} {m : Nat → Nat} (h : fr P c d) (hp : ¬ P 880 25) (hs : meR c n m) : meR d n m := by
  unfold meR
  rw [h.row hp]
  exact hs
theorem may_st : ∀ i, i = 4 ∨ i = 10 ∨ i = 11 ∨ i = 12 → ¬ pMay 880 i := by
  intro i h q
  have := q.2
  omega
theorem m_try {c0 d : cc_C} {r n e k ru ca : Nat} {m : Nat → Nat} {x : cc_Ef} {S : cc_St} {x1 x2 : Int32} (s : sl d 21 0 0 e) (hd : fr pPm c0 d) (hk0 : kpM r c0 d) (nw : nwR d r n) (hs : meR d n x.1) (hz : x.2 = 0 → x.1 = m) (st : stM d r k S) (hk : k < 36) (hx : x.2 < 1000) (h1 : x1 = nI ru) (h2 : x2 = nI ca) (HN : x.2 = 0 → ∀ d', fr pPm c0 d' → kpM r c0 d' → meR d' n m → stM d' r k S → R (some (.int 0)) d') (HS : x.2 ≠ 0 → ∀ d', fr pPm c0 d' → kpM r c0 d' → meR d' n x.1 → stM d' r (k + 1) (puS S k (ru, ca, x.2)) → R (some (.int 1)) d') : wc g (wp_X9_isStep g) d [.ref e, .int x1, .int x2, .int (nI x.2)] R X := by
  refine m_isStep s nw st hk h1 h2 rfl hx (fun h0 => HN h0 d hd hk0 (hz h0 ▸ hs) st) (fun h0 d' hd' hkm st' => HS h0 d' (hd.trans (hd'.mono (fun f i h => ?_))) (hk0.trans hkm) (meR_fr hd' ?_ hs) st')
  · unfold pStM at h
    unfold pPm
    omega
  · unfold pStM
    omega
theorem pPm_no1 : ¬ pPm 874 0 := fun q => by
  have := q.1
  omega
theorem pPm_no2 : ¬ pPm 880 0 := fun q => by
  have := q.2
  omega
theorem may_Pm : ∀ f i, pMay f i → pPm f i := fun f i h => ⟨h.1, Or.inl h.2⟩
/-- the reference's clues and riddle, while it proves -/
def prM (c : cc_C) (r n nc : Nat) : Prop := nwR c r n ∧ 3 ≤ n ∧ n ≤ 6 ∧ cS c 880 1 r = nI nc ∧ nc ≤ 8 ∧ ∀ e, e < nc → KvK n (clM c r) e
theorem prM_fr {P : Nat → Nat → Prop} {c d : cc_C} {r n nc : Nat} (h : fr P c d) (hP : ∀ i, i = 0 ∨ i = 1 ∨ i = 6 ∨ i = 7 ∨ i = 8 ∨ i = 9 → ¬ P 880 i) (h874 : ¬ P 874 0) (o : prM c r n nc) : prM d r n nc ∧ clM d r = clM c r := by
  have eK : clM d r = clM c r := by
    funext e
    unfold clM
    rw [h.row (hP 6 (by omega)), h.row (hP 7 (by omega)), h.row (hP 8 (by omega)), h.row (hP 9 (by omega))]
  obtain ⟨o1, o2, o3, o4, o5, o6⟩ := o
  refine ⟨⟨nwR_fr h h874 (hP 0 (by omega)) o1, o2, o3, by rw [h.row (hP 1 (by omega))]; exact o4, o5, fun e he => ?_⟩, eK⟩
  rw [eK]
  exact o6 e he
theorem pPm_no : ∀ i, i = 0 ∨ i = 1 ∨ i = 6 ∨ i = 7 ∨ i = 8 ∨ i = 9 → ¬ pPm 880 i := by
  intro i h q
  have := q.2
  omega
theorem m_done24 {c : cc_C} {r n nc e k ru : Nat} {m : Nat → Nat} {S : cc_St} {x2 : Int32} (s : sl c 21 0 0 e) (o : prM c r n nc) (hme : meR c n m) (st : stM c r k S) (hk : k < 36) (ok : okM n m) (hru : ru < 7)
    (HN : scR (clK (clM c r) ru m) nc 0 = none → ∀ d, fr pPm c d → kpM r c d → meR d n m → stM d r k S → R (some (.int 0)) d)
    (HS : ∀ i x, scR (clK (clM c r) ru m) nc 0 = some (i, x) → ∀ d, fr pPm c d → kpM r c d → meR d n x.1 → stM d r (k + 1) (puS S k (ru, i, x.2)) → R (some (.int 1)) d) : ec g tb_X9_isDone 24 [some (.ref e), some (.int (nI ru)), some (.int x2), some (.int (nI 0))] [] 0 0 c R X := by
  have loop : ∀ (d i : Nat) (c' : cc_C), i + d = nc → fr pPm c c' → kpM r c c' → meR c' n m → stM c' r k S → scR (clK (clM c r) ru m) d i = scR (clK (clM c r) ru m) nc 0 → ec g tb_X9_isDone 24 [some (.ref e), some (.int (nI ru)), some (.int x2), some (.int (nI i))] [] 0 0 c' R X := by
    intro d
    induction d with
    | zero =>
      intro i c' hi hf hkp hs hst hsc
      obtain ⟨⟨⟨w1, w2, w3⟩, o2, o3, o4, o5, o6⟩, eK⟩ := prM_fr hf pPm_no pPm_no1 o
      refine mk_X9_isDone_24 (hf.sl s) ?_
      rw [w2, nI_clamp (by omega), o4]
      exact ⟨vp_in_nI w1 (by omega), fun _ => HN hsc.symm c' hf hkp hs hst, fun q => absurd (nI_le (by omega) (by omega)) q⟩
    | succ d ih =>
      intro i c' hi hf hkp hs hst hsc
      obtain ⟨⟨nw, o2, o3, o4, o5, o6⟩, eK⟩ := prM_fr hf pPm_no pPm_no1 o
      obtain ⟨w1, w2, w3⟩ := nw
      have kv := o6 i (by omega)
      have sc := hf.sl s
      have e8 : (8 : Int32) * nI r + nI i = nI (8 * r + i) := by
        show nI 8 * nI r + nI i = _
        rw [pk_mul, nI_add]
      refine mk_X9_isDone_24 sc ?_
      rw [w2, nI_clamp (by omega), o4, nI_1]
      refine ⟨vp_in_nI w1 (by omega), fun q => absurd q (nI_ge (by omega) (by omega)), fun _ => ?_⟩
      refine m_byClue (r := r) (t := 8 * r + i) sc ⟨w1, w2, w3⟩ hs o2 ok.1 ok.2 rfl hru e8 (by omega) kv (fun d1 hd1 hs1 => ⟨_, rfl, ?_⟩)
      have ex : clE ru (cS c' 880 6 (8 * r + i)) (cS c' 880 7 (8 * r + i)) (cS c' 880 8 (8 * r + i)) (cS c' 880 9 (8 * r + i)) m = clK (clM c r) ru m i := by
        rw [← eK]
        rfl
      rw [ex] at hs1 ⊢
      rw [scR_s] at hsc
      have kv' := o.2.2.2.2.2 i (by omega)
      refine m_try (ru := ru) (ca := i) (hd1.sl sc) (hf.trans (hd1.mono may_Pm)) (hkp.trans (kpM_fr hd1 may_st)) (nwR_fr hd1 may_no1 may_no2 ⟨w1, w2, w3⟩) hs1 (fun h0 => clE_0 hme.2.2 hme.1 kv' h0) (stM_fr hd1 may_st hst) hk clE_le rfl rfl (fun h0 d2 hf2 hk2 hs2 st2 => ⟨_, rfl, fun _ => ?_, fun q => absurd rfl q⟩) (fun h0 d2 hf2 hk2 hs2 st2 => ⟨_, rfl, fun q => absurd q (by decide), fun _ => ?_⟩)
      · rw [if_pos h0] at hsc
        exact ih (i + 1) d2 (by omega) hf2 hk2 hs2 st2 hsc
      · rw [if_neg h0] at hsc
        exact HS i _ hsc.symm d2 hf2 hk2 hs2 st2
  exact loop nc 0 c (by omega) fr_rfl kpM_rfl hme st rfl
end
