/-! the class makes a step -/
def pPr (r f i : Nat) : Prop := i = r ∧ (f = 480 ∨ f = 283 ∨ f = 320 ∨ f = 360 ∨ f = 400 ∨ f = 286)
theorem kpE_le {m : Nat → Nat} {p σ : Nat} : (kpE m p σ).2 ≤ 6 := pcN_le
theorem thn_le {e : cc_Ef} {f : (Nat → Nat) → cc_Ef} {a b : Nat} (h1 : e.2 ≤ a) (h2 : ∀ m, (f m).2 ≤ b) : (thn e f).2 ≤ a + b := by
  have := h2 e.1
  show e.2 + (f e.1).2 ≤ a + b
  omega
theorem efI_le {k xa xb xc : Int32} {m : Nat → Nat} : (efI k xa xb xc m).2 < 1000 := by
  have h1 : ∀ a s, (kpE m a s).2 < 1000 := fun a s => Nat.lt_of_le_of_lt kpE_le (by decide)
  have h2 : ∀ a s (b : Nat) (f : (Nat → Nat) → Nat), (thn (kpE m a s) (fun m1 => kpE m1 b (f m1))).2 < 1000 := fun a s b f => Nat.lt_of_le_of_lt (thn_le kpE_le (fun m => kpE_le)) (by decide)
  unfold efI efC
  repeat' split
  · exact h1 _ _
  · exact h1 _ _
  · exact h2 _ _ _ _
  · exact h2 _ _ _ _
  · exact h2 _ _ _ _
  · exact h2 _ _ _ _
  · exact h1 _ _
theorem clE_le {ru : Nat} {k xa xb xc : Int32} {m : Nat → Nat} : (clE ru k xa xb xc m).2 < 1000 := by
  unfold clE
  split
  · exact efI_le
  · exact (by decide : 0 < 1000)
theorem othE_l {m : Nat → Nat} {p q σ n : Nat} (hn : n ≤ 6) : (othE m p q σ n).2 < 1000 := by
  have := othE_le (m := m) (p := p) (q := q) (σ := σ) n
  omega
theorem perE_l {m : Nat → Nat} {n p : Nat} (hn : n ≤ 6) : (perE m n p).2 < 1000 := by
  unfold perE
  split
  · exact othE_l hn
  · exact (by decide : 0 < 1000)
theorem pairE_l {m : Nat → Nat} {n p q : Nat} (hn : n ≤ 6) : (pairE m n p q).2 < 1000 := by
  unfold pairE
  split
  · exact othE_l hn
  · exact (by decide : 0 < 1000)
theorem placE_l {m : Nat → Nat} {n t : Nat} : (placE m n t).2 < 1000 := by
  unfold placE
  split
  · exact Nat.lt_of_le_of_lt kpE_le (by decide)
  · exact (by decide : 0 < 1000)
theorem ownE_l {k k' fz : Int32} {j w a b cc n : Nat} {m : Nat → Nat} : (ownE k j fz w k' a b cc n m).2 < 1000 := by
  unfold ownE
  split
  · exact Nat.lt_of_le_of_lt kpE_le (by decide)
  · exact (by decide : 0 < 1000)
/-- the kinds of clues and their rules -/
theorem kd_ix {n ru : Nat} {k xa xb xc : Int32} (hk : Kv n k xa xb xc) (hru : ru < 7) : ¬ k < 0 ∧ (ixF 0 k = nI ru ↔ k = kd ru) := by
  have key : ∀ ru, ru < 7 → ∀ k ∈ ([112, 120, 98, 110, 108, 100, 109] : List Int32), (¬ k < 0 ∧ (decide (ixF 0 k = nI ru) = decide (k = kd ru))) := by decide +kernel
  have hm : k ∈ ([112, 120, 98, 110, 108, 100, 109] : List Int32) := by
    obtain ⟨-, -, q⟩ := hk
    rcases q with q | q | q | q | q | ⟨q, -⟩ | ⟨q, -⟩ <;> rw [q] <;> decide
  obtain ⟨h1, h2⟩ := key ru hru k hm
  exact ⟨h1, fun h => of_decide_eq_true (h2 ▸ decide_eq_true h), fun h => of_decide_eq_true (h2.symm ▸ decide_eq_true h)⟩
section
variable {g : Nat → Nat} {R : Option Value → cc_C → Prop} {X : String → cc_C → Prop}
theorem s_try {c0 d : cc_C} {r n e k ru ca : Nat} {m : Nat → Nat} {x : cc_Ef} {S : cc_St} {x1 x2 : Int32} (s : sl d 7 r 0 e) (hd : fr (pPr r) c0 d) (hs : seR d r n x.1) (hz : x.2 = 0 → x.1 = m) (st : stC d r k S) (hk : k < 36) (hx : x.2 < 1000) (h1 : x1 = nI ru) (h2 : x2 = nI ca) (HN : x.2 = 0 → ∀ d', fr (pPr r) c0 d' → seR d' r n m → stC d' r k S → R (some (.int 0)) d') (HS : x.2 ≠ 0 → ∀ d', fr (pPr r) c0 d' → seR d' r n x.1 → stC d' r (k + 1) (puS S k (ru, ca, x.2)) → R (some (.int 1)) d') : wc g (wp_X6_addStep g) d [.ref e, .int x1, .int x2, .int (nI x.2)] R X := by
  refine s_addStep s st hk h1 h2 rfl hx (fun h0 => HN h0 d hd (hz h0 ▸ hs) st) (fun h0 d' hd' st' => HS h0 d' (hd.trans (hd'.mono (fun f i h => ?_))) (seR_fr hd' ?_ ?_ hs) st')
  · unfold pStp at h
    unfold pPr
    omega
  · unfold pStp
    omega
  · unfold pStp
    omega
theorem stC_fr {P : Nat → Nat → Prop} {c d : cc_C} {r k : Nat} {S : cc_St} (h : fr P c d) (hp : ∀ f, f = 283 ∨ f = 320 ∨ f = 360 ∨ f = 400 ∨ f = 286 → ¬ P f r) (hs : stC c r k S) : stC d r k S := by
  unfold stC
  rw [h.row (hp 283 (by omega)), h.row (hp 320 (by omega)), h.row (hp 360 (by omega)), h.row (hp 400 (by omega)), h.row (hp 286 (by omega))]
  exact hs
theorem pSe_Pr {r : Nat} : ∀ f i, pSe r f i → pPr r f i := fun f i h => ⟨h.2, Or.inl h.1⟩
theorem pSe_st {r : Nat} : ∀ f, f = 283 ∨ f = 320 ∨ f = 360 ∨ f = 400 ∨ f = 286 → ¬ pSe r f r := by
  intro f h q
  have := q.1
  omega
theorem pPr_no {r : Nat} : ∀ f i, f = 120 ∨ f = 126 ∨ f = 42 ∨ f = 80 ∨ (240 ≤ f ∧ f ≤ 243) → ¬ pPr r f i := by
  intro f i h q
  have := q.2
  omega
theorem s_mkByClues {c : cc_C} {r n nc e a k : Nat} {m : Nat → Nat} {S : cc_St} (s : sl c 7 r 0 e) (s2 : sl c 1 (r + 4) 0 a) (o : ansOk c r n nc) (hse : seR c r n m) (st : stC c r k S) (hk : k < 36)
    (HN : clS (clC c r) nc m 7 0 = none → ∀ d, fr (pPr r) c d → seR d r n m → stC d r k S → R (some (.int 0)) d)
    (HS : ∀ ru ca x, clS (clC c r) nc m 7 0 = some (ru, ca, x) → ∀ d, fr (pPr r) c d → seR d r n x.1 → stC d r (k + 1) (puS S k (ru, ca, x.2)) → R (some (.int 1)) d) : wc g (wp_X6_makeStepByClues g) c [.ref e, .ref a] R X := by
  have loop : ∀ (w ru : Nat), ru < 7 → (∀ (c' : cc_C) (o3 o4 : Option Value), fr (pPr r) c c' → seR c' r n m → stC c' r k S → clS (clC c r) nc m w (ru + 1) = clS (clC c r) nc m 7 0 → ec g tb_X6_makeStepByClues 2 [some (.ref e), some (.ref a), some (.int (nI (ru + 1))), o3, o4] [] 0 0 c' R X) → ∀ (d i : Nat) (c' : cc_C) (o4 : Option Value), i + d = nc → fr (pPr r) c c' → seR c' r n m → stC c' r k S → orE (tag ru (scR (clK (clC c r) ru m) d i)) (clS (clC c r) nc m w (ru + 1)) = clS (clC c r) nc m 7 0 → ec g tb_X6_makeStepByClues 10 [some (.ref e), some (.ref a), some (.int (nI ru)), some (.int (nI i)), o4] [] 0 0 c' R X := by
    intro w ru hru L2 d
    induction d with
    | zero =>
      intro i c' o4 hi hf hs hst hsc
      obtain ⟨o1, o2, o3, o4', o5, o6, o7, o8⟩ := ansOk_fr hf pPr_no o
      refine mk_X6_makeStepByClues_10 (hf.sl s) (hf.sl s2) (s_size (hf.sl s2) ⟨_, rfl, ?_⟩)
      rw [o6, nI_1]
      exact ⟨fun _ => L2 c' _ _ hf hs hst hsc, fun q => absurd (nI_le (by omega) (by omega)) q⟩
    | succ d ih =>
      intro i c' o4 hi hf hs hst hsc
      have oc := ansOk_fr hf pPr_no o
      obtain ⟨o1, o2, o3, o4', o5, o6, o7, o8⟩ := oc
      have eK : clC c' r = clC c r := clC_fr hf (fun f i a b => pPr_no f i (by omega))
      have sc := hf.sl s
      have sc2 := hf.sl s2
      have hN : cN c' 42 (r + 4) = nc := by
        unfold cN
        rw [o6, nI_clamp (by omega)]
      have slc : sl c' 6 (cA c' 5 r i) 0 (el c' (r + 4) i) := el_slot o2 o1 (by omega)
      have s11 : sl c' 11 r 0 (cA c' 11 r 0) := ⟨(o2.2.2.2.1 r sc.1).2.2.2, rfl⟩
      have kv := o8 i (by omega)
      have kv' := o.2.2.2.2.2.2.2 i (by omega)
      have hsd : scR (clK (clC c r) ru m) (d + 1) i = if (clK (clC c r) ru m i).2 = 0 then scR (clK (clC c r) ru m) d (i + 1) else some (i, clK (clC c r) ru m i) := rfl
      have ki := kd_ix (ru := ru) kv hru
      refine mk_X6_makeStepByClues_10 sc sc2 (s_size sc2 ⟨_, rfl, ?_⟩)
      rw [o6]
      refine ⟨fun q => absurd q (nI_ge (by omega) (by omega)), fun _ => s_get (e := i) sc2 rfl (by rw [o6]; exact nI_lt (by omega) (by omega)) (by omega) ⟨_, cA c' 5 r i, rfl, slc, mk_X0_ruleNumber_0 slc (s_indexOf (t := 0) (by decide) ki.1 ⟨_, rfl, _, rfl, fun q => ?_, fun q => ?_⟩)⟩⟩
      · have hkd : cS c' 240 (cA c' 5 r i) 0 = kd ru := ki.2.mp q
        have ex : efI (cS c' 240 (cA c' 5 r i) 0) (cS c' 241 (cA c' 5 r i) 0) (cS c' 242 (cA c' 5 r i) 0) (cS c' 243 (cA c' 5 r i) 0) m = clK (clC c r) ru m i := by
          rw [← eK]
          exact (if_pos hkd).symm
        refine s_byClue s11 slc hs kv (fun d1 hd1 hs1 => ⟨_, rfl, ?_⟩)
        rw [ex] at hs1 ⊢
        refine s_try (hd1.sl sc) (hf.trans (hd1.mono pSe_Pr)) hs1 (fun h0 => clE_0 hse.2.2.2 hse.2.1 kv' h0) (stC_fr hd1 pSe_st hst) hk clE_le rfl rfl (fun h0 d2 hf2 hs2 st2 => ⟨_, rfl, fun _ => ?_, fun q => absurd rfl q⟩) (fun h0 d2 hf2 hs2 st2 => ⟨_, rfl, fun q => absurd q (by decide), fun _ => ?_⟩)
        · rw [nI_1]
          rw [hsd, if_pos h0] at hsc
          exact ih (i + 1) d2 _ (by omega) hf2 hs2 st2 hsc
        · rw [hsd, if_neg h0] at hsc
          exact HS ru i _ hsc.symm d2 hf2 hs2 st2
      · have hkd : ¬ cS c' 240 (cA c' 5 r i) 0 = kd ru := fun z => q (ki.2.mpr z)
        have ex : clK (clC c r) ru m i = (m, 0) := by
          rw [← eK]
          exact if_neg hkd
        rw [nI_1]
        rw [hsd, ex, if_pos rfl] at hsc
        exact ih (i + 1) c' _ (by omega) hf hs hst hsc
  have L2 : ∀ (w ru : Nat) (d : cc_C) (o3 o4 : Option Value), ru + w = 7 → fr (pPr r) c d → seR d r n m → stC d r k S → clS (clC c r) nc m w ru = clS (clC c r) nc m 7 0 → ec g tb_X6_makeStepByClues 2 [some (.ref e), some (.ref a), some (.int (nI ru)), o3, o4] [] 0 0 d R X := by
    intro w
    induction w with
    | zero =>
      intro ru d o3 o4 hru hf hs hst hT
      obtain rfl : ru = 7 := by omega
      exact mk_X6_makeStepByClues_2 (hf.sl s) (hf.sl s2) ⟨fun _ => HN hT.symm d hf hs hst, fun e => absurd (nI_le (a := 7) (b := 7) (by omega) (by omega)) e⟩
    | succ w ih =>
      intro ru d o3 o4 hru hf hs hst hT
      exact mk_X6_makeStepByClues_2 (hf.sl s) (hf.sl s2) ⟨fun q => absurd q (nI_ge (b := 7) (by omega) (by omega)), fun _ => loop w ru (by omega) (fun c' o3 o4 hf' hs' hst' hT' => ih (ru + 1) c' o3 o4 (by omega) hf' hs' hst' hT') nc 0 d _ (by omega) hf hs hst hT⟩
  exact mk_X6_makeStepByClues_0 s s2 (L2 7 0 c _ _ (by omega) fr_rfl hse st rfl)
end
