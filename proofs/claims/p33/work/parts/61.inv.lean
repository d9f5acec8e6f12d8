/-! what the law's runs keep: proofs, owners -/
def rdG (W : Nat) (O : cc_O) (x : cc_Rd) : Prop := (rdN x = 3 ∨ rdN x = 4) ∧ (∀ i, i < rdk x → stG W O (rdS x i)) ∧ sumS (rdS x) (rdk x) ≤ 16 ∧ (rdO x = 1 → (∀ i, i < rdk x → (rdS x i).1 < 10) → rdA x = 1)
def gU (M : cc_M) : Prop := ∀ q, q < mU M → ∀ i, (mV M q).2.2 i = true → i < mI M ∧ (mJ M i).1 ≠ 109
def gM (M : cc_M) : Prop := (∀ r, r < mR M → rdG (mW M) (mO M) (mX M r)) ∧ gU M
theorem ln_at {S : cc_St} {ru : Nat} : ∀ {k : Nat}, lnS S ru k = true → ∃ i, i < k ∧ (S i).1 = ru
  | 0, h => by cases h
  | k + 1, h => by
    have h1 : (lnS S ru k || decide ((S k).1 = ru)) = true := h
    rw [Bool.or_eq_true] at h1
    rcases h1 with h1 | h1
    · obtain ⟨i, hi, e⟩ := ln_at h1
      exact ⟨i, by omega, e⟩
    · exact ⟨k, by omega, of_decide_eq_true h1⟩
theorem ln_no {S : cc_St} {ru : Nat} : ∀ {k : Nat}, lnS S ru k = false → ∀ i, i < k → (S i).1 ≠ ru
  | 0, _, i, hi => absurd hi (Nat.not_lt_zero i)
  | k + 1, h, i, hi => by
    have h1 : (lnS S ru k || decide ((S k).1 = ru)) = false := h
    rw [Bool.or_eq_false_iff] at h1
    by_cases e : i = k
    · rw [e]
      exact of_decide_eq_false h1.2
    · exact ln_no h1.1 i (by omega)
theorem ln_of {S : cc_St} {ru : Nat} : ∀ {k i : Nat}, i < k → (S i).1 = ru → lnS S ru k = true
  | 0, i, hi, _ => absurd hi (Nat.not_lt_zero i)
  | k + 1, i, hi, e => by
    show (lnS S ru k || decide ((S k).1 = ru)) = true
    rw [Bool.or_eq_true]
    by_cases q : i = k
    · rw [q] at e
      exact Or.inr (decide_eq_true e)
    · exact Or.inl (ln_of (by omega) e)
theorem rdG_prv {W : Nat} {O : cc_O} {x : cc_Rd} (hn : rdN x = 3 ∨ rdN x = 4) (h8 : rdC x ≤ 8) (hK : ∀ e, e < rdC x → KvK (rdN x) (rdK x) e) (hO : okO W O) : rdG W O (prv W O x) := by
  obtain ⟨a, b, c⟩ := prf_run hn h8 hK hO
  exact ⟨hn, a, b, c⟩
theorem rdG_0 {W : Nat} {O : cc_O} {x : cc_Rd} (hn : rdN x = 3 ∨ rdN x = 4) (hk : rdk x = 0) (ho : rdO x ≠ 1) : rdG W O x := by
  refine ⟨hn, fun i hi => ?_, ?_, fun q => absurd q ho⟩
  · rw [hk] at hi
    exact absurd hi (Nat.not_lt_zero i)
  · rw [hk]
    exact Nat.zero_le _
theorem rdG_mono {W W' : Nat} {O O' : cc_O} {x : cc_Rd} (h : rdG W O x) (hs : ∀ i, i < rdk x → stG W O (rdS x i) → stG W' O' (rdS x i)) : rdG W' O' x := ⟨h.1, fun i hi => hs i hi (h.2.1 i hi), h.2.2⟩
theorem stG_add {W : Nat} {O : cc_O} {o : Int32 × Nat × Int32 × Nat × Bool} {x : Nat × Nat × Nat} (h : stG W O x) : stG (W + 1) (upF O W o) x := by
  obtain ⟨a, b, c, d, e⟩ := h
  refine ⟨a, b, c, d, fun q => ?_⟩
  obtain ⟨e1, e2⟩ := e q
  exact ⟨by omega, by rw [upF_ne (by omega)]; exact e2⟩
theorem stG_fl {W u : Nat} {O : cc_O} {x : Nat × Nat × Nat} (h : stG W O x) (hne : x.1 ≠ 10 + u) : stG W (upF O u (fl (O u))) x := by
  obtain ⟨a, b, c, d, e⟩ := h
  refine ⟨a, b, c, d, fun q => ?_⟩
  obtain ⟨e1, e2⟩ := e q
  exact ⟨e1, by rw [upF_ne (by omega)]; exact e2⟩
/-- leaning on an own rule: it is there, and stands -/
theorem rdG_ln {W u : Nat} {O : cc_O} {x : cc_Rd} (h : rdG W O x) (hl : rdLn x (10 + u) = true) : u < W ∧ (O u).2.2.2.2 = true := by
  obtain ⟨i, hi, e⟩ := ln_at hl
  have := (h.2.1 i hi).2.2.2.2 (by omega)
  rw [e, show 10 + u - 10 = u by omega] at this
  exact this
theorem rdG_own {W : Nat} {O : cc_O} {x : cc_Rd} (h : rdG W O x) (ho : rdO x = 1) (hn : ∀ u, u < W → rdLn x (10 + u) = false) : rdA x = 1 := by
  refine h.2.2.2 ho (fun i hi => ?_)
  refine Classical.byContradiction fun hc => ?_
  have e : (rdS x i).1 = 10 + ((rdS x i).1 - 10) := by omega
  have hl : rdLn x (10 + ((rdS x i).1 - 10)) = true := ln_of hi e
  rw [hn _ (rdG_ln h hl).1] at hl
  cases hl
section
variable {M : cc_M} {t : Nat} {x y : Int32}
theorem g_one {r : Nat} {x' : cc_Rd} (g : gM M) (h : r < mR M → rdG (mW M) (mO M) x') : gM (sX M (mR M) (upF (mX M) r x')) := by
  refine ⟨fun q hq => ?_, g.2⟩
  by_cases e : q = r
  · subst e
    show rdG (mW M) (mO M) (upF (mX M) q x' q)
    rw [upF_at]
    exact h hq
  · show rdG (mW M) (mO M) (upF (mX M) r x' q)
    rw [upF_ne e]
    exact g.1 q hq
theorem g_riddle (g : gM M) (hx : x = 3 ∨ x = 4) : gM (spRiddle M x).2.2 := by
  unfold spRiddle
  split
  · exact g
  · split
    · exact g
    · refine ⟨fun r hr => ?_, g.2⟩
      have hr' : r < mR M + 1 := hr
      show rdG (mW M) (mO M) (upF (mX M) (mR M) (newX x.toNatClampNeg) r)
      by_cases e : r = mR M
      · rw [e, upF_at]
        refine rdG_0 ?_ rfl (show (0 : Nat) ≠ 1 by decide)
        rcases hx with rfl | rfl
        · exact Or.inl rfl
        · exact Or.inr rfl
      · rw [upF_ne e]
        exact g.1 r (by omega)
theorem g_issue (g : gM M) : gM (spIssue M).2.2 := by
  unfold spIssue
  split
  · exact g
  · refine ⟨g.1, fun q hq i hi => ?_⟩
    have h := g.2 q hq i hi
    have h' : i < mI M + 1 ∧ (upF (mJ M) (mI M) (109, 0) i).1 ≠ 109 := by
      rw [upF_ne (by omega)]
      exact ⟨by omega, h.2⟩
    exact h'
theorem g_cust (g : gM M) : gM (spCust M).2.2 := by
  unfold spCust
  split
  · exact g
  · refine ⟨g.1, fun q hq i hi => ?_⟩
    have hq' : q < mU M + 1 := hq
    have hi' : (upF (mV M) (mU M) (0, 0, fun _ => false) q).2.2 i = true := hi
    by_cases e : q = mU M
    · rw [e, upF_at] at hi'
      cases hi'
    · rw [upF_ne e] at hi'
      exact g.2 q (by omega) i hi'
theorem g_cu {q : Nat} {v : cc_Us} {p : Int64} (g : gM M) (hv : ∀ i, v.2.2 i = true → i < mI M ∧ (mJ M i).1 ≠ 109) : gM (sP (sV M (mU M) (upF (mV M) q v)) p) := by
  refine ⟨g.1, fun z hz i hi => ?_⟩
  have hi' : (upF (mV M) q v z).2.2 i = true := hi
  by_cases e : z = q
  · rw [e, upF_at] at hi'
    exact hv i hi'
  · rw [upF_ne e] at hi'
    exact g.2 z hz i hi'
theorem ixm_g {o : Option Nat} {F : Nat → cc_Sp} (g : gM M) (h : ∀ r, o = some r → gM (F r).2.2) : gM (ixm o M F).2.2 := by
  cases o with
  | none => exact g
  | some r => exact h r rfl
theorem ixo_lt1 {n r : Nat} (hn : n < 2 ^ 31) (h : ixo n x = some r) : r < n := by
  unfold ixo at h
  by_cases c : x < 0 ∨ nI n ≤ x
  · rw [if_pos c] at h
    cases h
  · rw [if_neg c] at h
    cases h
    have c1 : ¬ x < 0 := fun q => c (Or.inl q)
    have c2 : x < nI n := Int32.not_le.mp (fun q => c (Or.inr q))
    obtain ⟨j, hj, rfl⟩ := ix_of hn c1 c2
    rw [nI_clamp (by omega)]
    exact hj
theorem g_dep (g : gM M) (w : wfM M t) : gM (spDep M x y).2.2 := by
  unfold spDep
  refine ixm_g g (fun q hq => ?_)
  split
  · exact g
  · split
    · exact g
    · exact g_cu g (g.2 q (ixo_lt1 (by have := w.2.2.2.1.1; omega) hq))
theorem g_sub (g : gM M) (w : wfM M t) : gM (spSub M x y).2.2 := by
  unfold spSub
  refine ixm_g g (fun q hq => ?_)
  split
  · exact g
  · exact g_cu g (g.2 q (ixo_lt1 (by have := w.2.2.2.1.1; omega) hq))
theorem g_sell {q i p : Nat} (g : gM M) (hq : q < mU M) (hi : i < mI M) (hJ : (mJ M i).1 ≠ 109) : gM (mSell M q i p) := by
  refine g_cu g (fun z hz => ?_)
  have hz' : (if z = i then true else (mV M q).2.2 z) = true := hz
  by_cases e : z = i
  · rw [e]
    exact ⟨hi, hJ⟩
  · rw [if_neg e] at hz'
    exact g.2 q hq z hz'
theorem g_buy (g : gM M) (w : wfM M t) : gM (spBuy M x y).2.2 := by
  unfold spBuy
  refine ixm_g g (fun q hq => ixm_g g (fun i hi => ?_))
  split
  · rename_i hc
    exact g_sell g (ixo_lt1 (by have := w.2.2.2.1.1; omega) hq) (ixo_lt1 (by have := w.2.2.1.1; omega) hi) (by rw [hc.1]; decide)
  · exact g
theorem g_prv {r : Nat} (g : gM M) (w : wfM M t) (hr : r < mR M) : rdG (mW M) (mO M) (prv (mW M) (mO M) (mX M r)) := by
  have wx := (w.1.2 r hr).1
  exact rdG_prv (g.1 r hr).1 wx.2.2.1 wx.2.2.2 w.2.1
theorem g_prove (g : gM M) (w : wfM M t) : gM (spProve M x).2.2 := by
  unfold spProve
  refine ixm_g g (fun r hr => ?_)
  have hr' := ixo_lt1 (by have := w.1.1; omega) hr
  split
  · exact g
  · have g1 : gM (mMake M r) := g_one g (fun h => g_prv g w h)
    exact g_one g1 (fun h => g1.1 r h)
theorem g_put (g : gM M) (w : wfM M t) : gM (spPut M x y).2.2 := by
  unfold spPut
  refine ixm_g g (fun i hi => ixm_g g (fun r hr => ?_))
  split
  · split
    · exact g
    · exact g_one g (fun h => g.1 r h)
  · exact g
theorem g_clue {k a b c : Int32} (g : gM M) (w : wfM M t) : gM (spClue M x k a b c).2.2 := by
  unfold spClue
  refine ixm_g g (fun r hr => ?_)
  have hr' := ixo_lt1 (by have := w.1.1; omega) hr
  split
  · split
    · rename_i ho
      split
      · exact g
      · refine g_one g (fun h => rdG_0 (g.1 r h).1 ((w.1.2 r h).2.2.1.2.1 ho) ?_)
        show rdO (mX M r) ≠ 1
        omega
    · exact g
  · exact g
theorem g_rule {k p : Int32} {b : Bool} (g : gM M) : gM (spRule M k p b x).2.2 := by
  unfold spRule
  split
  · split
    · exact g
    · exact ⟨fun r hr => rdG_mono (g.1 r hr) (fun i hi h => stG_add h), g.2⟩
  · exact g
theorem g_subs {i p : Nat} (g : gM M) (hi : i < mI M) (hJ : (mJ M i).1 ≠ 109) : ∀ k, k ≤ mU M → gM (mSubs M i p k).1
  | 0, _ => g
  | k + 1, hk => by
    have ih := g_subs (p := p) g hi hJ k (by omega)
    obtain ⟨e1, e2, e3, e4⟩ := sameU_subs (M := M) (i := i) (p := p) k
    unfold mSubs
    split
    · have g1 : gM (mDec (mSubs M i p k).1 k) := g_cu ih (ih.2 k (by rw [e4]; omega))
      refine g_sell g1 (by show k < mU (mSubs M i p k).1; rw [e4]; omega) ?_ ?_
      · show i < mI (mSubs M i p k).1
        unfold mI at hi ⊢
        rw [e3]
        exact hi
      · show (mJ (mSubs M i p k).1 i).1 ≠ 109
        unfold mJ at hJ ⊢
        rw [e3]
        exact hJ
    · exact ih
theorem g_pub {i p : Nat} (g : gM M) : gM (mPub M i p) := by
  refine ⟨fun r hr => ?_, fun q hq z hz => ?_⟩
  · show rdG (mW M) (mO M) (sdX (mX M) i (mR M) r)
    unfold sdX
    split
    · exact g.1 r hr
    · exact g.1 r hr
  · have h := g.2 q hq z hz
    refine ⟨h.1, ?_⟩
    show (upF (mJ M) i (115, p) z).1 ≠ 109
    by_cases e : z = i
    · rw [e, upF_at]
      exact (by decide : (115 : Int32) ≠ 109)
    · rw [upF_ne e]
      exact h.2
theorem g_publish (g : gM M) (w : wfM M t) : gM (spPub M x y).2.2 := by
  unfold spPub
  refine ixm_g g (fun i hi => ?_)
  have hi' := ixo_lt1 (by have := w.2.2.1.1; omega) hi
  split
  · exact g
  · split
    · refine g_subs (g_pub g) hi' ?_ _ (Nat.le_refl _)
      show (upF (mJ M) i (115, y.toNatClampNeg) i).1 ≠ 109
      rw [upF_at]
      exact (by decide : (115 : Int32) ≠ 109)
    · exact g
end
