/-! issues on sale by a rule -/
def ilE (X : Nat → cc_Rd) (i ru : Nat) : Nat → Bool
  | 0 => false
  | r + 1 => ilE X i ru r || (decide (rdI (X r) = i + 1) && rdLn (X r) ru)
def lkE (X : Nat → cc_Rd) (p : Nat → Nat) (ru : Nat) : Nat → Bool
  | 0 => false
  | k + 1 => lkE X p ru k || rdLn (X (p k)) ru
theorem ilE_iff {X : Nat → cc_Rd} {i ru : Nat} : ∀ {n : Nat}, ilE X i ru n = true ↔ ∃ r, r < n ∧ rdI (X r) = i + 1 ∧ rdLn (X r) ru = true
  | 0 => ⟨fun h => absurd (show false = true from h) (by decide), fun ⟨j, h, _⟩ => absurd h (Nat.not_lt_zero j)⟩
  | n + 1 => by
    show (ilE X i ru n || (decide (rdI (X n) = i + 1) && rdLn (X n) ru)) = true ↔ _
    rw [Bool.or_eq_true, ilE_iff (n := n), Bool.and_eq_true, decide_eq_true_iff]
    constructor
    · rintro (⟨j, hj, e⟩ | e)
      · exact ⟨j, by omega, e⟩
      · exact ⟨n, by omega, e⟩
    · rintro ⟨j, hj, e⟩
      by_cases hjk : j = n
      · exact Or.inr (hjk ▸ e)
      · exact Or.inl ⟨j, by omega, e⟩
theorem lkE_iff {X : Nat → cc_Rd} {p : Nat → Nat} {ru : Nat} : ∀ {n : Nat}, lkE X p ru n = true ↔ ∃ k, k < n ∧ rdLn (X (p k)) ru = true
  | 0 => ⟨fun h => absurd (show false = true from h) (by decide), fun ⟨j, h, _⟩ => absurd h (Nat.not_lt_zero j)⟩
  | n + 1 => by
    show (lkE X p ru n || rdLn (X (p n)) ru) = true ↔ _
    rw [Bool.or_eq_true, lkE_iff (n := n)]
    constructor
    · rintro (⟨j, hj, e⟩ | e)
      · exact ⟨j, by omega, e⟩
      · exact ⟨n, by omega, e⟩
    · rintro ⟨j, hj, e⟩
      by_cases hjk : j = n
      · exact Or.inr (hjk ▸ e)
      · exact Or.inl ⟨j, by omega, e⟩
theorem lk_il {X : Nat → cc_Rd} {p : Nat → Nat} {i ru m n : Nat} (h1 : ∀ k, k < m → p k < n ∧ rdI (X (p k)) = i + 1) (h2 : ∀ r, r < n → rdI (X r) = i + 1 → ∃ k, k < m ∧ p k = r) : lkE X p ru m = ilE X i ru n := by
  rw [Bool.eq_iff_iff, lkE_iff, ilE_iff]
  constructor
  · rintro ⟨k, hk, e⟩
    exact ⟨p k, (h1 k hk).1, (h1 k hk).2, e⟩
  · rintro ⟨r, hr, hi, e⟩
    obtain ⟨k, hk, rfl⟩ := h2 r hr hi
    exact ⟨k, hk, e⟩
theorem ilE_mono {X : Nat → cc_Rd} {i ru r n : Nat} (h : ilE X i ru r = true) (hn : r ≤ n) : ilE X i ru n = true := by
  rw [ilE_iff] at h ⊢
  obtain ⟨j, hj, e⟩ := h
  exact ⟨j, by omega, e⟩
def onS (M : cc_M) (ru i : Nat) : Bool := decide ((mJ M i).1 = 115) && ilE (mX M) i ru (mR M)
def ixC (M : cc_M) (ru : Nat) : Nat → Nat
  | 0 => 0
  | i + 1 => ixC M ru i + (if onS M ru i = true then 1 else 0)
theorem ixC_le {M : cc_M} {ru : Nat} : ∀ n, ixC M ru n ≤ n
  | 0 => Nat.le_refl 0
  | r + 1 => by
    have := ixC_le (M := M) (ru := ru) r
    show ixC M ru r + (if onS M ru r = true then 1 else 0) ≤ r + 1
    split <;> omega
def spIdx (M : cc_M) (x : Int32) : cc_Sp := ixm (ixo (10 + mW M) x) M fun ru => (0, nI (ixC M ru (mI M)), M)
section
variable {g : Nat → Nat} {c : cc_C} {M : cc_M} {a e t : Nat} {x y : Int32} {X : String → cc_C → Prop}
theorem s_isOnSaleBy {R : Option Value → cc_C → Prop} {i ru : Nat} {x1 : Int32} (s : sl c 0 0 0 a) (hC : CL c M) (h20 : mR M ≤ 20) (hI : ∀ r, r < mR M → rdI (mX M r) ≤ 12) (hS : ∀ r, r < mR M → ∀ k, k < rdk (mX M r) → (rdS (mX M r) k).1 < 16) (hi : i < mI M) (h1 : x1 = nI ru) (hru : ru < 16) (H : R (some (.int (bI (onS M ru i)))) c) : wc g (wp_X8_isOnSaleBy g) c [.ref a, .ref (cA c 15 i 0), .int x1] R X := by
  refine wc_cw fun hw => ?_
  have k := kd_ok hw s.1
  obtain ⟨i1, i2, i3⟩ := hC.2.2.2.1.2.2.1 i hi
  have s15 : sl c 15 i 0 (cA c 15 i 0) := ⟨i1, rfl⟩
  refine mk_X8_isOnSaleBy_0 s s15 ?_
  rw [i2]
  by_cases hJ : (mJ M i).1 = 115
  · have eo : onS M ru i = ilE (mX M) i ru (mR M) := by
      unfold onS
      rw [decide_eq_true hJ, Bool.true_and]
    rw [eo] at H
    have loop : ∀ (w r : Nat), r + w = mR M → ilE (mX M) i ru r = false → ec g tb_X8_isOnSaleBy 13 [some (.ref a), some (.ref (cA c 15 i 0)), some (.int x1), some (.int (nI r))] [] 0 0 c R X := by
      intro w
      induction w with
      | zero =>
        intro r hr hf
        obtain rfl : r = mR M := by omega
        rw [hf] at H
        refine mk_X8_isOnSaleBy_13 s s15 (s_size ⟨k.1, rfl⟩ ⟨_, rfl, fun _ => H, fun z => absurd ?_ z⟩)
        rw [hC.2.1.1]
        exact nI_le (Nat.le_refl _) (by omega)
      | succ w ih =>
        intro r hr hf
        have hr' : r < mR M := by omega
        have h := hC.2.1.2.2.1 r hr'
        have e1 : ilE (mX M) i ru (r + 1) = (ilE (mX M) i ru r || (decide (rdI (mX M r) = i + 1) && rdLn (mX M r) ru)) := rfl
        rw [hf, Bool.false_or] at e1
        obtain ⟨q1, q2⟩ := iss_is (i := i) h (hI r hr')
        have hlt : nI r < cS c 42 0 0 := by
          rw [hC.2.1.1]
          exact nI_lt hr' (by omega)
        have no : rdI (mX M r) ≠ i + 1 → ec g tb_X8_isOnSaleBy 13 [some (.ref a), some (.ref (cA c 15 i 0)), some (.int x1), some (.int (nI (r + 1)))] [] 0 0 c R X := fun hn => ih (r + 1) (by omega) (by rw [e1, decide_eq_false hn]; rfl)
        refine mk_X8_isOnSaleBy_13 s s15 (s_size ⟨k.1, rfl⟩ ⟨_, rfl, fun z => ?_, fun _ => s_get (e := r) ⟨k.1, rfl⟩ rfl hlt (by omega) ⟨_, r, rfl, ⟨h.1, rfl⟩, fun z => ⟨fun z2 => s_get (e := r) ⟨k.1, rfl⟩ rfl hlt (by omega) ⟨_, r, rfl, ⟨h.1, rfl⟩, s_hasStepBy ⟨(hw.2.2.1 r h.1).2.1, rfl⟩ h.2.2.2.2.2.2.1 (hS r hr') h1 hru ⟨_, rfl, fun z3 => ?_, fun z3 => ?_⟩⟩, fun z2 => ?_⟩, fun z => ?_⟩⟩)
        · rw [hC.2.1.1] at z
          exact absurd z (nI_ge hr' (by omega))
        · rw [nI_1]
          refine ih (r + 1) (by omega) ?_
          have : rdLn (mX M r) ru = false := by
            cases hb : rdLn (mX M r) ru with
            | false => rfl
            | true =>
              have hb' : lnS (rdS (mX M r)) ru (rdk (mX M r)) = true := hb
              rw [hb'] at z3
              exact absurd z3 (by decide)
          rw [e1, this, Bool.and_false]
        · have : rdLn (mX M r) ru = true := by
            cases hb : rdLn (mX M r) ru with
            | true => rfl
            | false =>
              have hb' : lnS (rdS (mX M r)) ru (rdk (mX M r)) = false := hb
              rw [hb'] at z3
              exact absurd rfl z3
          rw [this, Bool.and_true, decide_eq_true ((q2 (fun q => z (q1.mpr q))).mp z2)] at e1
          rw [ilE_mono e1 (by omega)] at H
          exact H
        · rw [nI_1]
          exact no (fun q => z2 ((q2 (fun q2 => z (q1.mpr q2))).mpr q))
        · rw [nI_1]
          exact no (fun q => by rw [q1.mp z] at q; omega)
    exact ⟨fun _ => loop (mR M) 0 (by omega) rfl, fun z => absurd hJ z⟩
  · have eo : onS M ru i = false := by
      unfold onS
      rw [decide_eq_false hJ, Bool.false_and]
    rw [eo] at H
    exact ⟨fun z => absurd z hJ, fun _ => H⟩
theorem wS16 (w : wfM M t) : ∀ r, r < mR M → ∀ k, k < rdk (mX M r) → (rdS (mX M r) k).1 < 16 := fun r hr => (w.1.2 r hr).2.2.1.2.2.2
theorem c_indexed (s : sl c 0 0 0 a) (hC : CL c M) (w : wfM M t) : wc g (wp_X8_indexed g) c [.ref a, .int x] (okC (spIdx M x) c) (okX xI (spIdx M x) c) := by
  have b6 := w.2.1.1
  have b12 := w.2.2.1.1
  refine mk_X8_indexed_0 s (s_checkRule s hC.2.2.1 (fun h0 => lX 0 (no1 h0) rfl kC_rfl hC) (fun ru hru hx => ⟨rfl, ?_⟩))
  have e1 : spIdx M x = _ := at1 hx hru (by omega)
  refine ec_cw fun hw => ?_
  have k := kd_ok hw s.1
  have loop : ∀ (n i : Nat), i + n = mI M → ec g tb_X8_indexed 9 [some (.ref a), some (.int x), some (.int (nI (ixC M ru i))), some (.int (nI i))] [] 1 6 c (okC (spIdx M x) c) (okX xI (spIdx M x) c) := by
    intro n
    induction n with
    | zero =>
      intro i hi
      obtain rfl : i = mI M := by omega
      refine mk_X8_indexed_9 s ⟨⟨by omega, by omega⟩, s_size ⟨k.2.2.1, rfl⟩ ⟨_, rfl, fun _ => ⟨⟨by omega, by omega⟩, lC e1 rfl kC_rfl hC⟩, fun z => absurd ?_ z⟩⟩
      rw [hC.2.2.2.1.1]
      exact nI_le (Nat.le_refl _) (by omega)
    | succ n ih =>
      intro i hi
      have hi' : i < mI M := by omega
      have r1 := ih (i + 1) (by omega)
      have e2 : ixC M ru (i + 1) = ixC M ru i + (if onS M ru i = true then 1 else 0) := rfl
      rw [e2] at r1
      refine mk_X8_indexed_9 s ⟨⟨by omega, by omega⟩, s_size ⟨k.2.2.1, rfl⟩ ⟨_, rfl, fun z => ?_, fun _ => ⟨⟨by omega, by omega⟩, s_get (e := i) ⟨k.2.2.1, rfl⟩ rfl (by rw [hC.2.2.2.1.1]; exact nI_lt hi' (by omega)) (by omega) ⟨_, i, rfl, ⟨(hC.2.2.2.1.2.2.1 i hi').1, rfl⟩, ⟨by omega, by omega⟩, s_isOnSaleBy s hC w.1.1 (wI12 w) (wS16 w) hi' hx (by omega) ⟨_, rfl, fun z => ?_, fun z => ?_⟩⟩⟩⟩⟩
      · rw [hC.2.2.2.1.1] at z
        exact absurd z (nI_ge hi' (by omega))
      · have hb : onS M ru i = false := by
          cases hb : onS M ru i with
          | false => rfl
          | true => rw [hb] at z; exact absurd z (by decide)
        rw [hb, if_neg (by decide), Nat.add_zero] at r1
        rw [nI_1]
        exact r1
      · have hb : onS M ru i = true := by
          cases hb : onS M ru i with
          | true => rfl
          | false => rw [hb] at z; exact absurd rfl z
        rw [hb, if_pos rfl] at r1
        rw [nI_1, nI_1]
        exact r1
  exact loop (mI M) 0 (by omega)
end
