section
variable {g : Nat → Nat} {R : Option Value → cc_C → Prop} {X : String → cc_C → Prop}
/-- the outcome of a proof in the reference: 3, 1 or 2 -/
def outN (m : Nat → Nat) (n : Nat) : Nat := if eE m n = true then 3 else if wE m n = true then 1 else 2
def ltr (o : Nat) : Int32 := if o = 0 then 45 else if o = 1 then 119 else if o = 2 then 110 else 102
theorem outS_ltr (m : Nat → Nat) (n : Nat) : outS m n = ltr (outN m n) := by
  unfold outS outN
  by_cases h1 : eE m n = true
  · rw [if_pos h1, if_pos h1]; rfl
  · rw [if_neg h1, if_neg h1]
    by_cases h2 : wE m n = true
    · rw [if_pos h2, if_pos h2]; rfl
    · rw [if_neg h2, if_neg h2]; rfl
def pPn (f i : Nat) : Prop := f = 874 ∧ i = 0 ∨ f = 880 ∧ (i = 25 ∨ i = 3 ∨ i = 4 ∨ i = 10 ∨ i = 11 ∨ i = 12)
theorem clM_row {c d : cc_C} {r : Nat} (h : fr pPn c d) : clM d r = clM c r := by
  unfold clM
  funext e
  have hh : ∀ i, 6 ≤ i ∧ i ≤ 9 → cS d 880 i = cS c 880 i := fun i hi => h.row (fun q => by rcases q with q | q <;> omega)
  rw [hh 6 (by omega), hh 7 (by omega), hh 8 (by omega), hh 9 (by omega)]
theorem m_proves {c : cc_C} {r n nc nO e : Nat} {O : cc_O} {x1 : Int32} (s : sl c 21 0 0 e) (hx : x1 = nI r) (o : ansOkM c r n nc) (ow : owM c nO O) (oO : okO nO O) (H : ∀ z, fr pPn c z → kpM r c z → (∀ i, i ≠ r → cS z 880 3 i = cS c 880 3 i) → stM z r (prf (clM c r) O n nc nO).2.1 (prf (clM c r) O n nc nO).2.2 → cS z 880 3 r = nI (outN (prf (clM c r) O n nc nO).1 n) → R (some (.int (nI (outN (prf (clM c r) O n nc nO).1 n)))) z) : wc g (wp_X9_proves g) c [.ref e, .int x1] R X := by
  subst hx
  obtain ⟨o1, o2, o3, o4, o5, o6, o7⟩ := o
  have cr : (nI r).toNatClampNeg = r := nI_clamp (by omega)
  refine mk_X9_proves_0 s ⟨?_, ?_⟩
  · rw [cS_at]
    exact vp_in_nI o1 (by omega)
  rw [cS_at, cr]
  have f0 : fr pPn c (cset (cset c 874 0 0 (nI r)) 880 4 r 0) := (fr_rfl.set (Or.inl ⟨rfl, rfl⟩)).set (Or.inr ⟨rfl, by omega⟩)
  have k0 : kpM r c (cset (cset c 874 0 0 (nI r)) 880 4 r 0) := by
    refine ⟨fun i hi => ?_, fun f hf i _ => ?_⟩
    · rw [cS_ne (by omega), cS_f (by decide)]
    · rw [cS_ne (by omega), cS_f (by decide)]
  have e3 : cS (cset (cset c 874 0 0 (nI r)) 880 4 r 0) 880 3 = cS c 880 3 := funext fun i => by rw [cS_ne (by omega), cS_f (by decide)]
  have e4 : cS (cset (cset c 874 0 0 (nI r)) 880 4 r 0) 880 4 r = nI 0 := cS_at _ _ _ _ _
  have ow0 := owM_fr f0 (fun i hi q => by rcases q with q | q <;> omega) (fun q => by rcases q with q | q <;> omega) ow
  have n874 : cS (cset (cset c 874 0 0 (nI r)) 880 4 r 0) 874 0 0 = nI r := by rw [cS_f (by decide), cS_at]
  have eK : clM (cset (cset c 874 0 0 (nI r)) 880 4 r 0) r = clM c r := clM_row f0
  have p0 : prM (cset (cset c 874 0 0 (nI r)) 880 4 r 0) r n nc := by
    refine ⟨⟨o1, n874, ?_⟩, o4, o3, ?_, o6, ?_⟩
    · rw [f0.row (f := 880) (i := 0) (fun q => by rcases q with q | q <;> omega)]; exact o2
    · rw [f0.row (f := 880) (i := 1) (fun q => by rcases q with q | q <;> omega)]; exact o5
    · rw [eK]; exact o7
  generalize cset (cset c 874 0 0 (nI r)) 880 4 r 0 = c0 at *
  have s0 : sl c0 21 0 0 e := f0.sl s
  obtain ⟨f1, f2, f3⟩ := full_ok o4 o3
  refine m_fill17 s0 p0.1 o3 (fun d hd hm => ?_) n 0 c0 (by omega) fr_rfl (fun k hk => absurd hk (Nat.not_lt_zero k))
  have st0 : stM d r 0 (fun _ => (0, 0, 0)) := by
    refine ⟨?_, by omega, fun i hi => absurd hi (Nat.not_lt_zero i)⟩
    rw [hd.row (f := 880) (i := 4) (fun q => by have := q.2; omega)]
    exact e4
  rw [← eK] at H
  refine m_provesLoop s0 p0 ow0 oO (fun z k S m hz hkz hme hst hpr he => ?_) 36 0 d (fullM n) (fun _ => (0, 0, 0)) (by omega) (hd.mono may_Pm) (kpM_fr hd may_st) hm st0 f3 f1 (by omega) rfl
  refine m_whole72 (hz.sl s0) hpr.1 hme rfl (fun v hv => ?_)
  rw [← he] at H
  have hv2 : v = nI (outN m n) := by
    rw [hv]
    unfold outN
    split
    · rfl
    · split <;> rfl
  rw [hv2]
  refine H _ ((f0.trans (hz.mono fun f i q => Or.inr ⟨q.1, by have := q.2; omega⟩)).set (Or.inr ⟨rfl, by omega⟩)) ?_ (fun i hi => ?_) ?_ (cS_at _ _ _ _ _)
  · exact (k0.trans hkz).trans ⟨fun i hi => cS_ne (by omega), fun f hf i _ => cS_ne (by omega)⟩
  · rw [cS_ne (by omega), hz.row (f := 880) (i := 3) (fun q => by have := q.2; omega), e3]
  · refine stM_fr (P := fun f i => f = 880 ∧ i = 3) (fr_rfl.set ⟨rfl, rfl⟩) (fun i hi q => by have := q.2; omega) hst
end
