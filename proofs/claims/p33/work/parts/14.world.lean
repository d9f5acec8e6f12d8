/-! the world of the class, the reference and the law: places by kind and numbers; what lies there by the numbers of a state -/
abbrev cc_C : Type := (Nat → Nat → Nat → Nat) × (Nat → Nat → Nat → Prop) × (Nat → Nat → Nat → Int32) × (Nat → Nat → Int64) × (Nat → UInt64)
def cA (c : cc_C) : Nat → Nat → Nat → Nat := c.1
def cV (c : cc_C) : Nat → Nat → Nat → Prop := c.2.1
def cS (c : cc_C) : Nat → Nat → Nat → Int32 := c.2.2.1
def cP (c : cc_C) : Nat → Nat → Int64 := c.2.2.2.1
def cD (c : cc_C) : Nat → UInt64 := c.2.2.2.2
def up3 (f : Nat → Nat → Nat → Int32) (p q r : Nat) (x : Int32) : Nat → Nat → Nat → Int32 := fun i j k => if i = p ∧ j = q ∧ k = r then x else f i j k
def up2L (f : Nat → Nat → Int64) (p q : Nat) (x : Int64) : Nat → Nat → Int64 := fun i j => if i = p ∧ j = q then x else f i j
def cset (c : cc_C) (f i j : Nat) (x : Int32) : cc_C := (cA c, cV c, up3 (cS c) f i j x, cP c, cD c)
def cpset (c : cc_C) (i j : Nat) (x : Int64) : cc_C := (cA c, cV c, cS c, up2L (cP c) i j x, cD c)
def cdset (c : cc_C) (i : Nat) (x : UInt64) : cc_C := (cA c, cV c, cS c, cP c, vf_upd (cD c) i x)
theorem up3_at (f : Nat → Nat → Nat → Int32) (p q r : Nat) (x : Int32) : up3 f p q r x p q r = x := if_pos ⟨rfl, rfl, rfl⟩
theorem up3_ne {f : Nat → Nat → Nat → Int32} {p q r : Nat} {x : Int32} {i j k : Nat} (h : ¬ (i = p ∧ j = q ∧ k = r)) : up3 f p q r x i j k = f i j k := if_neg h
theorem up3_f {f : Nat → Nat → Nat → Int32} {p q r : Nat} {x : Int32} {i j k : Nat} (h : i ≠ p) : up3 f p q r x i j k = f i j k := if_neg fun e => h e.1
theorem up3_fn {f : Nat → Nat → Nat → Int32} {p q r : Nat} {x : Int32} {i j : Nat} (h : ¬ (i = p ∧ j = q)) : up3 f p q r x i j = f i j := funext fun k => if_neg fun e => h ⟨e.1, e.2.1⟩
theorem up3_row (f : Nat → Nat → Nat → Int32) (p q r : Nat) (x : Int32) : up3 f p q r x p q = upd (f p q) r x := funext fun k => by
  unfold up3 upd
  by_cases hk : k = r
  · rw [if_pos ⟨rfl, rfl, hk⟩, if_pos hk]
  · rw [if_neg (fun e => hk e.2.2), if_neg hk]
/-- the elements of lists -/
def el (c : cc_C) (i e : Nat) : Nat := match i with
  | 0 => cA c 3 e 0
  | 1 => cA c 14 e 0
  | 2 => cA c 15 e 0
  | 3 => cA c 16 e 0
  | r + 4 => cA c 5 r e
def elV (c : cc_C) (i e : Nat) : Prop := match i with
  | 0 => cV c 3 e 0
  | 1 => cV c 14 e 0
  | 2 => cV c 15 e 0
  | 3 => cV c 16 e 0
  | r + 4 => cV c 6 (cA c 5 r e) 0
def cN (c : cc_C) (f i : Nat) : Nat := (cS c f i 0).toNatClampNeg
def dat (g : Nat → Nat) (c : cc_C) (i : Nat) : Nat := if cN c 80 i = 0 then g 0 else cA c 2 i 0
def ivo (c : cc_C) (i : Nat) : Option Nat := if cS c 126 i 0 = 0 then none else some (cA c 15 (cN c 126 i - 1) 0)
def els (c : cc_C) (i : Nat) : Nat → Option Nat := fun e => if e < cN c 42 i then some (el c i e) else none
/-- the lengths of the reference's rows -/
def mlen (j : Nat) : Nat := [20, 20, 20, 20, 20, 20, 160, 160, 160, 160, 720, 720, 720, 6, 6, 6, 6, 6, 12, 12, 12, 48, 8, 8, 96, 6, 6, 6].getD j 0

def ct0 (g : Nat → Nat) (c : cc_C) (i j : Nat) : ab_E := .inr (11, [.ref (cA c 1 0 0), .ref (cA c 1 1 0), .ref (cA c 1 2 0), .ref (cA c 1 3 0), .long (cP c 0 0)])
def ct1 (g : Nat → Nat) (c : cc_C) (i j : Nat) : ab_E := .inr (2, [.int (cS c 40 i 0), .ref (dat g c i), .int (cS c 42 i 0)])
def ct2 (g : Nat → Nat) (c : cc_C) (i j : Nat) : ab_E := .inl (4, cN c 80 i, .inr (.inr (.inr (.inr (els c i)))))
def ct3 (g : Nat → Nat) (c : cc_C) (i j : Nat) : ab_E := .inr (10, [.int (cS c 120 i 0), .ref (cA c 1 (i + 4) 0), .ref (cA c 7 i 0), .ref (cA c 13 i 0), .int (cS c 124 i 0), .int (cS c 125 i 0), va_rf (ivo c i)])
def ct6 (g : Nat → Nat) (c : cc_C) (i j : Nat) : ab_E := .inr (3, [.int (cS c 240 i 0), .int (cS c 241 i 0), .int (cS c 242 i 0), .int (cS c 243 i 0)])
def ct7 (g : Nat → Nat) (c : cc_C) (i j : Nat) : ab_E := .inr (9, [.ref (cA c 8 i 0), .ref (cA c 9 i 0), .ref (cA c 10 i 0), .int (cS c 283 i 0), .int (cS c 284 i 0), .ref (cA c 11 i 0), .int (cS c 286 i 0)])
def ct8 (g : Nat → Nat) (c : cc_C) (i j : Nat) : ab_E := .inl (0, 36, .inl (cS c 320 i))
def ct9 (g : Nat → Nat) (c : cc_C) (i j : Nat) : ab_E := .inl (0, 36, .inl (cS c 360 i))
def ct10 (g : Nat → Nat) (c : cc_C) (i j : Nat) : ab_E := .inl (0, 36, .inl (cS c 400 i))
def ct11 (g : Nat → Nat) (c : cc_C) (i j : Nat) : ab_E := .inr (8, [.ref (cA c 12 i 0)])
def ct12 (g : Nat → Nat) (c : cc_C) (i j : Nat) : ab_E := .inl (0, cN c 120 i, .inl (cS c 480 i))
def ct13 (g : Nat → Nat) (c : cc_C) (i j : Nat) : ab_E := .inl (0, cN c 120 i, .inl (cS c 520 i))
def ct14 (g : Nat → Nat) (c : cc_C) (i j : Nat) : ab_E := .inr (7, [.int (cS c 560 i 0), .int (cS c 561 i 0), .int (cS c 562 i 0), .int (cS c 563 i 0), .int (cS c 564 i 0), .int (cS c 565 i 0)])
def ct15 (g : Nat → Nat) (c : cc_C) (i j : Nat) : ab_E := .inr (5, [.int (cS c 600 i 0), .int (cS c 601 i 0)])
def ct16 (g : Nat → Nat) (c : cc_C) (i j : Nat) : ab_E := .inr (4, [.int (cS c 640 i 0), .int (cS c 641 i 0), .ref (cA c 17 i 0)])
def ct17 (g : Nat → Nat) (c : cc_C) (i j : Nat) : ab_E := .inl (1, 12, .inl (cS c 680 i))
def ct18 (g : Nat → Nat) (c : cc_C) (i j : Nat) : ab_E := .inr (6, [.ref (cA c 19 i 0)])
def ct19 (g : Nat → Nat) (c : cc_C) (i j : Nat) : ab_E := .inl (0, cN c 720 i, .inl (cS c 760 i))
def ct21 (g : Nat → Nat) (c : cc_C) (i j : Nat) : ab_E := .inr (12, [.ref (cA c 22 0 0), .ref (cA c 22 1 0), .ref (cA c 22 2 0), .ref (cA c 22 3 0), .ref (cA c 22 4 0), .ref (cA c 22 5 0), .ref (cA c 22 6 0), .ref (cA c 22 7 0), .ref (cA c 22 8 0), .ref (cA c 22 9 0), .ref (cA c 22 10 0), .ref (cA c 22 11 0), .ref (cA c 22 12 0), .ref (cA c 22 13 0), .ref (cA c 22 14 0), .ref (cA c 22 15 0), .ref (cA c 22 16 0), .ref (cA c 22 17 0), .ref (cA c 22 18 0), .ref (cA c 22 19 0), .ref (cA c 22 20 0), .ref (cA c 22 21 0), .ref (cA c 22 22 0), .ref (cA c 22 23 0), .ref (cA c 22 24 0), .ref (cA c 22 25 0), .ref (cA c 22 26 0), .ref (cA c 22 27 0), .long (cP c 2 0), .int (cS c 869 0 0), .int (cS c 870 0 0), .int (cS c 871 0 0), .int (cS c 872 0 0), .int (cS c 873 0 0), .int (cS c 874 0 0), .int (cS c 875 0 0)])
def ct22 (g : Nat → Nat) (c : cc_C) (i j : Nat) : ab_E := .inl (0, mlen i, .inl (cS c 880 i))
def ct23 (g : Nat → Nat) (c : cc_C) (i j : Nat) : ab_E := .inl (2, 1, .inr (.inl (cP c 1)))
def ct24 (g : Nat → Nat) (c : cc_C) (i j : Nat) : ab_E := .inl (3, 1, .inr (.inr (.inr (.inl (cD c)))))
def ct25 (g : Nat → Nat) (c : cc_C) (i j : Nat) : ab_E := .inl (0, cN c 1001 0, .inl (cS c 1000 0))
def ct (g : Nat → Nat) (c : cc_C) (k i j : Nat) : ab_E := match k with
  | 0 => ct0 g c i j
  | 1 => ct1 g c i j
  | 2 => ct2 g c i j
  | 3 => ct3 g c i j
  | 6 => ct6 g c i j
  | 7 => ct7 g c i j
  | 8 => ct8 g c i j
  | 9 => ct9 g c i j
  | 10 => ct10 g c i j
  | 11 => ct11 g c i j
  | 12 => ct12 g c i j
  | 13 => ct13 g c i j
  | 14 => ct14 g c i j
  | 15 => ct15 g c i j
  | 16 => ct16 g c i j
  | 17 => ct17 g c i j
  | 18 => ct18 g c i j
  | 19 => ct19 g c i j
  | 21 => ct21 g c i j
  | 22 => ct22 g c i j
  | 23 => ct23 g c i j
  | 24 => ct24 g c i j
  | 25 => ct25 g c i j
  | _ => .inl (0, 0, .inl (fun _ => 0))
/-- what hangs together in a state -/
def cw (c : cc_C) : Prop :=
  (∀ k i j, cV c k i j → j = 0 ∧ (k = 0 ∨ k = 21 ∨ k = 23 ∨ k = 24 ∨ k = 25 → i = 0) ∧ k ≠ 5) ∧
  (cV c 0 0 0 → cV c 1 0 0 ∧ cV c 1 1 0 ∧ cV c 1 2 0 ∧ cV c 1 3 0) ∧
  (∀ i, cV c 3 i 0 → cV c 1 (i + 4) 0 ∧ cV c 7 i 0 ∧ cV c 13 i 0 ∧ (¬ cS c 126 i 0 = 0 → cV c 15 (cN c 126 i - 1) 0)) ∧
  (∀ i, cV c 7 i 0 → cV c 8 i 0 ∧ cV c 9 i 0 ∧ cV c 10 i 0 ∧ cV c 11 i 0) ∧
  (∀ i, cV c 11 i 0 → cV c 12 i 0) ∧ (∀ i, cV c 16 i 0 → cV c 17 i 0) ∧ (∀ i, cV c 18 i 0 → cV c 19 i 0 ∧ cA c 18 i 0 = i) ∧
  (∀ i, cV c 6 i 0 → cA c 6 i 0 = i) ∧ (cV c 21 0 0 → ∀ j, j < 28 → cV c 22 j 0) ∧
  (∀ i, (cV c 2 i 0 → cV c 1 i 0) ∧ (cV c 19 i 0 → cV c 18 i 0)) ∧ (∀ i, cV c 1 i 0 → ¬ cS c 42 i 0 < 0 ∧ cN c 42 i ≤ cN c 80 i ∧ (¬ cN c 80 i = 0 → cV c 2 i 0) ∧ ∀ e, e < cN c 42 i → elV c i e)
def cI (c : cc_C) : Prop := ∀ k i j k' i' j', cV c k i j → cV c k' i' j' → cA c k i j = cA c k' i' j' → k = k' ∧ i = i' ∧ j = j'
def CC (g : Nat → Nat) (c : cc_C) (L : List Nat) (h : ab_H) : Prop := (∀ k i j, cV c k i j → cA c k i j ∈ L ∧ h (cA c k i j) = ct g c k i j) ∧ cI c ∧ cw c
/-- a place, by its address -/
def sl (c : cc_C) (k i j a : Nat) : Prop := cV c k i j ∧ cA c k i j = a
def cle (c d : cc_C) : Prop := ∀ k i j, k ≠ 2 ∧ k ≠ 5 → cV c k i j → cV d k i j ∧ cA d k i j = cA c k i j
theorem cle_rfl {c : cc_C} : cle c c := fun _ _ _ _ h => ⟨h, rfl⟩
theorem cle.trans {c d e : cc_C} (h : cle c d) (h2 : cle d e) : cle c e := fun k i j hk hv => ⟨(h2 k i j hk (h k i j hk hv).1).1, (h2 k i j hk (h k i j hk hv).1).2.trans (h k i j hk hv).2⟩
theorem sl.mono {c d : cc_C} {k i j a : Nat} (s : sl c k i j a) (h : cle c d) (hk : k ≠ 2 ∧ k ≠ 5 := by decide) : sl d k i j a := ⟨(h k i j hk s.1).1, (h k i j hk s.1).2.trans s.2⟩
/-- a method over states -/
def wc (g : Nat → Nat) (W : ab_Wp) (c : cc_C) (as : List Value) (R : Option Value → cc_C → Prop) (X : String → cc_C → Prop) : Prop := ∀ L h R2 XP, CC g c L h → (∀ v L' h' c', CC g c' L' h' → cle c c' → R v c' → R2 v L' h') → (∀ e L' h' c', CC g c' L' h' → cle c c' → X e c' → XP e L' h') → W as L h R2 XP
def ec (g : Nat → Nat) (tab : (Nat → Nat) → ab_R → ab_XP → Nat → ab_I) (pc : Nat) (ls : List (Option Value)) (st : List Value) (k n : Nat) (c : cc_C) (R : Option Value → cc_C → Prop) (X : String → cc_C → Prop) : Prop := ∀ L h R2 XP, CC g c L h → (∀ v L' h' c', CC g c' L' h' → cle c c' → R v c' → R2 v L' h') → (∀ e L' h' c', CC g c' L' h' → cle c c' → X e c' → XP e L' h') → ab_Ev (tab g R2 XP) pc ls st L h k n
theorem wc_mono {g : Nat → Nat} {W : ab_Wp} {c : cc_C} {as : List Value} {R R' : Option Value → cc_C → Prop} {X X' : String → cc_C → Prop} (H : wc g W c as R X) (hr : ∀ v c', R v c' → R' v c') (hx : ∀ e c', X e c' → X' e c') : wc g W c as R' X' := fun L h R2 XP cc hR hX => H L h R2 XP cc (fun v L' h' c' q le r => hR v L' h' c' q le (hr v c' r)) (fun e L' h' c' q le r => hX e L' h' c' q le (hx e c' r))
/-- a constructor over states: a has just been made, and is no place yet -/
def wn (g : Nat → Nat) (W : ab_Wp) (ci : Nat) (df : List Value) (c : cc_C) (as : List Value) (R : Nat → cc_C → Prop) : Prop := ∀ L h R2 XP a, CC g c L h → a ∉ L → (∀ L' h' c', CC g c' L' h' → cle c c' → R a c' → R2 none L' h') → W (.ref a :: as) (L ++ [a]) (va_up h a (.inr (ci, df))) R2 XP
theorem CC_new {g : Nat → Nat} {c : cc_C} {L : List Nat} {h : ab_H} {a : Nat} {e : ab_E} (cc : CC g c L h) (ha : a ∉ L) : CC g c (L ++ [a]) (va_up h a e) := by
  refine ⟨fun k i j hv => ?_, cc.2⟩
  obtain ⟨h1, h2⟩ := cc.1 k i j hv
  refine ⟨List.mem_append_left _ h1, ?_⟩
  unfold va_up
  rw [if_neg (fun (q : cA c k i j = a) => ha (q ▸ h1))]
  exact h2
theorem CC_up {g : Nat → Nat} {c d : cc_C} {L : List Nat} {h : ab_H} {k i j a : Nat} {e : ab_E} (cc : CC g c L h) (s : sl c k i j a) (hA : cA d = cA c) (hV : cV d = cV c) (hw : cw d) (he : ct g d k i j = e) (ho : ∀ k' i' j', cV c k' i' j' → ¬ (k' = k ∧ i' = i ∧ j' = j) → ct g d k' i' j' = ct g c k' i' j') : CC g d L (va_up h a e) := by
  refine ⟨fun k' i' j' hv => ?_, ?_, hw⟩
  · rw [hV] at hv
    rw [hA]
    obtain ⟨h1, h2⟩ := cc.1 k' i' j' hv
    refine ⟨h1, ?_⟩
    unfold va_up
    by_cases hk : k' = k ∧ i' = i ∧ j' = j
    · obtain ⟨rfl, rfl, rfl⟩ := hk
      rw [if_pos s.2, he]
    · rw [if_neg (fun q => hk (cc.2.1 _ _ _ _ _ _ hv s.1 (q.trans s.2.symm))), h2, ho k' i' j' hv hk]
  · have := cc.2.1
    unfold cI at this ⊢
    rw [hA, hV]
    exact this

theorem rd0 {g : Nat → Nat} {c : cc_C} {L : List Nat} {h : ab_H} {i j a : Nat} (cc : CC g c L h) (s : sl c 0 i j a) : a ∈ L ∧ h a = ct0 g c i j := by
  obtain ⟨h1, h2⟩ := cc.1 0 i j s.1
  rw [s.2] at h1 h2
  exact ⟨h1, h2⟩
theorem rd1 {g : Nat → Nat} {c : cc_C} {L : List Nat} {h : ab_H} {i j a : Nat} (cc : CC g c L h) (s : sl c 1 i j a) : a ∈ L ∧ h a = ct1 g c i j := by
  obtain ⟨h1, h2⟩ := cc.1 1 i j s.1
  rw [s.2] at h1 h2
  exact ⟨h1, h2⟩
theorem rd2 {g : Nat → Nat} {c : cc_C} {L : List Nat} {h : ab_H} {i j a : Nat} (cc : CC g c L h) (s : sl c 2 i j a) : a ∈ L ∧ h a = ct2 g c i j := by
  obtain ⟨h1, h2⟩ := cc.1 2 i j s.1
  rw [s.2] at h1 h2
  exact ⟨h1, h2⟩
theorem rd3 {g : Nat → Nat} {c : cc_C} {L : List Nat} {h : ab_H} {i j a : Nat} (cc : CC g c L h) (s : sl c 3 i j a) : a ∈ L ∧ h a = ct3 g c i j := by
  obtain ⟨h1, h2⟩ := cc.1 3 i j s.1
  rw [s.2] at h1 h2
  exact ⟨h1, h2⟩
theorem rd6 {g : Nat → Nat} {c : cc_C} {L : List Nat} {h : ab_H} {i j a : Nat} (cc : CC g c L h) (s : sl c 6 i j a) : a ∈ L ∧ h a = ct6 g c i j := by
  obtain ⟨h1, h2⟩ := cc.1 6 i j s.1
  rw [s.2] at h1 h2
  exact ⟨h1, h2⟩
theorem rd7 {g : Nat → Nat} {c : cc_C} {L : List Nat} {h : ab_H} {i j a : Nat} (cc : CC g c L h) (s : sl c 7 i j a) : a ∈ L ∧ h a = ct7 g c i j := by
  obtain ⟨h1, h2⟩ := cc.1 7 i j s.1
  rw [s.2] at h1 h2
  exact ⟨h1, h2⟩
theorem rd8 {g : Nat → Nat} {c : cc_C} {L : List Nat} {h : ab_H} {i j a : Nat} (cc : CC g c L h) (s : sl c 8 i j a) : a ∈ L ∧ h a = ct8 g c i j := by
  obtain ⟨h1, h2⟩ := cc.1 8 i j s.1
  rw [s.2] at h1 h2
  exact ⟨h1, h2⟩
theorem rd9 {g : Nat → Nat} {c : cc_C} {L : List Nat} {h : ab_H} {i j a : Nat} (cc : CC g c L h) (s : sl c 9 i j a) : a ∈ L ∧ h a = ct9 g c i j := by
  obtain ⟨h1, h2⟩ := cc.1 9 i j s.1
  rw [s.2] at h1 h2
  exact ⟨h1, h2⟩
theorem rd10 {g : Nat → Nat} {c : cc_C} {L : List Nat} {h : ab_H} {i j a : Nat} (cc : CC g c L h) (s : sl c 10 i j a) : a ∈ L ∧ h a = ct10 g c i j := by
  obtain ⟨h1, h2⟩ := cc.1 10 i j s.1
  rw [s.2] at h1 h2
  exact ⟨h1, h2⟩
theorem rd11 {g : Nat → Nat} {c : cc_C} {L : List Nat} {h : ab_H} {i j a : Nat} (cc : CC g c L h) (s : sl c 11 i j a) : a ∈ L ∧ h a = ct11 g c i j := by
  obtain ⟨h1, h2⟩ := cc.1 11 i j s.1
  rw [s.2] at h1 h2
  exact ⟨h1, h2⟩
theorem rd12 {g : Nat → Nat} {c : cc_C} {L : List Nat} {h : ab_H} {i j a : Nat} (cc : CC g c L h) (s : sl c 12 i j a) : a ∈ L ∧ h a = ct12 g c i j := by
  obtain ⟨h1, h2⟩ := cc.1 12 i j s.1
  rw [s.2] at h1 h2
  exact ⟨h1, h2⟩
theorem rd13 {g : Nat → Nat} {c : cc_C} {L : List Nat} {h : ab_H} {i j a : Nat} (cc : CC g c L h) (s : sl c 13 i j a) : a ∈ L ∧ h a = ct13 g c i j := by
  obtain ⟨h1, h2⟩ := cc.1 13 i j s.1
  rw [s.2] at h1 h2
  exact ⟨h1, h2⟩
theorem rd14 {g : Nat → Nat} {c : cc_C} {L : List Nat} {h : ab_H} {i j a : Nat} (cc : CC g c L h) (s : sl c 14 i j a) : a ∈ L ∧ h a = ct14 g c i j := by
  obtain ⟨h1, h2⟩ := cc.1 14 i j s.1
  rw [s.2] at h1 h2
  exact ⟨h1, h2⟩
theorem rd15 {g : Nat → Nat} {c : cc_C} {L : List Nat} {h : ab_H} {i j a : Nat} (cc : CC g c L h) (s : sl c 15 i j a) : a ∈ L ∧ h a = ct15 g c i j := by
  obtain ⟨h1, h2⟩ := cc.1 15 i j s.1
  rw [s.2] at h1 h2
  exact ⟨h1, h2⟩
theorem rd16 {g : Nat → Nat} {c : cc_C} {L : List Nat} {h : ab_H} {i j a : Nat} (cc : CC g c L h) (s : sl c 16 i j a) : a ∈ L ∧ h a = ct16 g c i j := by
  obtain ⟨h1, h2⟩ := cc.1 16 i j s.1
  rw [s.2] at h1 h2
  exact ⟨h1, h2⟩
theorem rd17 {g : Nat → Nat} {c : cc_C} {L : List Nat} {h : ab_H} {i j a : Nat} (cc : CC g c L h) (s : sl c 17 i j a) : a ∈ L ∧ h a = ct17 g c i j := by
  obtain ⟨h1, h2⟩ := cc.1 17 i j s.1
  rw [s.2] at h1 h2
  exact ⟨h1, h2⟩
theorem rd18 {g : Nat → Nat} {c : cc_C} {L : List Nat} {h : ab_H} {i j a : Nat} (cc : CC g c L h) (s : sl c 18 i j a) : a ∈ L ∧ h a = ct18 g c i j := by
  obtain ⟨h1, h2⟩ := cc.1 18 i j s.1
  rw [s.2] at h1 h2
  exact ⟨h1, h2⟩
theorem rd19 {g : Nat → Nat} {c : cc_C} {L : List Nat} {h : ab_H} {i j a : Nat} (cc : CC g c L h) (s : sl c 19 i j a) : a ∈ L ∧ h a = ct19 g c i j := by
  obtain ⟨h1, h2⟩ := cc.1 19 i j s.1
  rw [s.2] at h1 h2
  exact ⟨h1, h2⟩
theorem rd21 {g : Nat → Nat} {c : cc_C} {L : List Nat} {h : ab_H} {i j a : Nat} (cc : CC g c L h) (s : sl c 21 i j a) : a ∈ L ∧ h a = ct21 g c i j := by
  obtain ⟨h1, h2⟩ := cc.1 21 i j s.1
  rw [s.2] at h1 h2
  exact ⟨h1, h2⟩
theorem rd22 {g : Nat → Nat} {c : cc_C} {L : List Nat} {h : ab_H} {i j a : Nat} (cc : CC g c L h) (s : sl c 22 i j a) : a ∈ L ∧ h a = ct22 g c i j := by
  obtain ⟨h1, h2⟩ := cc.1 22 i j s.1
  rw [s.2] at h1 h2
  exact ⟨h1, h2⟩
theorem rd23 {g : Nat → Nat} {c : cc_C} {L : List Nat} {h : ab_H} {i j a : Nat} (cc : CC g c L h) (s : sl c 23 i j a) : a ∈ L ∧ h a = ct23 g c i j := by
  obtain ⟨h1, h2⟩ := cc.1 23 i j s.1
  rw [s.2] at h1 h2
  exact ⟨h1, h2⟩
theorem rd24 {g : Nat → Nat} {c : cc_C} {L : List Nat} {h : ab_H} {i j a : Nat} (cc : CC g c L h) (s : sl c 24 i j a) : a ∈ L ∧ h a = ct24 g c i j := by
  obtain ⟨h1, h2⟩ := cc.1 24 i j s.1
  rw [s.2] at h1 h2
  exact ⟨h1, h2⟩
theorem rd25 {g : Nat → Nat} {c : cc_C} {L : List Nat} {h : ab_H} {i j a : Nat} (cc : CC g c L h) (s : sl c 25 i j a) : a ∈ L ∧ h a = ct25 g c i j := by
  obtain ⟨h1, h2⟩ := cc.1 25 i j s.1
  rw [s.2] at h1 h2
  exact ⟨h1, h2⟩
theorem dn0_0 {g : Nat → Nat} {c : cc_C} {L : List Nat} {h : ab_H} {a : Nat} (cc : CC g c L h) (s : sl c 0 0 0 a) : sl c 1 0 0 (cA c 1 0 0) := ⟨(cc.2.2.2.1 s.1).1, rfl⟩
theorem dn0_1 {g : Nat → Nat} {c : cc_C} {L : List Nat} {h : ab_H} {a : Nat} (cc : CC g c L h) (s : sl c 0 0 0 a) : sl c 1 1 0 (cA c 1 1 0) := ⟨(cc.2.2.2.1 s.1).2.1, rfl⟩
theorem dn0_2 {g : Nat → Nat} {c : cc_C} {L : List Nat} {h : ab_H} {a : Nat} (cc : CC g c L h) (s : sl c 0 0 0 a) : sl c 1 2 0 (cA c 1 2 0) := ⟨(cc.2.2.2.1 s.1).2.2.1, rfl⟩
theorem dn0_3 {g : Nat → Nat} {c : cc_C} {L : List Nat} {h : ab_H} {a : Nat} (cc : CC g c L h) (s : sl c 0 0 0 a) : sl c 1 3 0 (cA c 1 3 0) := ⟨(cc.2.2.2.1 s.1).2.2.2, rfl⟩
theorem dn3_1 {g : Nat → Nat} {c : cc_C} {L : List Nat} {h : ab_H} {i a : Nat} (cc : CC g c L h) (s : sl c 3 i 0 a) : sl c 1 (i + 4) 0 (cA c 1 (i + 4) 0) := ⟨(cc.2.2.2.2.1 i s.1).1, rfl⟩
theorem dn3_2 {g : Nat → Nat} {c : cc_C} {L : List Nat} {h : ab_H} {i a : Nat} (cc : CC g c L h) (s : sl c 3 i 0 a) : sl c 7 i 0 (cA c 7 i 0) := ⟨(cc.2.2.2.2.1 i s.1).2.1, rfl⟩
theorem dn3_3 {g : Nat → Nat} {c : cc_C} {L : List Nat} {h : ab_H} {i a : Nat} (cc : CC g c L h) (s : sl c 3 i 0 a) : sl c 13 i 0 (cA c 13 i 0) := ⟨(cc.2.2.2.2.1 i s.1).2.2.1, rfl⟩
theorem dn7_0 {g : Nat → Nat} {c : cc_C} {L : List Nat} {h : ab_H} {i a : Nat} (cc : CC g c L h) (s : sl c 7 i 0 a) : sl c 8 i 0 (cA c 8 i 0) := ⟨(cc.2.2.2.2.2.1 i s.1).1, rfl⟩
theorem dn7_1 {g : Nat → Nat} {c : cc_C} {L : List Nat} {h : ab_H} {i a : Nat} (cc : CC g c L h) (s : sl c 7 i 0 a) : sl c 9 i 0 (cA c 9 i 0) := ⟨(cc.2.2.2.2.2.1 i s.1).2.1, rfl⟩
theorem dn7_2 {g : Nat → Nat} {c : cc_C} {L : List Nat} {h : ab_H} {i a : Nat} (cc : CC g c L h) (s : sl c 7 i 0 a) : sl c 10 i 0 (cA c 10 i 0) := ⟨(cc.2.2.2.2.2.1 i s.1).2.2.1, rfl⟩
theorem dn7_5 {g : Nat → Nat} {c : cc_C} {L : List Nat} {h : ab_H} {i a : Nat} (cc : CC g c L h) (s : sl c 7 i 0 a) : sl c 11 i 0 (cA c 11 i 0) := ⟨(cc.2.2.2.2.2.1 i s.1).2.2.2, rfl⟩
theorem dn11_0 {g : Nat → Nat} {c : cc_C} {L : List Nat} {h : ab_H} {i a : Nat} (cc : CC g c L h) (s : sl c 11 i 0 a) : sl c 12 i 0 (cA c 12 i 0) := ⟨cc.2.2.2.2.2.2.1 i s.1, rfl⟩
theorem dn16_2 {g : Nat → Nat} {c : cc_C} {L : List Nat} {h : ab_H} {i a : Nat} (cc : CC g c L h) (s : sl c 16 i 0 a) : sl c 17 i 0 (cA c 17 i 0) := ⟨cc.2.2.2.2.2.2.2.1 i s.1, rfl⟩
theorem dn18_0 {g : Nat → Nat} {c : cc_C} {L : List Nat} {h : ab_H} {i a : Nat} (cc : CC g c L h) (s : sl c 18 i 0 a) : sl c 19 i 0 (cA c 19 i 0) := ⟨(cc.2.2.2.2.2.2.2.2.1 i s.1).1, rfl⟩
theorem dn21_0 {g : Nat → Nat} {c : cc_C} {L : List Nat} {h : ab_H} {a : Nat} (cc : CC g c L h) (s : sl c 21 0 0 a) : sl c 22 0 0 (cA c 22 0 0) := ⟨cc.2.2.2.2.2.2.2.2.2.2.1 s.1 0 (by decide), rfl⟩
theorem dn21_1 {g : Nat → Nat} {c : cc_C} {L : List Nat} {h : ab_H} {a : Nat} (cc : CC g c L h) (s : sl c 21 0 0 a) : sl c 22 1 0 (cA c 22 1 0) := ⟨cc.2.2.2.2.2.2.2.2.2.2.1 s.1 1 (by decide), rfl⟩
theorem dn21_2 {g : Nat → Nat} {c : cc_C} {L : List Nat} {h : ab_H} {a : Nat} (cc : CC g c L h) (s : sl c 21 0 0 a) : sl c 22 2 0 (cA c 22 2 0) := ⟨cc.2.2.2.2.2.2.2.2.2.2.1 s.1 2 (by decide), rfl⟩
theorem dn21_3 {g : Nat → Nat} {c : cc_C} {L : List Nat} {h : ab_H} {a : Nat} (cc : CC g c L h) (s : sl c 21 0 0 a) : sl c 22 3 0 (cA c 22 3 0) := ⟨cc.2.2.2.2.2.2.2.2.2.2.1 s.1 3 (by decide), rfl⟩
theorem dn21_4 {g : Nat → Nat} {c : cc_C} {L : List Nat} {h : ab_H} {a : Nat} (cc : CC g c L h) (s : sl c 21 0 0 a) : sl c 22 4 0 (cA c 22 4 0) := ⟨cc.2.2.2.2.2.2.2.2.2.2.1 s.1 4 (by decide), rfl⟩
theorem dn21_5 {g : Nat → Nat} {c : cc_C} {L : List Nat} {h : ab_H} {a : Nat} (cc : CC g c L h) (s : sl c 21 0 0 a) : sl c 22 5 0 (cA c 22 5 0) := ⟨cc.2.2.2.2.2.2.2.2.2.2.1 s.1 5 (by decide), rfl⟩
theorem dn21_6 {g : Nat → Nat} {c : cc_C} {L : List Nat} {h : ab_H} {a : Nat} (cc : CC g c L h) (s : sl c 21 0 0 a) : sl c 22 6 0 (cA c 22 6 0) := ⟨cc.2.2.2.2.2.2.2.2.2.2.1 s.1 6 (by decide), rfl⟩
theorem dn21_7 {g : Nat → Nat} {c : cc_C} {L : List Nat} {h : ab_H} {a : Nat} (cc : CC g c L h) (s : sl c 21 0 0 a) : sl c 22 7 0 (cA c 22 7 0) := ⟨cc.2.2.2.2.2.2.2.2.2.2.1 s.1 7 (by decide), rfl⟩
theorem dn21_8 {g : Nat → Nat} {c : cc_C} {L : List Nat} {h : ab_H} {a : Nat} (cc : CC g c L h) (s : sl c 21 0 0 a) : sl c 22 8 0 (cA c 22 8 0) := ⟨cc.2.2.2.2.2.2.2.2.2.2.1 s.1 8 (by decide), rfl⟩
theorem dn21_9 {g : Nat → Nat} {c : cc_C} {L : List Nat} {h : ab_H} {a : Nat} (cc : CC g c L h) (s : sl c 21 0 0 a) : sl c 22 9 0 (cA c 22 9 0) := ⟨cc.2.2.2.2.2.2.2.2.2.2.1 s.1 9 (by decide), rfl⟩
theorem dn21_10 {g : Nat → Nat} {c : cc_C} {L : List Nat} {h : ab_H} {a : Nat} (cc : CC g c L h) (s : sl c 21 0 0 a) : sl c 22 10 0 (cA c 22 10 0) := ⟨cc.2.2.2.2.2.2.2.2.2.2.1 s.1 10 (by decide), rfl⟩
theorem dn21_11 {g : Nat → Nat} {c : cc_C} {L : List Nat} {h : ab_H} {a : Nat} (cc : CC g c L h) (s : sl c 21 0 0 a) : sl c 22 11 0 (cA c 22 11 0) := ⟨cc.2.2.2.2.2.2.2.2.2.2.1 s.1 11 (by decide), rfl⟩
theorem dn21_12 {g : Nat → Nat} {c : cc_C} {L : List Nat} {h : ab_H} {a : Nat} (cc : CC g c L h) (s : sl c 21 0 0 a) : sl c 22 12 0 (cA c 22 12 0) := ⟨cc.2.2.2.2.2.2.2.2.2.2.1 s.1 12 (by decide), rfl⟩
theorem dn21_13 {g : Nat → Nat} {c : cc_C} {L : List Nat} {h : ab_H} {a : Nat} (cc : CC g c L h) (s : sl c 21 0 0 a) : sl c 22 13 0 (cA c 22 13 0) := ⟨cc.2.2.2.2.2.2.2.2.2.2.1 s.1 13 (by decide), rfl⟩
theorem dn21_14 {g : Nat → Nat} {c : cc_C} {L : List Nat} {h : ab_H} {a : Nat} (cc : CC g c L h) (s : sl c 21 0 0 a) : sl c 22 14 0 (cA c 22 14 0) := ⟨cc.2.2.2.2.2.2.2.2.2.2.1 s.1 14 (by decide), rfl⟩
theorem dn21_15 {g : Nat → Nat} {c : cc_C} {L : List Nat} {h : ab_H} {a : Nat} (cc : CC g c L h) (s : sl c 21 0 0 a) : sl c 22 15 0 (cA c 22 15 0) := ⟨cc.2.2.2.2.2.2.2.2.2.2.1 s.1 15 (by decide), rfl⟩
theorem dn21_16 {g : Nat → Nat} {c : cc_C} {L : List Nat} {h : ab_H} {a : Nat} (cc : CC g c L h) (s : sl c 21 0 0 a) : sl c 22 16 0 (cA c 22 16 0) := ⟨cc.2.2.2.2.2.2.2.2.2.2.1 s.1 16 (by decide), rfl⟩
theorem dn21_17 {g : Nat → Nat} {c : cc_C} {L : List Nat} {h : ab_H} {a : Nat} (cc : CC g c L h) (s : sl c 21 0 0 a) : sl c 22 17 0 (cA c 22 17 0) := ⟨cc.2.2.2.2.2.2.2.2.2.2.1 s.1 17 (by decide), rfl⟩
theorem dn21_18 {g : Nat → Nat} {c : cc_C} {L : List Nat} {h : ab_H} {a : Nat} (cc : CC g c L h) (s : sl c 21 0 0 a) : sl c 22 18 0 (cA c 22 18 0) := ⟨cc.2.2.2.2.2.2.2.2.2.2.1 s.1 18 (by decide), rfl⟩
theorem dn21_19 {g : Nat → Nat} {c : cc_C} {L : List Nat} {h : ab_H} {a : Nat} (cc : CC g c L h) (s : sl c 21 0 0 a) : sl c 22 19 0 (cA c 22 19 0) := ⟨cc.2.2.2.2.2.2.2.2.2.2.1 s.1 19 (by decide), rfl⟩
theorem dn21_20 {g : Nat → Nat} {c : cc_C} {L : List Nat} {h : ab_H} {a : Nat} (cc : CC g c L h) (s : sl c 21 0 0 a) : sl c 22 20 0 (cA c 22 20 0) := ⟨cc.2.2.2.2.2.2.2.2.2.2.1 s.1 20 (by decide), rfl⟩
theorem dn21_21 {g : Nat → Nat} {c : cc_C} {L : List Nat} {h : ab_H} {a : Nat} (cc : CC g c L h) (s : sl c 21 0 0 a) : sl c 22 21 0 (cA c 22 21 0) := ⟨cc.2.2.2.2.2.2.2.2.2.2.1 s.1 21 (by decide), rfl⟩
theorem dn21_22 {g : Nat → Nat} {c : cc_C} {L : List Nat} {h : ab_H} {a : Nat} (cc : CC g c L h) (s : sl c 21 0 0 a) : sl c 22 22 0 (cA c 22 22 0) := ⟨cc.2.2.2.2.2.2.2.2.2.2.1 s.1 22 (by decide), rfl⟩
theorem dn21_23 {g : Nat → Nat} {c : cc_C} {L : List Nat} {h : ab_H} {a : Nat} (cc : CC g c L h) (s : sl c 21 0 0 a) : sl c 22 23 0 (cA c 22 23 0) := ⟨cc.2.2.2.2.2.2.2.2.2.2.1 s.1 23 (by decide), rfl⟩
theorem dn21_24 {g : Nat → Nat} {c : cc_C} {L : List Nat} {h : ab_H} {a : Nat} (cc : CC g c L h) (s : sl c 21 0 0 a) : sl c 22 24 0 (cA c 22 24 0) := ⟨cc.2.2.2.2.2.2.2.2.2.2.1 s.1 24 (by decide), rfl⟩
theorem dn21_25 {g : Nat → Nat} {c : cc_C} {L : List Nat} {h : ab_H} {a : Nat} (cc : CC g c L h) (s : sl c 21 0 0 a) : sl c 22 25 0 (cA c 22 25 0) := ⟨cc.2.2.2.2.2.2.2.2.2.2.1 s.1 25 (by decide), rfl⟩
theorem dn21_26 {g : Nat → Nat} {c : cc_C} {L : List Nat} {h : ab_H} {a : Nat} (cc : CC g c L h) (s : sl c 21 0 0 a) : sl c 22 26 0 (cA c 22 26 0) := ⟨cc.2.2.2.2.2.2.2.2.2.2.1 s.1 26 (by decide), rfl⟩
theorem dn21_27 {g : Nat → Nat} {c : cc_C} {L : List Nat} {h : ab_H} {a : Nat} (cc : CC g c L h) (s : sl c 21 0 0 a) : sl c 22 27 0 (cA c 22 27 0) := ⟨cc.2.2.2.2.2.2.2.2.2.2.1 s.1 27 (by decide), rfl⟩
theorem dn3_6 {g : Nat → Nat} {c : cc_C} {L : List Nat} {h : ab_H} {i a : Nat} (cc : CC g c L h) (s : sl c 3 i 0 a) (hn : ¬ cS c 126 i 0 = 0) : sl c 15 (cN c 126 i - 1) 0 (cA c 15 (cN c 126 i - 1) 0) := ⟨(cc.2.2.2.2.1 i s.1).2.2.2 hn, rfl⟩
theorem cw_set {c : cc_C} {f i j : Nat} {x : Int32} (hw : cw c) (h1 : 126 ≠ f) (h2 : 42 ≠ f) (h3 : 80 ≠ f) : cw (cset c f i j x) := by
  obtain ⟨a1, a2, a3, a4, a5, a6, a7, a8, a9, a11, a10⟩ := hw
  have e1 : ∀ i', cS (cset c f i j x) 126 i' 0 = cS c 126 i' 0 := fun i' => up3_f h1
  have e2 : ∀ i', cS (cset c f i j x) 42 i' 0 = cS c 42 i' 0 := fun i' => up3_f h2
  have e3 : ∀ i', cS (cset c f i j x) 80 i' 0 = cS c 80 i' 0 := fun i' => up3_f h3
  refine ⟨a1, a2, fun i' hv => ?_, a4, a5, a6, a7, a8, a9, a11, fun i' hv => ?_⟩
  · have := a3 i' hv
    unfold cN at this ⊢
    rw [e1]
    exact this
  · have := a10 i' hv
    unfold cN at this ⊢
    rw [e2, e3]
    exact this
theorem cw_pset {c : cc_C} {i j : Nat} {x : Int64} (hw : cw c) : cw (cpset c i j x) := hw
theorem cw_dset {c : cc_C} {i : Nat} {x : UInt64} (hw : cw c) : cw (cdset c i x) := hw

/-- the codes that a kind's contents look at -/
def sees (k f : Nat) : Bool := match k with
  | 0 => false
  | 1 => Nat.beq f 40 || Nat.beq f 42 || Nat.beq f 80
  | 2 => Nat.beq f 80 || Nat.beq f 42
  | 3 => Nat.beq f 120 || Nat.beq f 124 || Nat.beq f 125 || Nat.beq f 126
  | 6 => Nat.beq f 240 || Nat.beq f 241 || Nat.beq f 242 || Nat.beq f 243
  | 7 => Nat.beq f 283 || Nat.beq f 284 || Nat.beq f 286
  | 8 => Nat.beq f 320
  | 9 => Nat.beq f 360
  | 10 => Nat.beq f 400
  | 11 => false
  | 12 => Nat.beq f 120 || Nat.beq f 480
  | 13 => Nat.beq f 120 || Nat.beq f 520
  | 14 => Nat.beq f 560 || Nat.beq f 561 || Nat.beq f 562 || Nat.beq f 563 || Nat.beq f 564 || Nat.beq f 565
  | 15 => Nat.beq f 600 || Nat.beq f 601
  | 16 => Nat.beq f 640 || Nat.beq f 641
  | 17 => Nat.beq f 680
  | 18 => false
  | 19 => Nat.beq f 720 || Nat.beq f 760
  | 21 => Nat.beq f 869 || Nat.beq f 870 || Nat.beq f 871 || Nat.beq f 872 || Nat.beq f 873 || Nat.beq f 874 || Nat.beq f 875
  | 22 => Nat.beq f 880
  | 23 => false
  | 24 => false
  | 25 => Nat.beq f 1000 || Nat.beq f 1001
  | _ => false
theorem ct_blind {g : Nat → Nat} {c : cc_C} {f i j : Nat} {x : Int32} {k : Nat} (hs : sees k f = false) (i' j' : Nat) : ct g (cset c f i j x) k i' j' = ct g c k i' j' := by
  have ef : ∀ f' i'', f' ≠ f → cS (cset c f i j x) f' i'' = cS c f' i'' := fun f' i'' h => funext fun e => up3_f h
  have ne : ∀ a b : Nat, Nat.beq a b = false → b ≠ a := fun a b h e => by rw [e, Nat.beq_refl] at h; cases h
  unfold ct
  unfold sees at hs
  split
  · rfl
  · simp only [Bool.or_eq_false_iff] at hs
    unfold ct1 dat cN
    rw [ef 40 _ (ne _ _ hs.1.1), ef 42 _ (ne _ _ hs.1.2), ef 80 _ (ne _ _ hs.2)] <;> rfl
  · simp only [Bool.or_eq_false_iff] at hs
    unfold ct2 els cN
    rw [ef 80 _ (ne _ _ hs.1), ef 42 _ (ne _ _ hs.2)] <;> rfl
  · simp only [Bool.or_eq_false_iff] at hs
    unfold ct3 ivo cN
    rw [ef 120 _ (ne _ _ hs.1.1.1), ef 124 _ (ne _ _ hs.1.1.2), ef 125 _ (ne _ _ hs.1.2), ef 126 _ (ne _ _ hs.2)] <;> rfl
  · simp only [Bool.or_eq_false_iff] at hs
    unfold ct6
    rw [ef 240 _ (ne _ _ hs.1.1.1), ef 241 _ (ne _ _ hs.1.1.2), ef 242 _ (ne _ _ hs.1.2), ef 243 _ (ne _ _ hs.2)] <;> rfl
  · simp only [Bool.or_eq_false_iff] at hs
    unfold ct7
    rw [ef 283 _ (ne _ _ hs.1.1), ef 284 _ (ne _ _ hs.1.2), ef 286 _ (ne _ _ hs.2)] <;> rfl
  · skip
    unfold ct8
    rw [ef 320 _ (ne _ _ hs)] <;> rfl
  · skip
    unfold ct9
    rw [ef 360 _ (ne _ _ hs)] <;> rfl
  · skip
    unfold ct10
    rw [ef 400 _ (ne _ _ hs)] <;> rfl
  · rfl
  · simp only [Bool.or_eq_false_iff] at hs
    unfold ct12 cN
    rw [ef 120 _ (ne _ _ hs.1), ef 480 _ (ne _ _ hs.2)] <;> rfl
  · simp only [Bool.or_eq_false_iff] at hs
    unfold ct13 cN
    rw [ef 120 _ (ne _ _ hs.1), ef 520 _ (ne _ _ hs.2)] <;> rfl
  · simp only [Bool.or_eq_false_iff] at hs
    unfold ct14
    rw [ef 560 _ (ne _ _ hs.1.1.1.1.1), ef 561 _ (ne _ _ hs.1.1.1.1.2), ef 562 _ (ne _ _ hs.1.1.1.2), ef 563 _ (ne _ _ hs.1.1.2), ef 564 _ (ne _ _ hs.1.2), ef 565 _ (ne _ _ hs.2)] <;> rfl
  · simp only [Bool.or_eq_false_iff] at hs
    unfold ct15
    rw [ef 600 _ (ne _ _ hs.1), ef 601 _ (ne _ _ hs.2)] <;> rfl
  · simp only [Bool.or_eq_false_iff] at hs
    unfold ct16
    rw [ef 640 _ (ne _ _ hs.1), ef 641 _ (ne _ _ hs.2)] <;> rfl
  · skip
    unfold ct17
    rw [ef 680 _ (ne _ _ hs)] <;> rfl
  · rfl
  · simp only [Bool.or_eq_false_iff] at hs
    unfold ct19 cN
    rw [ef 720 _ (ne _ _ hs.1), ef 760 _ (ne _ _ hs.2)] <;> rfl
  · simp only [Bool.or_eq_false_iff] at hs
    unfold ct21
    rw [ef 869 _ (ne _ _ hs.1.1.1.1.1.1), ef 870 _ (ne _ _ hs.1.1.1.1.1.2), ef 871 _ (ne _ _ hs.1.1.1.1.2), ef 872 _ (ne _ _ hs.1.1.1.2), ef 873 _ (ne _ _ hs.1.1.2), ef 874 _ (ne _ _ hs.1.2), ef 875 _ (ne _ _ hs.2)] <;> rfl
  · skip
    unfold ct22
    rw [ef 880 _ (ne _ _ hs)] <;> rfl
  · rfl
  · rfl
  · simp only [Bool.or_eq_false_iff] at hs
    unfold ct25 cN
    rw [ef 1000 _ (ne _ _ hs.1), ef 1001 _ (ne _ _ hs.2)] <;> rfl
  · rfl
