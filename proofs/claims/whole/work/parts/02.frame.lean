/-! an abstract machine over the kit's rows: states are locals, stack, live addresses, heap, room; an instruction is a transformer of what is to hold behind it -/
abbrev ab_E : Type := (Nat × vp_A) ⊕ (Nat × List Value)
abbrev ab_H : Type := Nat → ab_E
abbrev ab_K : Type := Nat → List (Option Value) → List Value → List Nat → ab_H → Nat → Nat → Prop
abbrev ab_KL : Type := List (Option Value) → List Value → List Nat → ab_H → Nat → Nat → Prop
abbrev ab_I : Type := ab_K → ab_KL
abbrev ab_R : Type := Option Value → List Nat → ab_H → Prop
abbrev ab_XP : Type := String → List Nat → ab_H → Prop
abbrev ab_Wp : Type := List Value → List Nat → ab_H → ab_R → ab_XP → Prop
def ab_le (K P : ab_K) : Prop := ∀ pc ls st L h k n, K pc ls st L h k n → P pc ls st L h k n
def ab_Sn (P : ab_K) (pc : Nat) (i : ab_I) : Prop := ∀ K, ab_le K P → ∀ ls st L h k n, i K ls st L h k n → P pc ls st L h k n
def ab_Ev (tab : Nat → ab_I) : ab_K := fun pc ls st L h k n => ∀ P : ab_K, (∀ pc, ab_Sn P pc (tab pc)) → P pc ls st L h k n
def ab_run (tab : Nat → ab_I) : Nat → ab_K
  | 0 => ab_Ev tab
  | j + 1 => fun pc ls st L h k n => tab pc (ab_run tab j) ls st L h k n
theorem ab_runs {tab : Nat → ab_I} : ∀ (j : Nat) {pc : Nat} {ls : List (Option Value)} {st : List Value} {L : List Nat} {h : ab_H} {k n : Nat}, ab_run tab j pc ls st L h k n → ab_Ev tab pc ls st L h k n
  | 0, _, _, _, _, _, _, _, H => H
  | j + 1, _, _, _, _, _, _, _, H => fun P hP => hP _ (ab_run tab j) (fun _ _ _ _ _ _ _ h => ab_runs j h P hP) _ _ _ _ _ _ H
/-! tables by program counters -/
def ab_bad : ab_I := fun _ _ _ _ _ _ _ => False
def ab_tn (n : Nat) (a b : Nat → ab_I) : Nat → ab_I := fun pc => cond (Nat.ble n pc) (b pc) (a pc)
def ab_tl (n : Nat) (i : ab_I) : Nat → ab_I := fun pc => cond (Nat.beq pc n) i ab_bad
theorem ab_tn_ok {P : ab_K} {n : Nat} {a b : Nat → ab_I} (ha : ∀ pc, ab_Sn P pc (a pc)) (hb : ∀ pc, ab_Sn P pc (b pc)) : ∀ pc, ab_Sn P pc (ab_tn n a b pc) := by
  intro pc
  unfold ab_tn
  cases Nat.ble n pc
  · exact ha pc
  · exact hb pc
theorem ab_tl_ok {P : ab_K} {n : Nat} {i : ab_I} (h : ab_Sn P n i) : ∀ pc, ab_Sn P pc (ab_tl n i pc) := by
  intro pc
  unfold ab_tl
  cases hc : Nat.beq pc n with
  | true =>
    have e := Nat.eq_of_beq_eq_true hc
    subst e
    exact h
  | false => exact fun _ _ _ _ _ _ _ _ q => q.elim
/-! locals -/
def ab_get : List (Option Value) → Nat → Option Value
  | [], _ => none
  | v :: _, 0 => v
  | _ :: r, j + 1 => ab_get r j
def ab_set : List (Option Value) → Nat → Option Value → List (Option Value)
  | [], _, _ => []
  | _ :: r, 0, v => v :: r
  | w :: r, j + 1, v => w :: ab_set r j v
def ab_ok1 (ls : List (Option Value)) (i : Nat) : Bool := match i with
  | 0 => true
  | j + 1 => match ab_get ls j with
    | some w => Nat.beq w.category 1
    | none => true
def ab_lv : Nat → List (Option Value) → List (Nat × Value)
  | _, [] => []
  | i, none :: r => ab_lv (i + 1) r
  | i, some v :: r => (i, v) :: ab_lv (i + 1) r
def ab_loc (nL : Nat) (as : List Value) : List (Option Value) := as.map some ++ List.replicate (nL - as.length) none
theorem ab_lv_mem : ∀ (ls : List (Option Value)) (i j : Nat) (v : Value), (j, v) ∈ ab_lv i ls ↔ ∃ d, j = i + d ∧ ab_get ls d = some v
  | [], i, j, v => by
    constructor
    · intro h; cases h
    · rintro ⟨d, -, h⟩; cases h
  | none :: r, i, j, v => by
    rw [show ab_lv i (none :: r) = ab_lv (i + 1) r from rfl, ab_lv_mem r (i + 1) j v]
    constructor
    · rintro ⟨d, e, h⟩; exact ⟨d + 1, by omega, h⟩
    · rintro ⟨d, e, h⟩
      cases d with
      | zero => cases h
      | succ d => exact ⟨d, by omega, h⟩
  | some w :: r, i, j, v => by
    rw [show ab_lv i (some w :: r) = (i, w) :: ab_lv (i + 1) r from rfl, List.mem_cons, ab_lv_mem r (i + 1) j v]
    constructor
    · rintro (h | ⟨d, e, h⟩)
      · cases h; exact ⟨0, rfl, rfl⟩
      · exact ⟨d + 1, by omega, h⟩
    · rintro ⟨d, e, h⟩
      cases d with
      | zero => cases h; exact Or.inl (by rw [e]; rfl)
      | succ d => exact Or.inr ⟨d, by omega, h⟩
theorem ab_get_set : ∀ (ls : List (Option Value)) (i j : Nat) (v : Option Value), ab_get (ab_set ls i v) j = ab_get ls j ∨ (j = i ∧ ab_get (ab_set ls i v) j = v)
  | [], _, _, _ => Or.inl rfl
  | _ :: _, 0, 0, _ => Or.inr ⟨rfl, rfl⟩
  | _ :: _, 0, _ + 1, _ => Or.inl rfl
  | _ :: _, _ + 1, 0, _ => Or.inl rfl
  | _ :: r, i + 1, j + 1, v => by
    rcases ab_get_set r i j v with h | ⟨h1, h2⟩
    · exact Or.inl h
    · exact Or.inr ⟨by rw [h1], h2⟩
theorem ab_get_set_self : ∀ (ls : List (Option Value)) (i : Nat) (v : Option Value), ab_get (ab_set ls i v) i = v ∨ ab_get (ab_set ls i v) i = none
  | [], _, _ => Or.inr rfl
  | _ :: _, 0, _ => Or.inl rfl
  | _ :: r, i + 1, v => ab_get_set_self r i v
theorem ab_get_set_ne : ∀ (ls : List (Option Value)) (i j : Nat) (v : Option Value), j ≠ i → ab_get (ab_set ls i v) j = ab_get ls j := fun ls i j v hne => by
  rcases ab_get_set ls i j v with h | ⟨h1, -⟩
  · exact h
  · exact absurd h1 hne
theorem ab_has_at {la : Array Slot} {nL : Nat} {ls : List (Option Value)} (hl : lv_has la nL (ab_lv 0 ls)) {i : Nat} {v : Value} (h : ab_get ls i = some v) : la[i]? = some (.val v) := hl.2.2 (i, v) ((ab_lv_mem ls 0 i v).mpr ⟨i, by omega, h⟩)
theorem ab_has_mono {la : Array Slot} {nL : Nat} {l l' : List (Nat × Value)} (h : lv_has la nL l) (hs : ∀ q ∈ l', q ∈ l) : lv_has la nL l' := ⟨h.1, h.2.1, fun q hq => h.2.2 q (hs q hq)⟩
theorem ab_cat1 {ls : List (Option Value)} {i j : Nat} {w : Value} (ho : ab_ok1 ls i = true) (hj : j + 1 = i) (hw : ab_get ls j = some w) : w.category = 1 := by
  subst hj
  have h2 : (match ab_get ls j with | some w => Nat.beq w.category 1 | none => true) = true := ho
  rw [hw] at h2
  exact Nat.eq_of_beq_eq_true h2
theorem ab_st1 {ls : List (Option Value)} {i : Nat} {v : Value} (ho : ab_ok1 ls i = true) : ∀ q ∈ ab_lv 0 (ab_set ls i (some v)), q ∈ (i, v) :: (ab_lv 0 ls).filter (fun q => !(q.1 == i) && !(q.1 + 1 == i && q.2.category == 2)) := by
  rintro ⟨j, w⟩ hq
  obtain ⟨d, e, h⟩ := (ab_lv_mem _ 0 j w).mp hq
  have ed : j = d := by omega
  subst ed
  by_cases hji : j = i
  · subst hji
    rcases ab_get_set_self ls j (some v) with h2 | h2
    · rw [h2] at h; cases h; exact List.mem_cons_self
    · rw [h2] at h; cases h
  · rw [ab_get_set_ne ls i j (some v) hji] at h
    refine List.mem_cons_of_mem _ (List.mem_filter.mpr ⟨(ab_lv_mem ls 0 j w).mpr ⟨j, by omega, h⟩, ?_⟩)
    by_cases hj1 : j + 1 = i
    · have hc := ab_cat1 ho hj1 h
      simp [hji, hc]
    · simp [hji, hj1]
theorem ab_st2 {ls : List (Option Value)} {i : Nat} {v : Value} (ho : ab_ok1 ls i = true) : ∀ q ∈ ab_lv 0 (ab_set (ab_set ls i (some v)) (i + 1) none), q ∈ (i, v) :: (ab_lv 0 ls).filter (fun q => !(q.1 == i) && (!(q.1 == i + 1) && !(q.1 + 1 == i && q.2.category == 2))) := by
  rintro ⟨j, w⟩ hq
  obtain ⟨d, e, h⟩ := (ab_lv_mem _ 0 j w).mp hq
  have ed : j = d := by omega
  subst ed
  by_cases hj2 : j = i + 1
  · subst hj2
    rcases ab_get_set_self (ab_set ls i (some v)) (i + 1) none with h2 | h2
    · rw [h2] at h; cases h
    · rw [h2] at h; cases h
  · rw [ab_get_set_ne _ (i + 1) j none hj2] at h
    by_cases hji : j = i
    · subst hji
      rcases ab_get_set_self ls j (some v) with h2 | h2
      · rw [h2] at h; cases h; exact List.mem_cons_self
      · rw [h2] at h; cases h
    · rw [ab_get_set_ne ls i j (some v) hji] at h
      refine List.mem_cons_of_mem _ (List.mem_filter.mpr ⟨(ab_lv_mem ls 0 j w).mpr ⟨j, by omega, h⟩, ?_⟩)
      by_cases hj1 : j + 1 = i
      · have hc := ab_cat1 ho hj1 h
        simp [hji, hj2, hc]
      · simp [hji, hj2, hj1]
/-! worlds -/
def ab_toE (C : Nat → ClassId) : ab_E → va_E
  | .inl x => .inl (C x.1, x.2)
  | .inr o => .inr o
def ab_ws (C : Nat → ClassId) (L : List Nat) (h : ab_H) : va_W := va_pl L (fun a => ab_toE C (h a))
def ab_tys (C : Nat → ClassId) : List (ClassId × FieldType) := [(C 0, .int), (C 1, .boolean), (C 2, .long), (C 3, .double), (C 4, .object "java/lang/Object")]
def ab_Wd (D : va_G) (C : Nat → ClassId) (A : Nat → Prop) (L : List Nat) (h : ab_H) (H : Heap) : Prop := va_P D vwCl (ab_ws C L h) H ∧ va_D A (ab_ws C L h)
theorem ab_ws_get (C : Nat → ClassId) {L : List Nat} (h : ab_H) {a : Nat} (ha : a ∈ L) : ∃ k : Nat, (ab_ws C L h)[k]? = some (a, ab_toE C (h a)) := va_pl_get (X := []) (f := fun a => ab_toE C (h a)) ha
theorem ab_pl_congr {L : List Nat} {f g : Nat → va_E} (h : ∀ b, f b = g b) : va_pl L f = va_pl L g := by
  have : f = g := funext h
  rw [this]
theorem ab_ws_set {C : Nat → ClassId} {A : Nat → Prop} {L : List Nat} {h : ab_H} {a k : Nat} {e : ab_E} (hD : va_D A (ab_ws C L h)) (ha : a ∈ L) (hk : (ab_ws C L h)[k]? = some (a, ab_toE C (h a))) : (ab_ws C L h).set k (a, ab_toE C e) = ab_ws C L (va_up h a e) := by
  have h1 := va_pl_set (X := []) (f := fun a => ab_toE C (h a)) (e := ab_toE C e) hD ha hk
  refine h1.trans (ab_pl_congr fun b => ?_)
  unfold va_up
  by_cases hb : b = a
  · simp [hb]
  · simp [hb]
theorem ab_ws_push {C : Nat → ClassId} {L : List Nat} {h : ab_H} {a : Nat} {e : ab_E} (ha : a ∉ L) : ab_ws C L h ++ [(a, ab_toE C e)] = ab_ws C (L ++ [a]) (va_up h a e) := by
  refine (va_pl_push (f := fun a => ab_toE C (h a)) (e := ab_toE C e) ha).trans (ab_pl_congr fun b => ?_)
  unfold va_up
  by_cases hb : b = a
  · simp [hb]
  · simp [hb]
theorem ab_fresh {D : va_G} {C : Nat → ClassId} {A : Nat → Prop} {L : List Nat} {h : ab_H} {a : Nat} {e : va_E} (hD : va_D A (ab_ws C L h ++ [(a, e)])) : a ∉ L := by
  intro ha
  obtain ⟨k, hk⟩ := ab_ws_get C h ha
  have hl := (List.getElem?_eq_some_iff.mp hk).1
  have h1 : (ab_ws C L h ++ [(a, e)])[k]? = some (a, ab_toE C (h a)) := by rw [List.getElem?_append_left hl]; exact hk
  have h2 : (ab_ws C L h ++ [(a, e)])[(ab_ws C L h).length]? = some (a, e) := by rw [List.getElem?_append_right (Nat.le_refl _), Nat.sub_self]; rfl
  have := hD.1 _ _ _ _ h1 h2 rfl
  omega
