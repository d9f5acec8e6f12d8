/-! an abstract machine over the kit's rows: states are locals, stack, live addresses, heap, room; an instruction is a transformer of what is to hold behind it -/
abbrev ab_E : Type := (Nat × vp_A) ⊕ (Nat × List Value)
abbrev ab_H : Type := Nat → ab_E
abbrev ab_K : Type := Nat → List (Option Value) → List Value → List Nat → ab_H → Nat → Nat → Prop
abbrev ab_KL : Type := List (Option Value) → List Value → List Nat → ab_H → Nat → Nat → Prop
abbrev ab_I : Type := ab_K → ab_KL
abbrev ab_R : Type := Option Value → List Nat → ab_H → Prop
abbrev ab_XP : Type := String → List Nat → ab_H → Prop
abbrev ab_Wp : Type := List Value → List Nat → ab_H → ab_R → ab_XP → Prop
def ab_le (K P : ab_K) : Prop := ∀ pc ls st L h k n, K pc ls st L h k n → P pc ls st L h k n
def ab_Sn (P : ab_K) (pc : Nat) (i : ab_I) : Prop := ∀ K, ab_le K P → ∀ ls st L h k n, i K ls st L h k n → P pc ls st L h k n
def ab_Ev (tab : Nat → ab_I) : ab_K := fun pc ls st L h k n => ∀ P : ab_K, (∀ pc, ab_Sn P pc (tab pc)) → P pc ls st L h k n
def ab_run (tab : Nat → ab_I) : Nat → ab_K
  | 0 => ab_Ev tab
  | j + 1 => fun pc ls st L h k n => tab pc (ab_run tab j) ls st L h k n
theorem ab_runs {tab : Nat → ab_I} : ∀ (j : Nat) {pc : Nat} {ls : List (Option Value)} {st : List Value} {L : List Nat} {h : ab_H} {k n : Nat}, ab_run tab j pc ls st L h k n → ab_Ev tab pc ls st L h k n
  | 0, _, _, _, _, _, _, _, H => H
  | j + 1, _, _, _, _, _, _, _, H => fun P hP => hP _ (ab_run tab j) (fun _ _ _ _ _ _ _ h => ab_runs j h P hP) _ _ _ _ _ _ H
/-! tables by program counters -/
def ab_bad : ab_I := fun _ _ _ _ _ _ _ => False
def ab_tn (n : Nat) (a b : Nat → ab_I) : Nat → ab_I := fun pc => cond (Nat.ble n pc) (b pc) (a pc)
def ab_tl (n : Nat) (i : ab_I) : Nat → ab_I := fun pc => cond (Nat.beq pc n) i ab_bad
theorem ab_tn_ok {P : ab_K} {n : Nat} {a b : Nat → ab_I} (ha : ∀ pc, ab_Sn P pc (a pc)) (hb : ∀ pc, ab_Sn P pc (b pc)) : ∀ pc, ab_Sn P pc (ab_tn n a b pc) := by
  intro pc
  unfold ab_tn
  cases Nat.ble n pc
  · exact ha pc
  · exact hb pc
theorem ab_tl_ok {P : ab_K} {n : Nat} {i : ab_I} (h : ab_Sn P n i) : ∀ pc, ab_Sn P pc (ab_tl n i pc) := by
  intro pc
  unfold ab_tl
  cases hc : Nat.beq pc n with
  | true =>
    have e := Nat.eq_of_beq_eq_true hc
    subst e
    exact h
  | false => exact fun _ _ _ _ _ _ _ _ q => q.elim
/-! locals -/
def ab_get : List (Option Value) → Nat → Option Value
  | [], _ => none
  | v :: _, 0 => v
  | _ :: r, j + 1 => ab_get r j
def ab_set : List (Option Value) → Nat → Option Value → List (Option Value)
  | [], _, _ => []
  | _ :: r, 0, v => v :: r
  | w :: r, j + 1, v => w :: ab_set r j v
def ab_ok1 (ls : List (Option Value)) (i : Nat) : Bool := match i with
  | 0 => true
  | j + 1 => match ab_get ls j with
    | some w => Nat.beq w.category 1
    | none => true
def ab_lv : Nat → List (Option Value) → List (Nat × Value)
  | _, [] => []
  | i, none :: r => ab_lv (i + 1) r
  | i, some v :: r => (i, v) :: ab_lv (i + 1) r
def ab_loc (nL : Nat) (as : List Value) : List (Option Value) := as.map some ++ List.replicate (nL - as.length) none
theorem ab_lv_mem : ∀ (ls : List (Option Value)) (i j : Nat) (v : Value), (j, v) ∈ ab_lv i ls ↔ ∃ d, j = i + d ∧ ab_get ls d = some v
  | [], i, j, v => by
    constructor
    · intro h; cases h
    · rintro ⟨d, -, h⟩; cases h
  | none :: r, i, j, v => by
    rw [show ab_lv i (none :: r) = ab_lv (i + 1) r from rfl, ab_lv_mem r (i + 1) j v]
    constructor
    · rintro ⟨d, e, h⟩; exact ⟨d + 1, by omega, h⟩
    · rintro ⟨d, e, h⟩
      cases d with
      | zero => cases h
      | succ d => exact ⟨d, by omega, h⟩
  | some w :: r, i, j, v => by
    rw [show ab_lv i (some w :: r) = (i, w) :: ab_lv (i + 1) r from rfl, List.mem_cons, ab_lv_mem r (i + 1) j v]
    constructor
    · rintro (h | ⟨d, e, h⟩)
      · cases h; exact ⟨0, rfl, rfl⟩
      · exact ⟨d + 1, by omega, h⟩
    · rintro ⟨d, e, h⟩
      cases d with
      | zero => cases h; exact Or.inl (by rw [e]; rfl)
      | succ d => exact Or.inr ⟨d, by omega, h⟩
theorem ab_get_set : ∀ (ls : List (Option Value)) (i j : Nat) (v : Option Value), ab_get (ab_set ls i v) j = ab_get ls j ∨ (j = i ∧ ab_get (ab_set ls i v) j = v)
  | [], _, _, _ => Or.inl rfl
  | _ :: _, 0, 0, _ => Or.inr ⟨rfl, rfl⟩
  | _ :: _, 0, _ + 1, _ => Or.inl rfl
  | _ :: _, _ + 1, 0, _ => Or.inl rfl
  | _ :: r, i + 1, j + 1, v => by
    rcases ab_get_set r i j v with h | ⟨h1, h2⟩
    · exact Or.inl h
    · exact Or.inr ⟨by rw [h1], h2⟩
theorem ab_get_set_self : ∀ (ls : List (Option Value)) (i : Nat) (v : Option Value), ab_get (ab_set ls i v) i = v ∨ ab_get (ab_set ls i v) i = none
  | [], _, _ => Or.inr rfl
  | _ :: _, 0, _ => Or.inl rfl
  | _ :: r, i + 1, v => ab_get_set_self r i v
theorem ab_get_set_ne : ∀ (ls : List (Option Value)) (i j : Nat) (v : Option Value), j ≠ i → ab_get (ab_set ls i v) j = ab_get ls j := fun ls i j v hne => by
  rcases ab_get_set ls i j v with h | ⟨h1, -⟩
  · exact h
  · exact absurd h1 hne
theorem ab_has_at {la : Array Slot} {nL : Nat} {ls : List (Option Value)} (hl : lv_has la nL (ab_lv 0 ls)) {i : Nat} {v : Value} (h : ab_get ls i = some v) : la[i]? = some (.val v) := hl.2.2 (i, v) ((ab_lv_mem ls 0 i v).mpr ⟨i, by omega, h⟩)
theorem ab_has_mono {la : Array Slot} {nL : Nat} {l l' : List (Nat × Value)} (h : lv_has la nL l) (hs : ∀ q ∈ l', q ∈ l) : lv_has la nL l' := ⟨h.1, h.2.1, fun q hq => h.2.2 q (hs q hq)⟩
theorem ab_cat1 {ls : List (Option Value)} {i j : Nat} {w : Value} (ho : ab_ok1 ls i = true) (hj : j + 1 = i) (hw : ab_get ls j = some w) : w.category = 1 := by
  subst hj
  have h2 : (match ab_get ls j with | some w => Nat.beq w.category 1 | none => true) = true := ho
  rw [hw] at h2
  exact Nat.eq_of_beq_eq_true h2
theorem ab_st1 {ls : List (Option Value)} {i : Nat} {v : Value} (ho : ab_ok1 ls i = true) : ∀ q ∈ ab_lv 0 (ab_set ls i (some v)), q ∈ (i, v) :: (ab_lv 0 ls).filter (fun q => !(q.1 == i) && !(q.1 + 1 == i && q.2.category == 2)) := by
  rintro ⟨j, w⟩ hq
  obtain ⟨d, e, h⟩ := (ab_lv_mem _ 0 j w).mp hq
  have ed : j = d := by omega
  subst ed
  by_cases hji : j = i
  · subst hji
    rcases ab_get_set_self ls j (some v) with h2 | h2
    · rw [h2] at h; cases h; exact List.mem_cons_self
    · rw [h2] at h; cases h
  · rw [ab_get_set_ne ls i j (some v) hji] at h
    refine List.mem_cons_of_mem _ (List.mem_filter.mpr ⟨(ab_lv_mem ls 0 j w).mpr ⟨j, by omega, h⟩, ?_⟩)
    by_cases hj1 : j + 1 = i
    · have hc := ab_cat1 ho hj1 h
      simp [hji, hc]
    · simp [hji, hj1]
theorem ab_st2 {ls : List (Option Value)} {i : Nat} {v : Value} (ho : ab_ok1 ls i = true) : ∀ q ∈ ab_lv 0 (ab_set (ab_set ls i (some v)) (i + 1) none), q ∈ (i, v) :: (ab_lv 0 ls).filter (fun q => !(q.1 == i) && (!(q.1 == i + 1) && !(q.1 + 1 == i && q.2.category == 2))) := by
  rintro ⟨j, w⟩ hq
  obtain ⟨d, e, h⟩ := (ab_lv_mem _ 0 j w).mp hq
  have ed : j = d := by omega
  subst ed
  by_cases hj2 : j = i + 1
  · subst hj2
    rcases ab_get_set_self (ab_set ls i (some v)) (i + 1) none with h2 | h2
    · rw [h2] at h; cases h
    · rw [h2] at h; cases h
  · rw [ab_get_set_ne _ (i + 1) j none hj2] at h
    by_cases hji : j = i
    · subst hji
      rcases ab_get_set_self ls j (some v) with h2 | h2
      · rw [h2] at h; cases h; exact List.mem_cons_self
      · rw [h2] at h; cases h
    · rw [ab_get_set_ne ls i j (some v) hji] at h
      refine List.mem_cons_of_mem _ (List.mem_filter.mpr ⟨(ab_lv_mem ls 0 j w).mpr ⟨j, by omega, h⟩, ?_⟩)
      by_cases hj1 : j + 1 = i
      · have hc := ab_cat1 ho hj1 h
        simp [hji, hj2, hc]
      · simp [hji, hj2, hj1]
/-! worlds -/
def ab_toE (C : Nat → ClassId) : ab_E → va_E
  | .inl x => .inl (C x.1, x.2)
  | .inr o => .inr o
def ab_ws (C : Nat → ClassId) (L : List Nat) (h : ab_H) : va_W := va_pl L (fun a => ab_toE C (h a))
def ab_tys (C : Nat → ClassId) : List (ClassId × FieldType) := [(C 0, .int), (C 1, .boolean), (C 2, .int), (C 3, .int), (C 4, .object "java/lang/Object")]
def ab_Wd (D : va_G) (C : Nat → ClassId) (A : Nat → Prop) (L : List Nat) (h : ab_H) (H : Heap) : Prop := va_P D vwCl (ab_ws C L h) H ∧ va_D A (ab_ws C L h)
theorem ab_ws_get (C : Nat → ClassId) {L : List Nat} (h : ab_H) {a : Nat} (ha : a ∈ L) : ∃ k : Nat, (ab_ws C L h)[k]? = some (a, ab_toE C (h a)) := va_pl_get (X := []) (f := fun a => ab_toE C (h a)) ha
theorem ab_pl_congr {L : List Nat} {f g : Nat → va_E} (h : ∀ b, f b = g b) : va_pl L f = va_pl L g := by
  have : f = g := funext h
  rw [this]
theorem ab_ws_set {C : Nat → ClassId} {A : Nat → Prop} {L : List Nat} {h : ab_H} {a k : Nat} {e : ab_E} (hD : va_D A (ab_ws C L h)) (ha : a ∈ L) (hk : (ab_ws C L h)[k]? = some (a, ab_toE C (h a))) : (ab_ws C L h).set k (a, ab_toE C e) = ab_ws C L (va_up h a e) := by
  have h1 := va_pl_set (X := []) (f := fun a => ab_toE C (h a)) (e := ab_toE C e) hD ha hk
  refine h1.trans (ab_pl_congr fun b => ?_)
  unfold va_up
  by_cases hb : b = a
  · simp [hb]
  · simp [hb]
theorem ab_ws_push {C : Nat → ClassId} {L : List Nat} {h : ab_H} {a : Nat} {e : ab_E} (ha : a ∉ L) : ab_ws C L h ++ [(a, ab_toE C e)] = ab_ws C (L ++ [a]) (va_up h a e) := by
  refine (va_pl_push (f := fun a => ab_toE C (h a)) (e := ab_toE C e) ha).trans (ab_pl_congr fun b => ?_)
  unfold va_up
  by_cases hb : b = a
  · simp [hb]
  · simp [hb]
theorem ab_fresh {D : va_G} {C : Nat → ClassId} {A : Nat → Prop} {L : List Nat} {h : ab_H} {a : Nat} {e : va_E} (hD : va_D A (ab_ws C L h ++ [(a, e)])) : a ∉ L := by
  intro ha
  obtain ⟨k, hk⟩ := ab_ws_get C h ha
  have hl := (List.getElem?_eq_some_iff.mp hk).1
  have h1 : (ab_ws C L h ++ [(a, e)])[k]? = some (a, ab_toE C (h a)) := by rw [List.getElem?_append_left hl]; exact hk
  have h2 : (ab_ws C L h ++ [(a, e)])[(ab_ws C L h).length]? = some (a, e) := by rw [List.getElem?_append_right (Nat.le_refl _), Nat.sub_self]; rfl
  have := hD.1 _ _ _ _ h1 h2 rfl
  omega
/-! the tables: their good words, by one list for all methods; what else is asked of the start -/
def ab_T : List Cond := lw_tbl.filter goodWord
theorem ab_w1 {w : Cond} (i : Nat) (e : tables_1_1[i]? = some w) (gw : goodWord w = true) : w ∈ ab_T := by
  have h : w ∈ tables_1_1 := List.mem_of_getElem? e
  exact List.mem_filter.mpr ⟨List.mem_append_right _ (List.mem_append_left _ h), gw⟩
theorem ab_w2 {w : Cond} (i : Nat) (e : tables_1_2[i]? = some w) (gw : goodWord w = true) : w ∈ ab_T := by
  have h : w ∈ tables_1_2 := List.mem_of_getElem? e
  exact List.mem_filter.mpr ⟨List.mem_append_right _ (List.mem_append_right _ (List.mem_append_left _ h)), gw⟩
theorem ab_w3 {w : Cond} (i : Nat) (e : tables_1_3[i]? = some w) (gw : goodWord w = true) : w ∈ ab_T := by
  have h : w ∈ tables_1_3 := List.mem_of_getElem? e
  exact List.mem_filter.mpr ⟨List.mem_append_right _ (List.mem_append_right _ (List.mem_append_right _ (List.mem_append_left _ h))), gw⟩
theorem ab_w4 {w : Cond} (i : Nat) (e : tables_1_4[i]? = some w) (gw : goodWord w = true) : w ∈ ab_T := by
  have h : w ∈ tables_1_4 := List.mem_of_getElem? e
  exact List.mem_filter.mpr ⟨List.mem_append_right _ (List.mem_append_right _ (List.mem_append_right _ (List.mem_append_right _ (List.mem_append_left _ h)))), gw⟩
theorem ab_w5 {w : Cond} (i : Nat) (e : tables_1_5[i]? = some w) (gw : goodWord w = true) : w ∈ ab_T := by
  have h : w ∈ tables_1_5 := List.mem_of_getElem? e
  exact List.mem_filter.mpr ⟨List.mem_append_right _ (List.mem_append_right _ (List.mem_append_right _ (List.mem_append_right _ (List.mem_append_right _ (List.mem_append_left _ h))))), gw⟩
theorem ab_w6 {w : Cond} (i : Nat) (e : tables_1_6[i]? = some w) (gw : goodWord w = true) : w ∈ ab_T := by
  have h : w ∈ tables_1_6 := List.mem_of_getElem? e
  exact List.mem_filter.mpr ⟨List.mem_append_right _ (List.mem_append_right _ (List.mem_append_right _ (List.mem_append_right _ (List.mem_append_right _ (List.mem_append_right _ (h)))))), gw⟩
theorem ab_w0 {w : Cond} (i : Nat) (e : (k2_sels lw_privs)[i]? = some w) (gw : goodWord w = true) : w ∈ ab_T := List.mem_filter.mpr ⟨List.mem_append_left _ (List.mem_of_getElem? e), gw⟩
theorem ab_GI {ws : List Cond} (h : ∀ w ∈ ws, w ∈ ab_T) : GoodIn ab_T ws := fun w hw => ⟨h w hw, good_of_word (List.mem_filter.mp (h w hw)).2⟩
/-- the texts of exceptions -/
def ab_strs : List (String × Nat × String) := [("RiddlePress", 31, "a riddle has 3 to 6 persons"), ("RiddlePress", 44, "there are 20 riddles"), ("RiddlePress", 297, "no such riddle"), ("RiddlePress", 73, "no such clue"), ("RiddlePress", 87, "the riddle has a proof"), ("RiddlePress", 93, "the riddle has 8 clues"), ("RiddlePress", 111, "no such person"), ("RiddlePress", 116, "there is no answer"), ("RiddlePress", 122, "it is in an issue, or comes back"), ("RiddlePress", 128, "the riddle has no proof"), ("RiddlePress", 136, "no such step"), ("RiddlePress", 299, "no such rule"), ("RiddlePress", 165, "no such own rule can be told"), ("RiddlePress", 167, "there are 6 own rules"), ("RiddlePress", 301, "no such own rule"), ("RiddlePress", 188, "there is no counterexample"), ("RiddlePress", 190, "no counterexample, or it has fallen"), ("RiddlePress", 217, "there are 12 issues"), ("RiddlePress", 303, "no such issue"), ("RiddlePress", 228, "not made up, or not proved whole"), ("RiddlePress", 234, "the issue has 4 riddles"), ("RiddlePress", 240, "a price is 0 to 1000"), ("RiddlePress", 242, "not made up, or without riddles"), ("RiddlePress", 248, "there are 8 customers"), ("RiddlePress", 305, "no such customer"), ("RiddlePress", 258, "a deposit is 1 to 2000000000"), ("RiddlePress", 266, "more than 2147483647 credits"), ("RiddlePress", 269, "1 to 12 issues are subscribed"), ("RiddlePress", 277, "not on sale, had, or too few credits"), ("RiddlePress", 290, "there are no riddles"), ("RiddlePress", 295, "there are no whole proofs")]
/-- the texts that are asked for a sign -/
def ab_objs : List (String × Nat × String) := [("RiddlePress$Clue", 25, "pxbnldm"), ("RiddlePress", 153, "bnlm"), ("RiddlePressLaw", 126, "bnlm"), ("RiddlePressLaw", 137, "abc"), ("RiddlePressLaw", 153, "pxbnldmn"), ("RiddlePressLaw", 216, "owisbh")]
def ab_lens : List Nat := [7, 4, 4, 3, 8, 6]
def ab_byts : List (List Int32) := [[112, 120, 98, 110, 108, 100, 109], [98, 110, 108, 109], [98, 110, 108, 109], [97, 98, 99], [112, 120, 98, 110, 108, 100, 109, 110], [111, 119, 105, 115, 98, 104]]
def ab_casts : List (String × String) := [("java/lang/IllegalArgumentException", "java/lang/IllegalArgumentException"), ("java/lang/IllegalStateException", "java/lang/IllegalStateException"), ("java/lang/IndexOutOfBoundsException", "java/lang/IndexOutOfBoundsException"), ("java/lang/UnsupportedOperationException", "java/lang/UnsupportedOperationException"), ("java/util/NoSuchElementException", "java/util/NoSuchElementException"), ("java/lang/ArithmeticException", "java/lang/ArithmeticException"), ("RiddlePress$Riddle", "java/lang/Object"), ("RiddlePress$Proof", "java/lang/Object"), ("RiddlePress$Places", "java/lang/Object"), ("RiddlePress$Clue", "java/lang/Object"), ("RiddlePress$Order", "java/lang/Object"), ("RiddlePress$OwnRule", "java/lang/Object"), ("RiddlePress$Issue", "java/lang/Object"), ("RiddlePress$Customer", "java/lang/Object")]
def ab_ncasts : List (String × String) := [("java/lang/ArithmeticException", "java/lang/IllegalArgumentException"), ("java/lang/ArithmeticException", "java/lang/IllegalStateException"), ("java/lang/ArithmeticException", "java/lang/IndexOutOfBoundsException"), ("java/lang/ArithmeticException", "java/lang/UnsupportedOperationException"), ("java/lang/ArithmeticException", "java/util/NoSuchElementException"), ("java/lang/IllegalArgumentException", "java/lang/ArithmeticException"), ("java/lang/IllegalArgumentException", "java/lang/IllegalStateException"), ("java/lang/IllegalArgumentException", "java/lang/IndexOutOfBoundsException"), ("java/lang/IllegalArgumentException", "java/lang/UnsupportedOperationException"), ("java/lang/IllegalArgumentException", "java/util/NoSuchElementException"), ("java/lang/IllegalStateException", "java/lang/ArithmeticException"), ("java/lang/IllegalStateException", "java/lang/IllegalArgumentException"), ("java/lang/IllegalStateException", "java/lang/IndexOutOfBoundsException"), ("java/lang/IllegalStateException", "java/lang/UnsupportedOperationException"), ("java/lang/IllegalStateException", "java/util/NoSuchElementException"), ("java/lang/IndexOutOfBoundsException", "java/lang/ArithmeticException"), ("java/lang/IndexOutOfBoundsException", "java/lang/IllegalArgumentException"), ("java/lang/IndexOutOfBoundsException", "java/lang/IllegalStateException"), ("java/lang/IndexOutOfBoundsException", "java/lang/UnsupportedOperationException"), ("java/lang/IndexOutOfBoundsException", "java/util/NoSuchElementException"), ("java/lang/UnsupportedOperationException", "java/lang/ArithmeticException"), ("java/lang/UnsupportedOperationException", "java/lang/IllegalArgumentException"), ("java/lang/UnsupportedOperationException", "java/lang/IllegalStateException"), ("java/lang/UnsupportedOperationException", "java/lang/IndexOutOfBoundsException"), ("java/lang/UnsupportedOperationException", "java/util/NoSuchElementException"), ("java/util/NoSuchElementException", "java/lang/ArithmeticException"), ("java/util/NoSuchElementException", "java/lang/IllegalArgumentException"), ("java/util/NoSuchElementException", "java/lang/IllegalStateException"), ("java/util/NoSuchElementException", "java/lang/IndexOutOfBoundsException"), ("java/util/NoSuchElementException", "java/lang/UnsupportedOperationException")]
def ab_decls : List MethodName := [⟨"java/lang/RuntimeException", "<init>", "()V"⟩, ⟨"java/lang/RuntimeException", "<init>", "(Ljava/lang/String;)V"⟩, ⟨"java/lang/Exception", "<init>", "()V"⟩, ⟨"java/lang/Exception", "<init>", "(Ljava/lang/String;)V"⟩, ⟨"java/lang/Throwable", "<init>", "()V"⟩, ⟨"java/lang/Throwable", "<init>", "(Ljava/lang/String;)V"⟩, ⟨"java/lang/IndexOutOfBoundsException", "<init>", "()V"⟩, ⟨"java/lang/IndexOutOfBoundsException", "<init>", "(Ljava/lang/String;)V"⟩]
def ab_faces : List (MethodName × MethodName) := [(⟨"java/util/List", "size", "()I"⟩, yJx4a65c_size_8abf5), (⟨"java/util/List", "get", "(I)Ljava/lang/Object;"⟩, yJx4a65c_get_915e3), (⟨"java/util/List", "add", "(Ljava/lang/Object;)Z"⟩, yJx4a65c_add_9ea2d), (⟨"java/util/List", "isEmpty", "()Z"⟩, yJx4a65c_isEmpty_aae02)]
/-- the script: its cell, its length, its ints, told by g -/
def ab_xs (g : Nat → Nat) : Nat → Int32 := fun j => Int32.ofNat (g (17 + j))
def ab_Sc (g : Nat → Nat) (A : Nat → Prop) (U : State) (H : Heap) : Prop := va_X (g 14) (g 15) (ab_xs g) U H ∧ g 14 < H.size ∧ ¬ A (g 14)
/-- what holds of the world outside: the statics that a throw looks at, the empty list's row (at g 0), the class object of Object[] (g 1), the texts (from g 2, their rows from g 8), the script (g 14), a static, words of the tables -/
def ab_Amb (g : Nat → Nat) (A : Nat → Prop) (U : State) : Prop :=
  vx_Zq Bundle.tN "UNASSIGNED_STACK" Bundle.steD A U U.heap ∧ vx_Zq Bundle.tN "SUPPRESSED_SENTINEL" Bundle.listD A U U.heap ∧
  va_Z "java/util/ArrayList" "DEFAULTCAPACITY_EMPTY_ELEMENTDATA" "[Ljava/lang/Object;" (.ref (g 0)) A U U.heap ∧ va_T (.object "java/lang/Object") (g 0) 0 (fun _ => .null) A U U.heap ∧
  (∀ i, i < 6 → vk_S 1 [ab_lens.getD i 0] [ab_byts.getD i []] (fun _ => g (2 + i)) (fun _ => g (8 + i)) A U U.heap) ∧
  (∀ x ∈ ab_strs, ∃ sa, vk_R x.1 x.2.1 x.2.2 sa U) ∧ (∀ (i : Nat) (x : String × Nat × String), ab_objs[i]? = some x → vk_R x.1 x.2.1 x.2.2 (g (2 + i)) U) ∧
  (∀ x ∈ ab_casts, va_Nw (.castable x.1 x.2) U) ∧ (∀ x ∈ ab_ncasts, va_Nc x.1 x.2 U) ∧ (∀ x ∈ ab_decls, va_Nw (.declares x) U) ∧ (∀ x ∈ ab_faces, va_Fw RJx4a65c x.1 x.2 U) ∧ va_Mi "[Ljava/lang/Object;" (g 1) U ∧ va_Dc U ∧ va_AO "java/lang/Object" U ∧ va_Z "java/lang/String" "COMPACT_STRINGS" "Z" (.int 1) A U U.heap ∧ ab_Sc g A U U.heap ∧ va_Zq "jdk/internal/util/Preconditions" "SIOOBE_FORMATTER" "Ljava/util/function/BiFunction;" A U U.heap
theorem ab_Amb_at {g : Nat → Nat} {A B : Nat → Prop} {s U : State} {H : Heap} {locs : List Loc} (h : ab_Amb g A s) (hS : va_S A s.heap H locs) (hU : U.heap = H) (hW : s.WarmedH U.vm) (hB : ∀ q, B q → A q) : ab_Amb g B U := by
  obtain ⟨h1, h2, h3, h4, h5, h6, h7, h8, h9, h10, h11, h12, h13, h14, h15, ⟨h16, h17, h18⟩, h19⟩ := h
  unfold ab_Amb
  rw [hU]
  have ha := hW.alike
  refine ⟨vx_Zq.moved ha ((h1.kept hS.2.1).narrow hB), vx_Zq.moved ha ((h2.kept hS.2.1).narrow hB), va_Z.moved ha ((h3.kept hS.2.1).narrow hB), va_T.moved ha ((h4.kept hS.2.1).narrow hB), fun i hi => vk_S.moved ha (((h5 i hi).kept hS.2.1).narrow hB), fun x hx => ?_, fun i x hx => vk_R.warm hW (h7 i x hx), fun x hx => va_Nw.warmC hW (h8 x hx), fun x hx => va_Nc.moved ha (h9 x hx), fun x hx => va_Nw.warmD hW (h10 x hx), fun x hx => va_Fw.moved ?_ ha (h11 x hx), va_Mi.moved ha h12, va_Dc.moved ha h13, va_AO.moved ha h14, va_Z.moved ha ((h15.kept hS.2.1).narrow hB), ⟨va_X.moved ha (h16.kept (hS.2.1 _ h17 h18)), Nat.lt_of_lt_of_le h17 hS.1, fun q => h18 (hB _ q)⟩, va_Zq.moved ha ((h19.kept hS.2.1).narrow hB)⟩
  · obtain ⟨sa, h0⟩ := h6 x hx
    exact ⟨sa, vk_R.warm hW h0⟩
  · simp only [ab_faces, List.mem_cons, List.not_mem_nil, or_false] at hx
    rcases hx with rfl | rfl | rfl | rfl <;> exact ⟨by decide, by decide⟩
theorem ab_Amb_calling {g : Nat → Nat} {A : Nat → Prop} {U : State} (fr : JFrame) (mk : MethodId) (a : Array Value) (h : ab_Amb g A U) : ab_Amb g A (U.calling fr mk a) := by
  refine ab_Amb_at (H := U.heap) (locs := []) h ⟨Nat.le_refl _, fun _ _ _ => rfl, fun _ h => by cases h⟩ rfl (State.WarmedH.refl U) (fun _ h => h)
