/-! instructions that the library's own methods need -/
def ab_max (MC MS t : Nat) : ab_I := fun K ls st L h k n => match st with
  | .int y :: .int x :: r => cond (Nat.ble (ab_sum r) 8) ((k ≤ MC ∧ n ≤ MS) ∧ K t ls (.int (if x < y then y else x) :: r) L h k n) False
  | _ => False
def ab_min (MC MS t : Nat) : ab_I := fun K ls st L h k n => match st with
  | .int y :: .int x :: r => cond (Nat.ble (ab_sum r) 8) ((k ≤ MC ∧ n ≤ MS) ∧ K t ls (.int (if y < x then y else x) :: r) L h k n) False
  | _ => False
def ab_abs (MC MS t : Nat) : ab_I := fun K ls st L h k n => match st with
  | .int x :: r => cond (Nat.ble (ab_sum r) 8) ((k ≤ MC ∧ n ≤ MS) ∧ K t ls (.int (if 0 ≤ x then x else 0 - x) :: r) L h k n) False
  | _ => False
def ab_i2b (t : Nat) : ab_I := fun K ls st L h k n => match st with
  | .int x :: r => K t ls (.int x.toInt8.toInt32 :: r) L h k n
  | _ => False
def ab_dupx1 (t : Nat) : ab_I := fun K ls st L h k n => match st with
  | .ref x :: .ref y :: r => K t ls (.ref x :: .ref y :: .ref x :: r) L h k n
  | _ => False
/-- the length of a list's row: of the empty one, or of one of the world -/
def ab_alenO (g0 t : Nat) : ab_I := fun K ls st L h k n => match st with
  | .ref a :: r => (a = g0 ∧ K t ls (.int 0 :: r) L h k n) ∨ (a ∈ L ∧ ∃ x : vp_A, h a = .inl (4, x) ∧ K t ls (.int (Int32.ofNat x.1) :: r) L h k n)
  | _ => False
def ab_newq (MC MS t : Nat) : ab_I := fun K ls st L h k n => match st with
  | .int x :: r => ¬ x < 0 ∧ x.toNatClampNeg ≤ 65536 ∧ k + 1 ≤ MC ∧ n + x.toNatClampNeg ≤ MS ∧ ∀ q, q ∉ L → K t ls (.ref q :: r) (L ++ [q]) (va_up h q (.inl (4, x.toNatClampNeg, .inr (.inr (.inr (.inr (fun _ => none))))))) (k + 1) (n + x.toNatClampNeg)
  | _ => False
def ab_aald (t : Nat) : ab_I := fun K ls st L h k n => match st with
  | .int i :: .ref a :: r => a ∈ L ∧ ∃ (N : Nat) (f : Nat → Option Nat), h a = .inl (4, N, .inr (.inr (.inr (.inr f)))) ∧ vp_in i N ∧ (∀ x, f i.toNatClampNeg = some x → K t ls (.ref x :: r) L h k n) ∧ (f i.toNatClampNeg = none → K t ls (.null :: r) L h k n)
  | _ => False
/-- an object of the world goes into a list's row -/
def ab_aast (t : Nat) : ab_I := fun K ls st L h k n => match st with
  | .ref v :: .int i :: .ref a :: r => a ∈ L ∧ ∃ (N : Nat) (f : Nat → Option Nat) (ci : Nat) (vs : List Value), h a = .inl (4, N, .inr (.inr (.inr (.inr f)))) ∧ vp_in i N ∧ v ∈ L ∧ h v = .inr (ci, vs) ∧ (3 ≤ ci ∧ ci ≤ 10) ∧ K t ls r L (va_up h a (.inl (4, N, .inr (.inr (.inr (.inr (va_up f i.toNatClampNeg (some v)))))))) k n
  | _ => False
/-- a row is copied into another; what it holds are objects of one class -/
def ab_acopy (t : Nat) : ab_I := fun K ls st L h k n => match st with
  | .int m :: .int dp :: .ref a :: .int sp :: .ref b :: r => cond (Nat.ble (ab_sum r) 8) (a ∈ L ∧ b ∈ L ∧ ∃ (N M : Nat) (f f2 : Nat → Option Nat) (ci : Nat), h b = .inl (4, N, .inr (.inr (.inr (.inr f)))) ∧ h a = .inl (4, M, .inr (.inr (.inr (.inr f2)))) ∧ ¬ sp < 0 ∧ ¬ dp < 0 ∧ ¬ m < 0 ∧ sp.toNatClampNeg + m.toNatClampNeg ≤ N ∧ dp.toNatClampNeg + m.toNatClampNeg ≤ M ∧ (3 ≤ ci ∧ ci ≤ 10) ∧ (∀ i, i < m.toNatClampNeg → ∀ y, f (sp.toNatClampNeg + i) = some y → y ∈ L ∧ ∃ vs : List Value, h y = .inr (ci, vs)) ∧ K t ls r L (va_up h a (.inl (4, M, .inr (.inr (.inr (.inr (va_cpy f f2 sp.toNatClampNeg dp.toNatClampNeg m.toNatClampNeg))))))) k n) False
  | _ => False
/-- getClass of a list's row -/
def ab_getC (g1 t : Nat) : ab_I := fun K ls st L h k n => match st with
  | .ref a :: r => cond (Nat.ble (ab_sum r) 8) (a ∈ L ∧ (∃ x : vp_A, h a = .inl (4, x)) ∧ K t ls (.ref g1 :: r) L h k n) False
  | _ => False
/-! texts -/
def ab_skc (g : Nat → Nat) (t : Nat) : ab_I := fun K ls st L h k n => match st with
  | .ref a :: r => (∃ i, i < 6 ∧ a = g (2 + i)) ∧ K t ls (.int 0 :: r) L h k n
  | _ => False
def ab_skv (g : Nat → Nat) (t : Nat) : ab_I := fun K ls st L h k n => match st with
  | .ref a :: r => ∃ i, i < 6 ∧ a = g (2 + i) ∧ K t ls (.ref (g (8 + i)) :: r) L h k n
  | _ => False
def ab_sklen (g : Nat → Nat) (t : Nat) : ab_I := fun K ls st L h k n => match st with
  | .ref a :: r => ∃ i, i < 6 ∧ a = g (8 + i) ∧ K t ls (.int (Int32.ofNat (ab_lens.getD i 0)) :: r) L h k n
  | _ => False
def ab_skld (g : Nat → Nat) (t : Nat) : ab_I := fun K ls st L h k n => match st with
  | .int j :: .ref a :: r => ∃ i, i < 6 ∧ a = g (8 + i) ∧ vp_in j (ab_lens.getD i 0) ∧ K t ls (.int ((ab_byts.getD i []).getD j.toNatClampNeg 0) :: r) L h k n
  | _ => False
/-- a call of a text's method -/
def ab_callK (g : Nat → Nat) (na sh : Nat) (wp : ab_Wp) (mc ms MC MS : Nat) (XP : ab_XP) (t : Nat) : ab_I := fun K ls st L h k n => match ab_take na [] st with
  | some (.ref b :: As, r) => cond (Nat.ble (ab_sum r) 8) ((k + mc ≤ MC ∧ n + ms ≤ MS) ∧ (∃ i, i < 6 ∧ b = g (2 + i)) ∧ wp (.ref b :: As) L h (fun v L' h' => ab_sh sh v (fun w => K t ls (w ++ r) L' h' (k + mc) (n + ms))) XP) False
  | _ => False
section AbM
variable {p : Program} {l : Launch} {e : Env} {R : Room} {s : State} {m : MethodId} {args : Array Value} {below : List Frame} {meth : Method} {c : Code} {Q : State → Prop} {D : va_G} {C : Nat → ClassId} {g : Nat → Nat} {A : Nat → Prop} {nL : Nat} {own nm : String} {cc : ByteArray} {ret : Option FieldType} {pc : Nat}
theorem ab_rm0 {r : List Value} (h : Nat.ble (ab_sum r) 8 = true) : (r.map fun v => v.category).sum ≤ 8 := by rw [ab_sum_eq]; exact Nat.le_of_ble_eq_true h
theorem sn_max {MC MS i : Nat} (Cx : ab_Cx l D C g own nm cc nL ret ab_T p s m args meth c A) (d : decode cc pc = .ok (.invokestatic i, 3)) (w1 : Cond.methodLink own i Lib.Math.max.name ∈ ab_T) (w2 : Cond.static Lib.Math.max.name ∈ ab_T) (w3 : Cond.initialized "java/lang/Math" ∈ ab_T) (w4 : Cond.code Lib.Math.max.name Lib.Math.max.code 2 (some .int) ∈ ab_T) (hR : 1 ≤ R.frames ∧ 21 ≤ R.locals) (hMC : R.cells = MC) (hMS : R.slots = MS) : ab_Sn (ab_W p l e R s m args below meth c Q D C A nL) pc (ab_max MC MS (pc + 3)) := by
  intro K hK ls st L h k n q H locs la hl hW hS
  unfold ab_max at q
  split at q
  next y x r =>
    obtain ⟨hb, hkn, q⟩ := ab_cond q
    have h8 := ab_rm0 hb
    exact va_mmax Cx.1 Cx.2.1 (Cx.2.2.1.trans hl.1.symm) Cx.2.2.2.1 (Cx.2.2.2.2.1 _ w1) (Cx.2.2.2.2.1 _ w2) (Cx.2.2.2.2.1 _ w3) (Cx.2.2.2.2.1 _ w4) hR.1 (by omega) (by rw [hMC]; exact hkn.1) (by rw [hMS]; exact hkn.2) d (hK _ _ _ _ _ _ _ q H locs la hl hW hS)
  next => exact q.elim
theorem sn_min {MC MS i : Nat} (Cx : ab_Cx l D C g own nm cc nL ret ab_T p s m args meth c A) (d : decode cc pc = .ok (.invokestatic i, 3)) (w1 : Cond.methodLink own i Lib.Math.min.name ∈ ab_T) (w2 : Cond.static Lib.Math.min.name ∈ ab_T) (w3 : Cond.initialized "java/lang/Math" ∈ ab_T) (w4 : Cond.code Lib.Math.min.name Lib.Math.min.code 2 (some .int) ∈ ab_T) (hR : 1 ≤ R.frames ∧ 21 ≤ R.locals) (hMC : R.cells = MC) (hMS : R.slots = MS) : ab_Sn (ab_W p l e R s m args below meth c Q D C A nL) pc (ab_min MC MS (pc + 3)) := by
  intro K hK ls st L h k n q H locs la hl hW hS
  unfold ab_min at q
  split at q
  next y x r =>
    obtain ⟨hb, hkn, q⟩ := ab_cond q
    have h8 := ab_rm0 hb
    exact va_mmin Cx.1 Cx.2.1 (Cx.2.2.1.trans hl.1.symm) Cx.2.2.2.1 (Cx.2.2.2.2.1 _ w1) (Cx.2.2.2.2.1 _ w2) (Cx.2.2.2.2.1 _ w3) (Cx.2.2.2.2.1 _ w4) hR.1 (by omega) (by rw [hMC]; exact hkn.1) (by rw [hMS]; exact hkn.2) d (hK _ _ _ _ _ _ _ q H locs la hl hW hS)
  next => exact q.elim
theorem sn_abs {MC MS i : Nat} (Cx : ab_Cx l D C g own nm cc nL ret ab_T p s m args meth c A) (d : decode cc pc = .ok (.invokestatic i, 3)) (w1 : Cond.methodLink own i Lib.Math.abs.name ∈ ab_T) (w2 : Cond.static Lib.Math.abs.name ∈ ab_T) (w3 : Cond.initialized "java/lang/Math" ∈ ab_T) (w4 : Cond.code Lib.Math.abs.name Lib.Math.abs.code 1 (some .int) ∈ ab_T) (hR : 1 ≤ R.frames ∧ 21 ≤ R.locals) (hMC : R.cells = MC) (hMS : R.slots = MS) : ab_Sn (ab_W p l e R s m args below meth c Q D C A nL) pc (ab_abs MC MS (pc + 3)) := by
  intro K hK ls st L h k n q H locs la hl hW hS
  unfold ab_abs at q
  split at q
  next x r =>
    obtain ⟨hb, hkn, q⟩ := ab_cond q
    have h8 := ab_rm0 hb
    exact va_mabs Cx.1 Cx.2.1 (Cx.2.2.1.trans hl.1.symm) Cx.2.2.2.1 (Cx.2.2.2.2.1 _ w1) (Cx.2.2.2.2.1 _ w2) (Cx.2.2.2.2.1 _ w3) (Cx.2.2.2.2.1 _ w4) hR.1 (by omega) (by rw [hMC]; exact hkn.1) (by rw [hMS]; exact hkn.2) d (hK _ _ _ _ _ _ _ q H locs la hl hW hS)
  next => exact q.elim
theorem sn_iushr (Cx : ab_Cx l D C g own nm cc nL ret ab_T p s m args meth c A) (d : decode cc pc = .ok (.iushr, 1)) : ab_Sn (ab_W p l e R s m args below meth c Q D C A nL) pc (ab_bin (fun x y => (x.toUInt32 >>> (y.toUInt32 &&& Int32.toUInt32 31)).toInt32) (pc + 1)) := by
  intro K hK ls st L h k n q H locs la hl hW hS
  unfold ab_bin at q
  split at q
  next => exact lv_iushr Cx.1 Cx.2.1 d rfl (hK _ _ _ _ _ _ _ q H locs la hl hW hS)
  next => exact q.elim
theorem sn_i2b (Cx : ab_Cx l D C g own nm cc nL ret ab_T p s m args meth c A) (d : decode cc pc = .ok (.i2b, 1)) : ab_Sn (ab_W p l e R s m args below meth c Q D C A nL) pc (ab_i2b (pc + 1)) := by
  intro K hK ls st L h k n q H locs la hl hW hS
  unfold ab_i2b at q
  split at q
  next => exact lv_i2b Cx.1 Cx.2.1 d rfl (hK _ _ _ _ _ _ _ q H locs la hl hW hS)
  next => exact q.elim
theorem sn_dupx1 (Cx : ab_Cx l D C g own nm cc nL ret ab_T p s m args meth c A) (d : decode cc pc = .ok (.dup_x1, 1)) : ab_Sn (ab_W p l e R s m args below meth c Q D C A nL) pc (ab_dupx1 (pc + 1)) := by
  intro K hK ls st L h k n q H locs la hl hW hS
  unfold ab_dupx1 at q
  split at q
  next => exact lv_dup_x1 Cx.1 Cx.2.1 d rfl rfl (hK _ _ _ _ _ _ _ q H locs la hl hW hS)
  next => exact q.elim
theorem sn_empty {i : Nat} (Cx : ab_Cx l D C g own nm cc nL ret ab_T p s m args meth c A) (d : decode cc pc = .ok (.getstatic i, 3)) (w1 : Cond.fieldLink own i "java/util/ArrayList" "DEFAULTCAPACITY_EMPTY_ELEMENTDATA" "[Ljava/lang/Object;" ∈ ab_T) : ab_Sn (ab_W p l e R s m args below meth c Q D C A nL) pc (ab_push (.ref (g 0)) (pc + 3)) :=
  fun _ hK _ _ _ _ _ _ q H locs la hl hW hS => va_gets Cx.1 Cx.2.1 Cx.2.2.2.2.2.2.2.2.2.2.1.2.2.1 hS Cx.2.2.2.1 (Cx.2.2.2.2.1 _ w1) (fun _ h9 => h9) d (hK _ _ _ _ _ _ _ q H locs la hl hW hS)
theorem sn_compact {i : Nat} (Cx : ab_Cx l D C g own nm cc nL ret ab_T p s m args meth c A) (d : decode cc pc = .ok (.getstatic i, 3)) (w1 : Cond.fieldLink own i "java/lang/String" "COMPACT_STRINGS" "Z" ∈ ab_T) : ab_Sn (ab_W p l e R s m args below meth c Q D C A nL) pc (ab_push (.int 1) (pc + 3)) :=
  fun _ hK _ _ _ _ _ _ q H locs la hl hW hS => va_gets Cx.1 Cx.2.1 Cx.2.2.2.2.2.2.2.2.2.2.1.2.2.2.2.2.2.2.2.2.2.2.2.2.2.1 hS Cx.2.2.2.1 (Cx.2.2.2.2.1 _ w1) (fun _ h9 => h9) d (hK _ _ _ _ _ _ _ q H locs la hl hW hS)
theorem sn_ldcS {i j : Nat} {x : String × Nat × String} (Cx : ab_Cx l D C g own nm cc nL ret ab_T p s m args meth c A) (d : decode cc pc = .ok (.ldc i, 2)) (hj : ab_objs[j]? = some x) (h1 : x.1 = own) (h2 : x.2.1 = i) : ab_Sn (ab_W p l e R s m args below meth c Q D C A nL) pc (ab_push (.ref (g (2 + j))) (pc + 2)) := by
  subst h1 h2
  exact fun _ hK _ _ _ _ _ _ q H locs la hl hW hS => va_ldcS Cx.1 Cx.2.1 Cx.2.2.2.1 (Cx.2.2.2.2.2.2.2.2.2.2.1.2.2.2.2.2.2.1 j x hj) d (hK _ _ _ _ _ _ _ q H locs la hl hW hS)
theorem sn_ldcM {i : Nat} (Cx : ab_Cx l D C g own nm cc nL ret ab_T p s m args meth c A) (d : decode cc pc = .ok (.ldc i, 2)) (w1 : Cond.classLink own i "[Ljava/lang/Object;" ∈ ab_T) : ab_Sn (ab_W p l e R s m args below meth c Q D C A nL) pc (ab_push (.ref (g 1)) (pc + 2)) :=
  fun _ hK _ _ _ _ _ _ q H locs la hl hW hS => va_ldcM Cx.1 Cx.2.1 Cx.2.2.2.1 (Cx.2.2.2.2.1 _ w1) Cx.2.2.2.2.2.2.2.2.2.2.1.2.2.2.2.2.2.2.2.2.2.2.1 d (hK _ _ _ _ _ _ _ q H locs la hl hW hS)
theorem sn_alenO (Cx : ab_Cx l D C g own nm cc nL ret ab_T p s m args meth c A) (d : decode cc pc = .ok (.arraylength, 1)) : ab_Sn (ab_W p l e R s m args below meth c Q D C A nL) pc (ab_alenO (g 0) (pc + 1)) := by
  intro K hK ls st L h k n q H locs la hl hW hS
  unfold ab_alenO at q
  split at q
  next a r =>
    rcases q with ⟨rfl, q⟩ | ⟨ha, x, e1, q⟩
    · exact va_tlen Cx.1 Cx.2.1 Cx.2.2.2.2.2.2.2.2.2.2.1.2.2.2.1 hS rfl d (hK _ _ _ _ _ _ _ q H locs la hl hW hS)
    · obtain ⟨i, hi, -⟩ := ab_Wd_get hW ha e1
      exact va_alen Cx.1 Cx.2.1 Cx.2.2.2.2.2.2.2.2.1 hW.1 i 4 hi rfl rfl d (hK _ _ _ _ _ _ _ q H locs la hl hW hS)
  next => exact q.elim
theorem sn_newq {MC MS i : Nat} (Cx : ab_Cx l D C g own nm cc nL ret ab_T p s m args meth c A) (d : decode cc pc = .ok (.anewarray i, 3)) (w1 : Cond.classLink own i "java/lang/Object" ∈ ab_T) (hMC : R.cells = MC) (hMS : R.slots = MS) : ab_Sn (ab_W p l e R s m args below meth c Q D C A nL) pc (ab_newq MC MS (pc + 3)) := by
  intro K hK ls st L h k n q H locs la hl hW hS
  unfold ab_newq at q
  split at q
  next x r =>
    obtain ⟨h1, h2, h3, h4, q⟩ := q
    refine va_newq Cx.1 Cx.2.1 Cx.2.2.2.1 (Cx.2.2.2.2.1 _ w1) Cx.2.2.2.2.2.2.2.2.2.2.1.2.2.2.2.2.2.2.2.2.2.2.2.2.1 Cx.2.2.2.2.2.2.2.2.1 hW.1 hW.2 hS Cx.2.2.2.2.2.2.2.2.2.1 h1 rfl (by omega) (by rw [hMC]; exact h3) (by rw [hMS]; exact h4) d (fun q0 cA H1 k1 p1 p2 p3 => ?_)
    have eC : cA = C 4 := by
      have r1 := (Cx.2.2.2.2.2.2.2.2.1.2 4 _ rfl).2
      have r2 := (k1.2 (ab_tys C).length (cA, .object "java/lang/Object") (by rw [List.getElem?_append_right (Nat.le_refl _), Nat.sub_self]; rfl)).2
      exact Option.some.inj ((va_nmO r2 rfl).symm.trans (va_nmO r1 rfl))
    subst eC
    have hfr := ab_fresh (D := D) p2
    have es := ab_ws_push (C := C) (h := h) (e := (.inl (4, x.toNatClampNeg, .inr (.inr (.inr (.inr (fun _ => none))))) : ab_E)) hfr
    exact hK _ _ _ _ _ _ _ (q q0 hfr) H1 locs la hl ⟨by rw [← es]; exact p1, by rw [← es]; exact p2⟩ p3
  next => exact q.elim
theorem sn_aald (Cx : ab_Cx l D C g own nm cc nL ret ab_T p s m args meth c A) (d : decode cc pc = .ok (.aaload, 1)) : ab_Sn (ab_W p l e R s m args below meth c Q D C A nL) pc (ab_aald (pc + 1)) := by
  intro K hK ls st L h k n q H locs la hl hW hS
  unfold ab_aald at q
  split at q
  next i a r =>
    obtain ⟨ha, N, f, e1, e2, q1, q2⟩ := q
    obtain ⟨j, hj, -⟩ := ab_Wd_get hW ha e1
    refine va_aldq Cx.1 Cx.2.1 Cx.2.2.2.2.2.2.2.2.1 hW.1 j 4 hj rfl e2 d ?_
    cases hf : f i.toNatClampNeg with
    | none => exact hK _ _ _ _ _ _ _ (q2 hf) H locs la hl hW hS
    | some x => exact hK _ _ _ _ _ _ _ (q1 x hf) H locs la hl hW hS
  next => exact q.elim
theorem ab_own {ci : Nat} (h : 3 ≤ ci ∧ ci ≤ 10) : ∃ r : vw_C, vwCl[ci]? = some r ∧ (r.1, "java/lang/Object") ∈ ab_casts := by
  obtain ⟨h1, h2⟩ := h
  have : ci = 3 ∨ ci = 4 ∨ ci = 5 ∨ ci = 6 ∨ ci = 7 ∨ ci = 8 ∨ ci = 9 ∨ ci = 10 := by omega
  rcases this with rfl | rfl | rfl | rfl | rfl | rfl | rfl | rfl <;> exact ⟨_, rfl, by decide +kernel⟩
theorem sn_aast (Cx : ab_Cx l D C g own nm cc nL ret ab_T p s m args meth c A) (d : decode cc pc = .ok (.aastore, 1)) : ab_Sn (ab_W p l e R s m args below meth c Q D C A nL) pc (ab_aast (pc + 1)) := by
  intro K hK ls st L h k n q H locs la hl hW hS
  unfold ab_aast at q
  split at q
  next v i a r =>
    obtain ⟨ha, N, f, ci, vs, e1, e2, hv, e3, hc, q⟩ := q
    obtain ⟨j, hj, hset⟩ := ab_Wd_get hW ha e1
    obtain ⟨jv, hjv, -⟩ := ab_Wd_get hW hv e3
    obtain ⟨r0, hr0, hcast⟩ := ab_own hc
    exact va_astqO Cx.1 Cx.2.1 Cx.2.2.2.2.2.2.2.2.1 hW.1 hW.2 hS j 4 jv ci hj rfl (Cx.2.2.2.2.2.2.2.2.2.2.1.2.2.2.2.2.2.2.1 _ hcast) hjv hr0 e2 d (fun H1 locs1 p1 p2 p3 => hK _ _ _ _ _ _ _ q H1 locs1 la hl ⟨by rw [← hset]; exact p1, by rw [← hset]; exact p2⟩ p3)
  next => exact q.elim
theorem sn_getC {i : Nat} (Cx : ab_Cx l D C g own nm cc nL ret ab_T p s m args meth c A) (d : decode cc pc = .ok (.invokevirtual i, 3)) (w1 : Cond.methodLink own i ⟨"java/lang/Object", "getClass", "()Ljava/lang/Class;"⟩ ∈ ab_T) (w2 : Cond.selects "[Ljava/lang/Object;" ⟨"java/lang/Object", "getClass", "()Ljava/lang/Class;"⟩ ⟨"java/lang/Object", "getClass", "()Ljava/lang/Class;"⟩ ∈ ab_T) (w3 : Cond.instanceMethod ⟨"java/lang/Object", "getClass", "()Ljava/lang/Class;"⟩ ∈ ab_T) (w4 : Cond.native ⟨"java/lang/Object", "getClass", "()Ljava/lang/Class;"⟩ ∈ ab_T) (hR : 1 ≤ R.frames ∧ 22 ≤ R.locals) : ab_Sn (ab_W p l e R s m args below meth c Q D C A nL) pc (ab_getC (g 1) (pc + 3)) := by
  intro K hK ls st L h k n q H locs la hl hW hS
  unfold ab_getC at q
  split at q
  next a r =>
    obtain ⟨hb, ha, ⟨x, e1⟩, q⟩ := ab_cond q
    have h8 := ab_rm0 hb
    obtain ⟨j, hj, -⟩ := ab_Wd_get hW ha e1
    have hcell : H[a]? = some (vp_cell (C 4) x) := hW.1 j _ hj
    have hcl : s.vm.findClass "[Ljava/lang/Object;" = some (C 4) := va_nmO (Cx.2.2.2.2.2.2.2.2.1.2 4 (C 4, .object "java/lang/Object") rfl).2 rfl
    refine va_getC Cx.1 Cx.2.1 (Cx.2.2.1.trans hl.1.symm) Cx.2.2.2.1 (Cx.2.2.2.2.1 _ w1) (va_Dc.use Cx.2.2.2.2.2.2.2.2.2.2.1.2.2.2.2.2.2.2.2.2.2.2.2.1) (Cx.2.2.2.2.1 _ w2) (Cx.2.2.2.2.1 _ w3) (Cx.2.2.2.2.1 _ w4) Cx.2.2.2.2.2.2.2.2.2.2.1.2.2.2.2.2.2.2.2.2.2.2.1 ⟨_, hcell, ?_, ?_⟩ hR.1 (by omega) d (hK _ _ _ _ _ _ _ q H locs la hl hW hS)
    · unfold vp_cell; split <;> rfl
    · rw [hcl]; unfold vp_cell; split <;> rfl
  next => exact q.elim
theorem sn_acopy {i : Nat} (Cx : ab_Cx l D C g own nm cc nL ret ab_T p s m args meth c A) (d : decode cc pc = .ok (.invokestatic i, 3)) (w1 : Cond.methodLink own i arraycopyName ∈ ab_T) (w2 : Cond.native arraycopyName ∈ ab_T) (w3 : Cond.static arraycopyName ∈ ab_T) (w4 : Cond.initialized "java/lang/System" ∈ ab_T) (hR : 1 ≤ R.frames ∧ nativeFrameWords "java/lang/System" "arraycopy" 5 + 19 ≤ R.locals) : ab_Sn (ab_W p l e R s m args below meth c Q D C A nL) pc (ab_acopy (pc + 3)) := by
  intro K hK ls st L h k n q H locs la hl hW hS
  unfold ab_acopy at q
  split at q
  next z dp a sp b r =>
    obtain ⟨hb, ha, hbL, N, M, f, f2, ci, e1, e2, h1, h2, h3, h4, h5, hc, hel, q⟩ := ab_cond q
    have h8 := ab_rm0 hb
    obtain ⟨jb, hjb, -⟩ := ab_Wd_get hW hbL e1
    obtain ⟨ja, hja, hset⟩ := ab_Wd_get hW ha e2
    obtain ⟨r0, hr0, hcast⟩ := ab_own hc
    obtain ⟨rn, rT, rN⟩ := r0
    have hca := Cx.2.2.2.2.2.2.2.2.2.2.1.2.2.2.2.2.2.2.1 _ hcast
    refine va_copyq (E0 := "java/lang/Object") (E1 := "java/lang/Object") (C := rn) Cx.1 Cx.2.1 (Cx.2.2.1.trans hl.1.symm) Cx.2.2.2.1 (Cx.2.2.2.2.1 _ w1) (Cx.2.2.2.2.1 _ w2) (Cx.2.2.2.2.1 _ w3) (Cx.2.2.2.2.1 _ w4) Cx.2.2.2.2.2.2.2.2.1 hW.1 hW.2 hS jb ja 4 4 hjb hja rfl rfl h1 h2 h3 h4 h5 (fun i hi y hy => ?_) (fun comp c0 hcomp hc0 => ?_) hR.1 (by omega) d (fun H1 locs1 p1 p2 p3 => hK _ _ _ _ _ _ _ q H1 locs1 la hl ⟨by rw [← hset]; exact p1, by rw [← hset]; exact p2⟩ p3)
    · obtain ⟨hy1, vs, hy2⟩ := hel i hi y hy
      exact ab_recv Cx hr0 hW hy1 hy2
    · obtain ⟨c1, t1, g1, g2, g3⟩ := Cond.castable_spec (va_Nw.use (A := args) rfl hca)
      cases g1.symm.trans hc0
      cases g2.symm.trans hcomp
      exact g3
  next => exact q.elim
theorem sn_skc {i : Nat} (Cx : ab_Cx l D C g own nm cc nL ret ab_T p s m args meth c A) (d : decode cc pc = .ok (.getfield i, 3)) (w1 : Cond.fieldLink own i "java/lang/String" "coder" "B" ∈ ab_T) : ab_Sn (ab_W p l e R s m args below meth c Q D C A nL) pc (ab_skc g (pc + 3)) := by
  intro K hK ls st L h k n q H locs la hl hW hS
  unfold ab_skc at q
  split at q
  next a r =>
    obtain ⟨⟨j, hj, rfl⟩, q⟩ := q
    exact vk_getf Cx.1 Cx.2.1 ((Cx.2.2.2.2.2.2.2.2.2.2.1.2.2.2.2.1 j hj).1 0 (by decide)).2.1 hS Cx.2.2.2.1 (Cx.2.2.2.2.1 _ w1) (fun _ h9 => h9) d (hK _ _ _ _ _ _ _ q H locs la hl hW hS)
  next => exact q.elim
theorem sn_skv {i : Nat} (Cx : ab_Cx l D C g own nm cc nL ret ab_T p s m args meth c A) (d : decode cc pc = .ok (.getfield i, 3)) (w1 : Cond.fieldLink own i "java/lang/String" "value" "[B" ∈ ab_T) : ab_Sn (ab_W p l e R s m args below meth c Q D C A nL) pc (ab_skv g (pc + 3)) := by
  intro K hK ls st L h k n q H locs la hl hW hS
  unfold ab_skv at q
  split at q
  next a r =>
    obtain ⟨j, hj, rfl, q⟩ := q
    exact vk_getf Cx.1 Cx.2.1 ((Cx.2.2.2.2.2.2.2.2.2.2.1.2.2.2.2.1 j hj).1 0 (by decide)).2.2.1 hS Cx.2.2.2.1 (Cx.2.2.2.2.1 _ w1) (fun _ h9 => h9) d (hK _ _ _ _ _ _ _ q H locs la hl hW hS)
  next => exact q.elim
theorem sn_sklen (Cx : ab_Cx l D C g own nm cc nL ret ab_T p s m args meth c A) (d : decode cc pc = .ok (.arraylength, 1)) : ab_Sn (ab_W p l e R s m args below meth c Q D C A nL) pc (ab_sklen g (pc + 1)) := by
  intro K hK ls st L h k n q H locs la hl hW hS
  unfold ab_sklen at q
  split at q
  next a r =>
    obtain ⟨j, hj, rfl, q⟩ := q
    exact va_tlen Cx.1 Cx.2.1 ((Cx.2.2.2.2.2.2.2.2.2.2.1.2.2.2.2.1 j hj).1 0 (by decide)).2.2.2 hS rfl d (hK _ _ _ _ _ _ _ q H locs la hl hW hS)
  next => exact q.elim
theorem sn_skld (Cx : ab_Cx l D C g own nm cc nL ret ab_T p s m args meth c A) (d : decode cc pc = .ok (.baload, 1)) : ab_Sn (ab_W p l e R s m args below meth c Q D C A nL) pc (ab_skld g (pc + 1)) := by
  intro K hK ls st L h k n q H locs la hl hW hS
  unfold ab_skld at q
  split at q
  next i a r =>
    obtain ⟨j, hj, rfl, hin, q⟩ := q
    exact va_tb Cx.1 Cx.2.1 ((Cx.2.2.2.2.2.2.2.2.2.2.1.2.2.2.2.1 j hj).1 0 (by decide)).2.2.2 hS hin rfl d (hK _ _ _ _ _ _ _ q H locs la hl hW hS)
  next => exact q.elim
theorem sn_callK {R2 : ab_R} {XP : ab_XP} {MC MS : Nat} (Cx : ab_Cx l D C g own nm cc nL ret ab_T p s m args meth c A) (hout : ∀ x ∈ c.exceptionTable.toList, covers x pc = false) {y : MethodName} {bytes : ByteArray} {maxL fr mc ms lo na sh i : Nat} {ret' : Option FieldType} {wp : ab_Wp} (hM : ab_CT l D C g y bytes maxL ret' fr mc ms lo wp) (d : decode cc pc = .ok (.invokevirtual i, 3)) (w1 : Cond.methodLink own i y ∈ ab_T) (w2 : Cond.instanceMethod y ∈ ab_T) (w3 : Cond.initialized "java/lang/String" ∈ ab_T) (w4 : Cond.code y bytes maxL ret' ∈ ab_T) (w5 : Cond.selects "java/lang/String" y y ∈ ab_T)
    (hd : y.cls = "java/lang/String" ∧ y.cls ≠ "java/lang/invoke/MethodHandle" ∧ y.cls ≠ "java/lang/invoke/VarHandle" ∧ (parseMethodDescriptor y.desc).map (fun d => d.parameters.length) = some na) (hR : fr + 1 ≤ R.frames ∧ 8 + (maxL + 11) + lo ≤ R.locals) (hMC : R.cells = MC) (hMS : R.slots = MS) :
    ab_Sn (ab_W p l e R s m args below meth c (vx_MQ below (ab_Post D C R2 A) (ab_PostX D C XP A) args s MC MS A) D C A nL) pc (ab_callK g (na + 1) sh wp mc ms MC MS XP (pc + 3)) := by
  intro K hK ls st L h k n q H locs la hl hW hS
  unfold ab_callK at q
  split at q
  next b As r hp =>
    obtain ⟨hb, hkn, ⟨j, hj, hbj⟩, q⟩ := ab_cond q
    obtain ⟨bs, e1, e2, e3⟩ := ab_take_spec _ _ _ _ _ hp
    rw [List.append_nil] at e1
    subst e1
    subst e3
    have cw := cwV (R := R) (s := s) (args := args) (own := own) (C := "java/lang/String") (index := i) (Ts := ab_T) na Cx.2.2.2.2.1 (ab_GI (ws := wsV own i "java/lang/String" y (.code y bytes maxL ret' :: ab_T)) (fun w hw => by
      simp only [wsV, List.mem_append, List.mem_cons, List.not_mem_nil, or_false] at hw
      rcases hw with (rfl | rfl | rfl | rfl) | rfl | hw
      · exact w1
      · exact w2
      · exact w5
      · exact w3
      · exact w4
      · exact hw)) rfl (rm := { frames := fr, cells := mc, slots := ms, locals := lo }) rfl rfl hd hR
    exact ab_callW (vx_runV (As := As) (b := b) (rest := r) (ab_fix Cx) (hM (.ref b :: As) L h H.size _ XP q) cw ⟨ab_blind, by rw [hbj]; exact vk_recv (i := 0) (adK := fun _ => g (2 + j)) (Cx.2.2.2.2.2.2.2.2.2.2.1.2.2.2.2.1 j hj) (by decide) hS, ab_pre Cx hW hS⟩ rfl (Nat.succ.inj e2) hl.1 (by simp) (ab_rm hb) d (by rw [hMC, hMS]; exact hkn)) hS (ab_sub Cx hW hS)
      (fun E ce q9 L' h' H1 locs1 => ab_leave Cx hout hkn E ce q9 L' h' H1 locs1)
      (fun v L' h' H1 locs1 hR' hW' hS' => hK _ _ _ _ _ _ _ (ab_sh_use hR') H1 locs1 la hl hW' hS')
  next => exact q.elim
/-- a call by an interface, of a list -/
theorem sn_callF {R2 : ab_R} {XP : ab_XP} {MC MS : Nat} (Cx : ab_Cx l D C g own nm cc nL ret ab_T p s m args meth c A) (hout : ∀ x ∈ c.exceptionTable.toList, covers x pc = false) {x y : MethodName} {bytes : ByteArray} {maxL fr mc ms lo na sh i cnt : Nat} {ret' : Option FieldType} {wp : ab_Wp} (hM : ab_CT l D C g y bytes maxL ret' fr mc ms lo wp) (d : decode cc pc = .ok (.invokeinterface i cnt, 5)) (hxy : (x, y) ∈ ab_faces) (w1 : Cond.methodLink own i x ∈ ab_T) (w2 : Cond.instanceMethod y ∈ ab_T) (w3 : Cond.initialized y.cls ∈ ab_T) (w4 : Cond.code y bytes maxL ret' ∈ ab_T) (w5 : Cond.selects RJx4a65c x y ∈ ab_T)
    (hd : x.cls ≠ "java/lang/invoke/MethodHandle" ∧ x.cls ≠ "java/lang/invoke/VarHandle" ∧ (parseMethodDescriptor x.desc).map (fun d => d.parameters.length) = some na) (hR : fr + 1 ≤ R.frames ∧ 8 + (maxL + 11) + lo ≤ R.locals) (hMC : R.cells = MC) (hMS : R.slots = MS) :
    ab_Sn (ab_W p l e R s m args below meth c (vx_MQ below (ab_Post D C R2 A) (ab_PostX D C XP A) args s MC MS A) D C A nL) pc (ab_callV 2 (na + 1) sh wp mc ms MC MS XP (pc + 5)) := by
  intro K hK ls st L h k n q H locs la hl hW hS
  unfold ab_callV at q
  split at q
  next b As r hp =>
    obtain ⟨hb, hkn, ⟨hbL, fs, hfs⟩, q⟩ := ab_cond q
    obtain ⟨bs, e1, e2, e3⟩ := ab_take_spec _ _ _ _ _ hp
    rw [List.append_nil] at e1
    subst e1
    subst e3
    have cw := va_cwF (R := R) (s := s) (args := args) (own := own) (C := RJx4a65c) (index := i) (x := x) (Ts := ab_T) na Cx.2.2.2.2.1 (ab_GI (ws := va_wsF own i RJx4a65c x y (.code y bytes maxL ret' :: ab_T)) (fun w hw => by
      simp only [va_wsF, List.mem_append, List.mem_cons, List.not_mem_nil, or_false] at hw
      rcases hw with (rfl | rfl | rfl | rfl) | rfl | hw
      · exact w1
      · exact w5
      · exact w2
      · exact w3
      · exact w4
      · exact hw)) rfl (rm := { frames := fr, cells := mc, slots := ms, locals := lo }) rfl rfl (Cx.2.2.2.2.2.2.2.2.2.2.1.2.2.2.2.2.2.2.2.2.2.1 _ hxy) hd hR
    exact ab_callW5 (vx_runF (As := As) (b := b) (rest := r) (Cx.2.2.2.2.2.2.2.2.1.1 2 (RJx4a65c, TJx4a65c, 3) rfl).2 (ab_fix Cx) (hM (.ref b :: As) L h H.size (fun v L' h' => ab_sh sh v (fun w => K (pc + 5) ls (w ++ r) L' h' (k + mc) (n + ms))) XP q) cw ⟨ab_blind, ab_recv Cx (ci := 2) rfl hW hbL hfs, ab_pre Cx hW hS⟩ rfl (Nat.succ.inj e2) hl.1 (by simp) (ab_rm hb) d (by rw [hMC, hMS]; exact hkn)) hS (ab_sub Cx hW hS)
      (fun E ce q9 L' h' H1 locs1 => ab_leave Cx hout hkn E ce q9 L' h' H1 locs1)
      (fun v L' h' H1 locs1 hR' hW' hS' => hK _ _ _ _ _ _ _ (ab_sh_use hR') H1 locs1 la hl hW' hS')
  next => exact q.elim
theorem sn_getiS {ref : String} (Cx : ab_Cx l D C g own nm cc nL ret ab_T p s m args meth c A) {Cn : String} {T : u_T} {N ci f i : Nat} (d : decode cc pc = .ok (.getfield i, 3)) (hc : vwCl[ci]? = some (Cn, T, N)) (hin : ∀ w ∈ u_ws Cn T N, w ∈ ab_T) (hf : f < N) (hw : Cond.fieldLink own i ref (T f).2.1 (T f).2.2.1 ∈ ab_T) (hsm : Cond.sameField ref (T f).1 (T f).2.1 (T f).2.2.1 ∈ ab_T) : ab_Sn (ab_W p l e R s m args below meth c Q D C A nL) pc (ab_geti ci f (pc + 3)) := by
  intro K hK ls st L h k n q H locs la hl hW hS
  unfold ab_geti at q
  split at q
  next a r =>
    obtain ⟨ha, fs, x, e1, e2, q⟩ := q
    obtain ⟨j, hj, -⟩ := ab_Wd_get hW ha e1
    exact va_get Cx.1 Cx.2.1 Cx.2.2.2.2.1 hin Cx.2.2.2.1 Cx.2.2.2.2.2.2.2.2.1 hW.1 j hj hc f hf (Cx.2.2.2.2.1 _ hw) (fun x h9 => u_same (Cx.2.2.2.2.1 _ hsm) x h9) e2 d (hK _ _ _ _ _ _ _ q H locs la hl hW hS)
  next => exact q.elim
theorem sn_putiS {ref : String} (Cx : ab_Cx l D C g own nm cc nL ret ab_T p s m args meth c A) {Cn : String} {T : u_T} {N ci f i : Nat} (d : decode cc pc = .ok (.putfield i, 3)) (hc : vwCl[ci]? = some (Cn, T, N)) (hin : ∀ w ∈ u_ws Cn T N, w ∈ ab_T) (ty0 : Nat → FieldType) (hty : ∀ k, k < N → parseFieldDescriptor (T k).2.2.1 = some (ty0 k)) (hnm0 : ∀ a, a < N → ∀ b, b < N → a ≠ b → (T a).2.1 ≠ (T b).2.1) (hf : f < N) (hw : Cond.fieldLink own i ref (T f).2.1 (T f).2.2.1 ∈ ab_T) (hsm : Cond.sameField ref (T f).1 (T f).2.1 (T f).2.2.1 ∈ ab_T) (hfin : (T f).2.2.2 = false) (hd : parseFieldDescriptor (T f).2.2.1 = some .int) : ab_Sn (ab_W p l e R s m args below meth c Q D C A nL) pc (ab_puti ci f (pc + 3)) := by
  intro K hK ls st L h k n q H locs la hl hW hS
  unfold ab_puti at q
  split at q
  next x a r =>
    obtain ⟨ha, fs, e1, e2, q⟩ := q
    obtain ⟨j, hj, hset⟩ := ab_Wd_get hW ha e1
    exact va_put Cx.1 Cx.2.1 Cx.2.2.2.2.1 hin ty0 hty hnm0 Cx.2.2.2.1 Cx.2.2.2.2.2.2.2.2.1 hW.1 hW.2 hS j hj hc f hf (Cx.2.2.2.2.1 _ hw) (fun x h9 => u_same (Cx.2.2.2.2.1 _ hsm) x h9) hfin hd rfl rfl e2 d (fun H1 locs1 p1 p2 p3 => hK _ _ _ _ _ _ _ q H1 locs1 la hl ⟨by rw [← hset]; exact p1, by rw [← hset]; exact p2⟩ p3)
  next => exact q.elim
end AbM
