/-! instructions of the abstract machine, and that they are sound over the kit's rows -/
/-- what a method's body knows of its run -/
def ab_Cx (l : Launch) (D : va_G) (C : Nat → ClassId) (g : Nat → Nat) (own nm : String) (cc : ByteArray) (nL : Nat) (ret : Option FieldType) (Ts : List Cond) (p : Program) (s : State) (m : MethodId) (args : Array Value) (meth : Method) (c : Code) (A : Nat → Prop) : Prop :=
  p.tables.exec = Jvm.exec ∧ c.code = cc ∧ c.maxLocals = nL ∧ s.vm.findClass own = some m.cls ∧ (∀ w ∈ Ts, w.before args s = true) ∧ meth.sig.returnType = ret ∧ meth.locks = false ∧ meth.name = nm ∧ va_K D vwCl (ab_tys C) s ∧ (∀ q : Nat, s.heap.size ≤ q → A q) ∧ ab_Amb g A s ∧ l.stackTraces = false
def ab_W (p : Program) (l : Launch) (e : Env) (R : Room) (s : State) (m : MethodId) (args : Array Value) (below : List Frame) (meth : Method) (c : Code) (Q : State → Prop) (D : va_G) (C : Nat → ClassId) (A : Nat → Prop) (nL : Nat) : ab_K := fun pc ls st L h k n =>
  ∀ (H : Heap) (locs : List Loc) (la : Array Slot), lv_has la nL (ab_lv 0 ls) → ab_Wd D C A L h H → va_S A s.heap H locs → W p l e R s m args below meth c H locs k n Q (F0 m pc la st)
/-! the instructions -/
def ab_push (v : Value) (t : Nat) : ab_I := fun K ls st L h k n => K t ls (v :: st) L h k n
def ab_iload (i t : Nat) : ab_I := fun K ls st L h k n => match ab_get ls i with
  | some (.int x) => K t ls (.int x :: st) L h k n
  | _ => False
def ab_fload (i t : Nat) : ab_I := fun K ls st L h k n => match ab_get ls i with
  | some (.float x) => K t ls (.float x :: st) L h k n
  | _ => False
def ab_dload (i t : Nat) : ab_I := fun K ls st L h k n => match ab_get ls i with
  | some (.double x) => K t ls (.double x :: st) L h k n
  | _ => False
def ab_aload (i t : Nat) : ab_I := fun K ls st L h k n => match ab_get ls i with
  | some (.ref x) => K t ls (.ref x :: st) L h k n
  | some .null => K t ls (.null :: st) L h k n
  | _ => False
def ab_istore (i t : Nat) : ab_I := fun K ls st L h k n => match st with
  | .int x :: r => cond (ab_ok1 ls i) (K t (ab_set ls i (some (.int x))) r L h k n) False
  | _ => False
def ab_fstore (i t : Nat) : ab_I := fun K ls st L h k n => match st with
  | .float x :: r => cond (ab_ok1 ls i) (K t (ab_set ls i (some (.float x))) r L h k n) False
  | _ => False
def ab_dstore (i t : Nat) : ab_I := fun K ls st L h k n => match st with
  | .double x :: r => cond (ab_ok1 ls i) (K t (ab_set (ab_set ls i (some (.double x))) (i + 1) none) r L h k n) False
  | _ => False
def ab_astore (i t : Nat) : ab_I := fun K ls st L h k n => match st with
  | .ref x :: r => cond (ab_ok1 ls i) (K t (ab_set ls i (some (.ref x))) r L h k n) False
  | .null :: r => cond (ab_ok1 ls i) (K t (ab_set ls i (some .null)) r L h k n) False
  | _ => False
def ab_iinc (i : Nat) (d : Int32) (t : Nat) : ab_I := fun K ls st L h k n => match ab_get ls i with
  | some (.int x) => cond (ab_ok1 ls i) (K t (ab_set ls i (some (.int (x + d)))) st L h k n) False
  | _ => False
def ab_bin (f : Int32 → Int32 → Int32) (t : Nat) : ab_I := fun K ls st L h k n => match st with
  | .int y :: .int x :: r => K t ls (.int (f x y) :: r) L h k n
  | _ => False
def ab_idiv (t : Nat) : ab_I := fun K ls st L h k n => match st with
  | .int y :: .int x :: r => (¬ y = 0) ∧ K t ls (.int (x / y) :: r) L h k n
  | _ => False
def ab_irem (t : Nat) : ab_I := fun K ls st L h k n => match st with
  | .int y :: .int x :: r => (¬ y = 0) ∧ K t ls (.int (x - x / y * y) :: r) L h k n
  | _ => False
def ab_binL (f : Int64 → Int64 → Int64) (t : Nat) : ab_I := fun K ls st L h k n => match st with
  | .long y :: .long x :: r => K t ls (.long (f x y) :: r) L h k n
  | _ => False
def ab_lcmp (t : Nat) : ab_I := fun K ls st L h k n => match st with
  | .long y :: .long x :: r => K t ls (.int (lg_cmp x y) :: r) L h k n
  | _ => False
def ab_i2l (t : Nat) : ab_I := fun K ls st L h k n => match st with
  | .int x :: r => K t ls (.long x.toInt64 :: r) L h k n
  | _ => False
def ab_i2c (t : Nat) : ab_I := fun K ls st L h k n => match st with
  | .int x :: r => K t ls (.int (x.toUInt32 % 65536).toInt32 :: r) L h k n
  | _ => False
def ab_i2f (t : Nat) : ab_I := fun K ls st L h k n => match st with
  | .int x :: r => K t ls (.float (FP.i2f x) :: r) L h k n
  | _ => False
def ab_i2d (t : Nat) : ab_I := fun K ls st L h k n => match st with
  | .int x :: r => K t ls (.double (FP.i2d x) :: r) L h k n
  | _ => False
def ab_f2d (t : Nat) : ab_I := fun K ls st L h k n => match st with
  | .float x :: r => vf_n64 (FP.f2d x) ∧ K t ls (.double (FP.f2d x) :: r) L h k n
  | _ => False
def ab_fdiv (t : Nat) : ab_I := fun K ls st L h k n => match st with
  | .float y :: .float x :: r => vf_n32 (FP.fdiv x y) ∧ K t ls (.float (FP.fdiv x y) :: r) L h k n
  | _ => False
def ab_ddiv (t : Nat) : ab_I := fun K ls st L h k n => match st with
  | .double y :: .double x :: r => vf_n64 (FP.ddiv x y) ∧ K t ls (.double (FP.ddiv x y) :: r) L h k n
  | _ => False
def ab_dcmp (op : CmpOp) (t : Nat) : ab_I := fun K ls st L h k n => match st with
  | .double y :: .double x :: r => K t ls (.int (Op.cmpValue (FP.dcmp x y) op) :: r) L h k n
  | _ => False
def ab_fcmp (op : CmpOp) (t : Nat) : ab_I := fun K ls st L h k n => match st with
  | .float y :: .float x :: r => K t ls (.int (Op.cmpValue (FP.fcmp x y) op) :: r) L h k n
  | _ => False
def ab_if (f : Int32 → Prop) (t1 t2 : Nat) : ab_I := fun K ls st L h k n => match st with
  | .int x :: r => (f x → K t1 ls r L h k n) ∧ (¬ f x → K t2 ls r L h k n)
  | _ => False
def ab_icmp (f : Int32 → Int32 → Prop) (t1 t2 : Nat) : ab_I := fun K ls st L h k n => match st with
  | .int y :: .int x :: r => (f x y → K t1 ls r L h k n) ∧ (¬ f x y → K t2 ls r L h k n)
  | _ => False
def ab_acmp (t1 t2 : Nat) : ab_I := fun K ls st L h k n => match st with
  | .ref y :: .ref x :: r => (x = y → K t1 ls r L h k n) ∧ (¬ x = y → K t2 ls r L h k n)
  | .ref _ :: .null :: r => K t2 ls r L h k n
  | .null :: .ref _ :: r => K t2 ls r L h k n
  | .null :: .null :: r => K t1 ls r L h k n
  | _ => False
def ab_goto (t : Nat) : ab_I := fun K ls st L h k n => K t ls st L h k n
def ab_sw (d : Nat) (x : Int32) (f : Nat → Prop) : List (Int32 × Nat) → Prop
  | [] => f d
  | q :: r => (x = q.1 → f q.2) ∧ (¬ x = q.1 → ab_sw d x f r)
def ab_switch (ps : List (Int32 × Nat)) (d : Nat) : ab_I := fun K ls st L h k n => match st with
  | .int x :: r => ab_sw d x (fun t => K t ls r L h k n) ps
  | _ => False
def ab_dup (t : Nat) : ab_I := fun K ls st L h k n => match st with
  | .int x :: r => K t ls (.int x :: .int x :: r) L h k n
  | .ref x :: r => K t ls (.ref x :: .ref x :: r) L h k n
  | _ => False
def ab_dup2 (t : Nat) : ab_I := fun K ls st L h k n => match st with
  | .int x :: .ref y :: r => K t ls (.int x :: .ref y :: .int x :: .ref y :: r) L h k n
  | _ => False
def ab_pop (t : Nat) : ab_I := fun K ls st L h k n => match st with
  | .int _ :: r => K t ls r L h k n
  | .ref _ :: r => K t ls r L h k n
  | _ => False
section AbM
variable {p : Program} {l : Launch} {e : Env} {R : Room} {s : State} {m : MethodId} {args : Array Value} {below : List Frame} {meth : Method} {c : Code} {Q : State → Prop} {D : va_G} {C : Nat → ClassId} {g : Nat → Nat} {A : Nat → Prop} {nL : Nat} {own nm : String} {cc : ByteArray} {ret : Option FieldType} {Ts : List Cond} {pc : Nat}
theorem sn_iconst (Cx : ab_Cx l D C g own nm cc nL ret Ts p s m args meth c A) {n : Int} {v : Int32} (d : decode cc pc = .ok (.iconst n, 1)) (hv : Int32.ofInt n = v) : ab_Sn (ab_W p l e R s m args below meth c Q D C A nL) pc (ab_push (.int v) (pc + 1)) :=
  fun _ hK _ _ _ _ _ _ q H locs la hl hW hS => lv_iconst Cx.1 Cx.2.1 d hv (hK _ _ _ _ _ _ _ q H locs la hl hW hS)
theorem sn_bipush (Cx : ab_Cx l D C g own nm cc nL ret Ts p s m args meth c A) {n : Int} {v : Int32} (d : decode cc pc = .ok (.bipush n, 2)) (hv : (Int8.ofInt n).toInt32 = v) : ab_Sn (ab_W p l e R s m args below meth c Q D C A nL) pc (ab_push (.int v) (pc + 2)) :=
  fun _ hK _ _ _ _ _ _ q H locs la hl hW hS => lv_bipush Cx.1 Cx.2.1 d hv (hK _ _ _ _ _ _ _ q H locs la hl hW hS)
theorem sn_sipush (Cx : ab_Cx l D C g own nm cc nL ret Ts p s m args meth c A) {n : Int} {v : Int32} (d : decode cc pc = .ok (.sipush n, 3)) (hv : (Int16.ofInt n).toInt32 = v) : ab_Sn (ab_W p l e R s m args below meth c Q D C A nL) pc (ab_push (.int v) (pc + 3)) :=
  fun _ hK _ _ _ _ _ _ q H locs la hl hW hS => lv_sipush Cx.1 Cx.2.1 d hv (hK _ _ _ _ _ _ _ q H locs la hl hW hS)
theorem sn_lconst (Cx : ab_Cx l D C g own nm cc nL ret Ts p s m args meth c A) {n : Fin 2} {v : Int64} (d : decode cc pc = .ok (.lconst n, 1)) (hv : Int64.ofNat (n : Nat) = v) : ab_Sn (ab_W p l e R s m args below meth c Q D C A nL) pc (ab_push (.long v) (pc + 1)) :=
  fun _ hK _ _ _ _ _ _ q H locs la hl hW hS => lv_lconst Cx.1 Cx.2.1 d hv (hK _ _ _ _ _ _ _ q H locs la hl hW hS)
theorem sn_fconst0 (Cx : ab_Cx l D C g own nm cc nL ret Ts p s m args meth c A) (d : decode cc pc = .ok (.fconst 0, 1)) : ab_Sn (ab_W p l e R s m args below meth c Q D C A nL) pc (ab_push (.float FP.fconst0) (pc + 1)) :=
  fun _ hK _ _ _ _ _ _ q H locs la hl hW hS => lv_fconst0 Cx.1 Cx.2.1 d (hK _ _ _ _ _ _ _ q H locs la hl hW hS)
theorem sn_dconst0 (Cx : ab_Cx l D C g own nm cc nL ret Ts p s m args meth c A) (d : decode cc pc = .ok (.dconst 0, 1)) : ab_Sn (ab_W p l e R s m args below meth c Q D C A nL) pc (ab_push (.double FP.dconst0) (pc + 1)) :=
  fun _ hK _ _ _ _ _ _ q H locs la hl hW hS => lv_dconst0 Cx.1 Cx.2.1 d (hK _ _ _ _ _ _ _ q H locs la hl hW hS)
theorem sn_null (Cx : ab_Cx l D C g own nm cc nL ret Ts p s m args meth c A) (d : decode cc pc = .ok (.aconst_null, 1)) : ab_Sn (ab_W p l e R s m args below meth c Q D C A nL) pc (ab_push .null (pc + 1)) :=
  fun _ hK _ _ _ _ _ _ q H locs la hl hW hS => lv_null Cx.1 Cx.2.1 d (hK _ _ _ _ _ _ _ q H locs la hl hW hS)
theorem sn_ldc (Cx : ab_Cx l D C g own nm cc nL ret Ts p s m args meth c A) {i : Nat} {v : Int32} (d : decode cc pc = .ok (.ldc i, 2)) (hw : Cond.constant own i v ∈ Ts) : ab_Sn (ab_W p l e R s m args below meth c Q D C A nL) pc (ab_push (.int v) (pc + 2)) :=
  fun _ hK _ _ _ _ _ _ q H locs la hl hW hS => lv_ldc Cx.1 Cx.2.1 Cx.2.2.2.1 (Cx.2.2.2.2.1 _ hw) d (hK _ _ _ _ _ _ _ q H locs la hl hW hS)
theorem sn_ldcw (Cx : ab_Cx l D C g own nm cc nL ret Ts p s m args meth c A) {i : Nat} {v : Int32} (d : decode cc pc = .ok (.ldc_w i, 3)) (hw : Cond.constant own i v ∈ Ts) : ab_Sn (ab_W p l e R s m args below meth c Q D C A nL) pc (ab_push (.int v) (pc + 3)) :=
  fun _ hK _ _ _ _ _ _ q H locs la hl hW hS => lv_ldcw Cx.1 Cx.2.1 Cx.2.2.2.1 (Cx.2.2.2.2.1 _ hw) d (hK _ _ _ _ _ _ _ q H locs la hl hW hS)
theorem sn_ldc2 (Cx : ab_Cx l D C g own nm cc nL ret Ts p s m args meth c A) {i : Nat} {v : Int64} (d : decode cc pc = .ok (.ldc2_w i, 3)) (hw : Cond.constantLong own i v ∈ Ts) : ab_Sn (ab_W p l e R s m args below meth c Q D C A nL) pc (ab_push (.long v) (pc + 3)) :=
  fun _ hK _ _ _ _ _ _ q H locs la hl hW hS => lv_ldc2 Cx.1 Cx.2.1 Cx.2.2.2.1 (Cx.2.2.2.2.1 _ hw) d (hK _ _ _ _ _ _ _ q H locs la hl hW hS)
theorem sn_iload_n (Cx : ab_Cx l D C g own nm cc nL ret Ts p s m args meth c A) {k : Fin 4} {i : Nat} (d : decode cc pc = .ok (.iload_n k, 1)) (hi : (k : Nat) = i) : ab_Sn (ab_W p l e R s m args below meth c Q D C A nL) pc (ab_iload i (pc + 1)) := by
  intro K hK ls st L h k n q H locs la hl hW hS
  unfold ab_iload at q
  split at q
  next x he => exact lv_iload_n Cx.1 Cx.2.1 d hi (ab_has_at hl he) (hK _ _ _ _ _ _ _ q H locs la hl hW hS)
  next => exact q.elim
theorem sn_iload (Cx : ab_Cx l D C g own nm cc nL ret Ts p s m args meth c A) {i : Nat} (d : decode cc pc = .ok (.iload i, 2)) : ab_Sn (ab_W p l e R s m args below meth c Q D C A nL) pc (ab_iload i (pc + 2)) := by
  intro K hK ls st L h k n q H locs la hl hW hS
  unfold ab_iload at q
  split at q
  next x he => exact lv_iload Cx.1 Cx.2.1 d (ab_has_at hl he) (hK _ _ _ _ _ _ _ q H locs la hl hW hS)
  next => exact q.elim
theorem sn_fload_n (Cx : ab_Cx l D C g own nm cc nL ret Ts p s m args meth c A) {k : Fin 4} {i : Nat} (d : decode cc pc = .ok (.fload_n k, 1)) (hi : (k : Nat) = i) : ab_Sn (ab_W p l e R s m args below meth c Q D C A nL) pc (ab_fload i (pc + 1)) := by
  intro K hK ls st L h k n q H locs la hl hW hS
  unfold ab_fload at q
  split at q
  next x he => exact lv_fload_n Cx.1 Cx.2.1 d hi (ab_has_at hl he) (hK _ _ _ _ _ _ _ q H locs la hl hW hS)
  next => exact q.elim
theorem sn_fload (Cx : ab_Cx l D C g own nm cc nL ret Ts p s m args meth c A) {i : Nat} (d : decode cc pc = .ok (.fload i, 2)) : ab_Sn (ab_W p l e R s m args below meth c Q D C A nL) pc (ab_fload i (pc + 2)) := by
  intro K hK ls st L h k n q H locs la hl hW hS
  unfold ab_fload at q
  split at q
  next x he => exact lv_fload Cx.1 Cx.2.1 d (ab_has_at hl he) (hK _ _ _ _ _ _ _ q H locs la hl hW hS)
  next => exact q.elim
theorem sn_dload (Cx : ab_Cx l D C g own nm cc nL ret Ts p s m args meth c A) {i : Nat} (d : decode cc pc = .ok (.dload i, 2)) : ab_Sn (ab_W p l e R s m args below meth c Q D C A nL) pc (ab_dload i (pc + 2)) := by
  intro K hK ls st L h k n q H locs la hl hW hS
  unfold ab_dload at q
  split at q
  next x he => exact lv_dload Cx.1 Cx.2.1 d (ab_has_at hl he) (hK _ _ _ _ _ _ _ q H locs la hl hW hS)
  next => exact q.elim
theorem sn_aload_n (Cx : ab_Cx l D C g own nm cc nL ret Ts p s m args meth c A) {k : Fin 4} {i : Nat} (d : decode cc pc = .ok (.aload_n k, 1)) (hi : (k : Nat) = i) : ab_Sn (ab_W p l e R s m args below meth c Q D C A nL) pc (ab_aload i (pc + 1)) := by
  intro K hK ls st L h k n q H locs la hl hW hS
  unfold ab_aload at q
  split at q
  next x he => exact lv_aload_n Cx.1 Cx.2.1 d hi (ab_has_at hl he) (hK _ _ _ _ _ _ _ q H locs la hl hW hS)
  next he => exact lv_aload_nN Cx.1 Cx.2.1 d hi (ab_has_at hl he) (hK _ _ _ _ _ _ _ q H locs la hl hW hS)
  next => exact q.elim
theorem sn_aload (Cx : ab_Cx l D C g own nm cc nL ret Ts p s m args meth c A) {i : Nat} (d : decode cc pc = .ok (.aload i, 2)) : ab_Sn (ab_W p l e R s m args below meth c Q D C A nL) pc (ab_aload i (pc + 2)) := by
  intro K hK ls st L h k n q H locs la hl hW hS
  unfold ab_aload at q
  split at q
  next x he => exact lv_aload Cx.1 Cx.2.1 d (ab_has_at hl he) (hK _ _ _ _ _ _ _ q H locs la hl hW hS)
  next he => exact lv_aloadN Cx.1 Cx.2.1 d (ab_has_at hl he) (hK _ _ _ _ _ _ _ q H locs la hl hW hS)
  next => exact q.elim
theorem ab_cond {b : Bool} {P : Prop} (h : cond b P False) : b = true ∧ P := by
  cases b
  · exact h.elim
  · exact ⟨rfl, h⟩
theorem sn_istore_n (Cx : ab_Cx l D C g own nm cc nL ret Ts p s m args meth c A) {k : Fin 4} {i : Nat} (d : decode cc pc = .ok (.istore_n k, 1)) (hi : (k : Nat) = i) (hn : i < nL) : ab_Sn (ab_W p l e R s m args below meth c Q D C A nL) pc (ab_istore i (pc + 1)) := by
  intro K hK ls st L h k n q H locs la hl hW hS
  unfold ab_istore at q
  split at q
  next x r =>
    obtain ⟨h1, q⟩ := ab_cond q
    exact lv_istore_n Cx.1 Cx.2.1 d hi hl hn rfl (fun la' hl' => hK _ _ _ _ _ _ _ q H locs la' (ab_has_mono hl' (ab_st1 h1)) hW hS)
  next => exact q.elim
theorem sn_istore (Cx : ab_Cx l D C g own nm cc nL ret Ts p s m args meth c A) {i : Nat} (d : decode cc pc = .ok (.istore i, 2)) (hn : i < nL) : ab_Sn (ab_W p l e R s m args below meth c Q D C A nL) pc (ab_istore i (pc + 2)) := by
  intro K hK ls st L h k n q H locs la hl hW hS
  unfold ab_istore at q
  split at q
  next x r =>
    obtain ⟨h1, q⟩ := ab_cond q
    exact lv_istore Cx.1 Cx.2.1 d hl hn rfl (fun la' hl' => hK _ _ _ _ _ _ _ q H locs la' (ab_has_mono hl' (ab_st1 h1)) hW hS)
  next => exact q.elim
theorem sn_fstore_n (Cx : ab_Cx l D C g own nm cc nL ret Ts p s m args meth c A) {k : Fin 4} {i : Nat} (d : decode cc pc = .ok (.fstore_n k, 1)) (hi : (k : Nat) = i) (hn : i < nL) : ab_Sn (ab_W p l e R s m args below meth c Q D C A nL) pc (ab_fstore i (pc + 1)) := by
  intro K hK ls st L h k n q H locs la hl hW hS
  unfold ab_fstore at q
  split at q
  next x r =>
    obtain ⟨h1, q⟩ := ab_cond q
    exact lv_fstore_n Cx.1 Cx.2.1 d hi hl hn rfl (fun la' hl' => hK _ _ _ _ _ _ _ q H locs la' (ab_has_mono hl' (ab_st1 h1)) hW hS)
  next => exact q.elim
theorem sn_fstore (Cx : ab_Cx l D C g own nm cc nL ret Ts p s m args meth c A) {i : Nat} (d : decode cc pc = .ok (.fstore i, 2)) (hn : i < nL) : ab_Sn (ab_W p l e R s m args below meth c Q D C A nL) pc (ab_fstore i (pc + 2)) := by
  intro K hK ls st L h k n q H locs la hl hW hS
  unfold ab_fstore at q
  split at q
  next x r =>
    obtain ⟨h1, q⟩ := ab_cond q
    exact lv_fstore Cx.1 Cx.2.1 d hl hn rfl (fun la' hl' => hK _ _ _ _ _ _ _ q H locs la' (ab_has_mono hl' (ab_st1 h1)) hW hS)
  next => exact q.elim
theorem sn_dstore (Cx : ab_Cx l D C g own nm cc nL ret Ts p s m args meth c A) {i : Nat} (d : decode cc pc = .ok (.dstore i, 2)) (hn : i + 1 < nL) : ab_Sn (ab_W p l e R s m args below meth c Q D C A nL) pc (ab_dstore i (pc + 2)) := by
  intro K hK ls st L h k n q H locs la hl hW hS
  unfold ab_dstore at q
  split at q
  next x r =>
    obtain ⟨h1, q⟩ := ab_cond q
    exact lv_dstore Cx.1 Cx.2.1 d hl hn rfl (fun la' hl' => hK _ _ _ _ _ _ _ q H locs la' (ab_has_mono hl' (ab_st2 h1)) hW hS)
  next => exact q.elim
theorem sn_astore_n (Cx : ab_Cx l D C g own nm cc nL ret Ts p s m args meth c A) {k : Fin 4} {i : Nat} (d : decode cc pc = .ok (.astore_n k, 1)) (hi : (k : Nat) = i) (hn : i < nL) : ab_Sn (ab_W p l e R s m args below meth c Q D C A nL) pc (ab_astore i (pc + 1)) := by
  intro K hK ls st L h k n q H locs la hl hW hS
  unfold ab_astore at q
  split at q
  next x r =>
    obtain ⟨h1, q⟩ := ab_cond q
    exact lv_astore_n Cx.1 Cx.2.1 d hi hl hn rfl (fun la' hl' => hK _ _ _ _ _ _ _ q H locs la' (ab_has_mono hl' (ab_st1 h1)) hW hS)
  next r =>
    obtain ⟨h1, q⟩ := ab_cond q
    exact lv_astore_nN Cx.1 Cx.2.1 d hi hl hn rfl (fun la' hl' => hK _ _ _ _ _ _ _ q H locs la' (ab_has_mono hl' (ab_st1 h1)) hW hS)
  next => exact q.elim
theorem sn_astore (Cx : ab_Cx l D C g own nm cc nL ret Ts p s m args meth c A) {i : Nat} (d : decode cc pc = .ok (.astore i, 2)) (hn : i < nL) : ab_Sn (ab_W p l e R s m args below meth c Q D C A nL) pc (ab_astore i (pc + 2)) := by
  intro K hK ls st L h k n q H locs la hl hW hS
  unfold ab_astore at q
  split at q
  next x r =>
    obtain ⟨h1, q⟩ := ab_cond q
    exact lv_astore Cx.1 Cx.2.1 d hl hn rfl (fun la' hl' => hK _ _ _ _ _ _ _ q H locs la' (ab_has_mono hl' (ab_st1 h1)) hW hS)
  next r =>
    obtain ⟨h1, q⟩ := ab_cond q
    exact lv_astoreN Cx.1 Cx.2.1 d hl hn rfl (fun la' hl' => hK _ _ _ _ _ _ _ q H locs la' (ab_has_mono hl' (ab_st1 h1)) hW hS)
  next => exact q.elim
theorem sn_iinc (Cx : ab_Cx l D C g own nm cc nL ret Ts p s m args meth c A) {i : Nat} {n : Int} {v : Int32} (d : decode cc pc = .ok (.iinc i n, 3)) (hv : Int32.ofInt n = v) (hn : i < nL) : ab_Sn (ab_W p l e R s m args below meth c Q D C A nL) pc (ab_iinc i v (pc + 3)) := by
  intro K hK ls st L h k n q H locs la hl hW hS
  unfold ab_iinc at q
  split at q
  next x he =>
    obtain ⟨h1, q⟩ := ab_cond q
    obtain ⟨j, hj⟩ := List.getElem?_of_mem ((ab_lv_mem ls 0 i _).mpr ⟨i, by omega, he⟩)
    exact lv_iinc Cx.1 Cx.2.1 d hl hj (by rw [hv]) hn rfl (fun la' hl' => hK _ _ _ _ _ _ _ q H locs la' (ab_has_mono hl' (ab_st1 h1)) hW hS)
  next => exact q.elim
theorem sn_iadd (Cx : ab_Cx l D C g own nm cc nL ret Ts p s m args meth c A) (d : decode cc pc = .ok (.iadd, 1)) : ab_Sn (ab_W p l e R s m args below meth c Q D C A nL) pc (ab_bin (fun x y => x + y) (pc + 1)) := by
  intro K hK ls st L h k n q H locs la hl hW hS
  unfold ab_bin at q
  split at q
  next => exact lv_iadd Cx.1 Cx.2.1 d (hK _ _ _ _ _ _ _ q H locs la hl hW hS)
  next => exact q.elim
theorem sn_isub (Cx : ab_Cx l D C g own nm cc nL ret Ts p s m args meth c A) (d : decode cc pc = .ok (.isub, 1)) : ab_Sn (ab_W p l e R s m args below meth c Q D C A nL) pc (ab_bin (fun x y => x - y) (pc + 1)) := by
  intro K hK ls st L h k n q H locs la hl hW hS
  unfold ab_bin at q
  split at q
  next => exact lv_isub Cx.1 Cx.2.1 d (hK _ _ _ _ _ _ _ q H locs la hl hW hS)
  next => exact q.elim
theorem sn_imul (Cx : ab_Cx l D C g own nm cc nL ret Ts p s m args meth c A) (d : decode cc pc = .ok (.imul, 1)) : ab_Sn (ab_W p l e R s m args below meth c Q D C A nL) pc (ab_bin (fun x y => x * y) (pc + 1)) := by
  intro K hK ls st L h k n q H locs la hl hW hS
  unfold ab_bin at q
  split at q
  next => exact lv_imul Cx.1 Cx.2.1 d (hK _ _ _ _ _ _ _ q H locs la hl hW hS)
  next => exact q.elim
theorem sn_iand (Cx : ab_Cx l D C g own nm cc nL ret Ts p s m args meth c A) (d : decode cc pc = .ok (.iand, 1)) : ab_Sn (ab_W p l e R s m args below meth c Q D C A nL) pc (ab_bin (fun x y => x &&& y) (pc + 1)) := by
  intro K hK ls st L h k n q H locs la hl hW hS
  unfold ab_bin at q
  split at q
  next => exact lv_iand Cx.1 Cx.2.1 d (hK _ _ _ _ _ _ _ q H locs la hl hW hS)
  next => exact q.elim
theorem sn_ior (Cx : ab_Cx l D C g own nm cc nL ret Ts p s m args meth c A) (d : decode cc pc = .ok (.ior, 1)) : ab_Sn (ab_W p l e R s m args below meth c Q D C A nL) pc (ab_bin (fun x y => x ||| y) (pc + 1)) := by
  intro K hK ls st L h k n q H locs la hl hW hS
  unfold ab_bin at q
  split at q
  next => exact lv_ior Cx.1 Cx.2.1 d (hK _ _ _ _ _ _ _ q H locs la hl hW hS)
  next => exact q.elim
theorem sn_ixor (Cx : ab_Cx l D C g own nm cc nL ret Ts p s m args meth c A) (d : decode cc pc = .ok (.ixor, 1)) : ab_Sn (ab_W p l e R s m args below meth c Q D C A nL) pc (ab_bin (fun x y => x ^^^ y) (pc + 1)) := by
  intro K hK ls st L h k n q H locs la hl hW hS
  unfold ab_bin at q
  split at q
  next => exact lv_ixor Cx.1 Cx.2.1 d (hK _ _ _ _ _ _ _ q H locs la hl hW hS)
  next => exact q.elim
theorem sn_ishl (Cx : ab_Cx l D C g own nm cc nL ret Ts p s m args meth c A) (d : decode cc pc = .ok (.ishl, 1)) : ab_Sn (ab_W p l e R s m args below meth c Q D C A nL) pc (ab_bin (fun x y => x <<< (y &&& 31)) (pc + 1)) := by
  intro K hK ls st L h k n q H locs la hl hW hS
  unfold ab_bin at q
  split at q
  next => exact lv_ishl Cx.1 Cx.2.1 d (hK _ _ _ _ _ _ _ q H locs la hl hW hS)
  next => exact q.elim
theorem sn_ishr (Cx : ab_Cx l D C g own nm cc nL ret Ts p s m args meth c A) (d : decode cc pc = .ok (.ishr, 1)) : ab_Sn (ab_W p l e R s m args below meth c Q D C A nL) pc (ab_bin (fun x y => x >>> (y &&& 31)) (pc + 1)) := by
  intro K hK ls st L h k n q H locs la hl hW hS
  unfold ab_bin at q
  split at q
  next => exact lv_ishr Cx.1 Cx.2.1 d (hK _ _ _ _ _ _ _ q H locs la hl hW hS)
  next => exact q.elim
theorem sn_ladd (Cx : ab_Cx l D C g own nm cc nL ret Ts p s m args meth c A) (d : decode cc pc = .ok (.ladd, 1)) : ab_Sn (ab_W p l e R s m args below meth c Q D C A nL) pc (ab_binL (fun x y => x + y) (pc + 1)) := by
  intro K hK ls st L h k n q H locs la hl hW hS
  unfold ab_binL at q
  split at q
  next => exact lv_ladd Cx.1 Cx.2.1 d (hK _ _ _ _ _ _ _ q H locs la hl hW hS)
  next => exact q.elim
theorem sn_lsub (Cx : ab_Cx l D C g own nm cc nL ret Ts p s m args meth c A) (d : decode cc pc = .ok (.lsub, 1)) : ab_Sn (ab_W p l e R s m args below meth c Q D C A nL) pc (ab_binL (fun x y => x - y) (pc + 1)) := by
  intro K hK ls st L h k n q H locs la hl hW hS
  unfold ab_binL at q
  split at q
  next => exact lv_lsub Cx.1 Cx.2.1 d (hK _ _ _ _ _ _ _ q H locs la hl hW hS)
  next => exact q.elim
theorem sn_lcmp (Cx : ab_Cx l D C g own nm cc nL ret Ts p s m args meth c A) (d : decode cc pc = .ok (.lcmp, 1)) : ab_Sn (ab_W p l e R s m args below meth c Q D C A nL) pc (ab_lcmp (pc + 1)) := by
  intro K hK ls st L h k n q H locs la hl hW hS
  unfold ab_lcmp at q
  split at q
  next => exact W.lcmp Cx.1 Cx.2.1 d (hK _ _ _ _ _ _ _ q H locs la hl hW hS)
  next => exact q.elim
theorem sn_i2l (Cx : ab_Cx l D C g own nm cc nL ret Ts p s m args meth c A) (d : decode cc pc = .ok (.i2l, 1)) : ab_Sn (ab_W p l e R s m args below meth c Q D C A nL) pc (ab_i2l (pc + 1)) := by
  intro K hK ls st L h k n q H locs la hl hW hS
  unfold ab_i2l at q
  split at q
  next => exact lv_i2l Cx.1 Cx.2.1 d rfl (hK _ _ _ _ _ _ _ q H locs la hl hW hS)
  next => exact q.elim
theorem sn_i2c (Cx : ab_Cx l D C g own nm cc nL ret Ts p s m args meth c A) (d : decode cc pc = .ok (.i2c, 1)) : ab_Sn (ab_W p l e R s m args below meth c Q D C A nL) pc (ab_i2c (pc + 1)) := by
  intro K hK ls st L h k n q H locs la hl hW hS
  unfold ab_i2c at q
  split at q
  next => exact lv_i2c Cx.1 Cx.2.1 d rfl (hK _ _ _ _ _ _ _ q H locs la hl hW hS)
  next => exact q.elim
theorem sn_i2f (Cx : ab_Cx l D C g own nm cc nL ret Ts p s m args meth c A) (d : decode cc pc = .ok (.i2f, 1)) : ab_Sn (ab_W p l e R s m args below meth c Q D C A nL) pc (ab_i2f (pc + 1)) := by
  intro K hK ls st L h k n q H locs la hl hW hS
  unfold ab_i2f at q
  split at q
  next => exact lv_i2f Cx.1 Cx.2.1 d (hK _ _ _ _ _ _ _ q H locs la hl hW hS)
  next => exact q.elim
theorem sn_i2d (Cx : ab_Cx l D C g own nm cc nL ret Ts p s m args meth c A) (d : decode cc pc = .ok (.i2d, 1)) : ab_Sn (ab_W p l e R s m args below meth c Q D C A nL) pc (ab_i2d (pc + 1)) := by
  intro K hK ls st L h k n q H locs la hl hW hS
  unfold ab_i2d at q
  split at q
  next => exact lv_i2d Cx.1 Cx.2.1 d (hK _ _ _ _ _ _ _ q H locs la hl hW hS)
  next => exact q.elim
theorem sn_idiv (Cx : ab_Cx l D C g own nm cc nL ret Ts p s m args meth c A) (d : decode cc pc = .ok (.idiv, 1)) : ab_Sn (ab_W p l e R s m args below meth c Q D C A nL) pc (ab_idiv (pc + 1)) := by
  intro K hK ls st L h k n q H locs la hl hW hS
  unfold ab_idiv at q
  split at q
  next => exact lv_idiv Cx.1 Cx.2.1 d q.1 (hK _ _ _ _ _ _ _ q.2 H locs la hl hW hS)
  next => exact q.elim
theorem sn_irem (Cx : ab_Cx l D C g own nm cc nL ret Ts p s m args meth c A) (d : decode cc pc = .ok (.irem, 1)) : ab_Sn (ab_W p l e R s m args below meth c Q D C A nL) pc (ab_irem (pc + 1)) := by
  intro K hK ls st L h k n q H locs la hl hW hS
  unfold ab_irem at q
  split at q
  next => exact lv_irem Cx.1 Cx.2.1 d q.1 (hK _ _ _ _ _ _ _ q.2 H locs la hl hW hS)
  next => exact q.elim
theorem sn_f2d (Cx : ab_Cx l D C g own nm cc nL ret Ts p s m args meth c A) (d : decode cc pc = .ok (.f2d, 1)) : ab_Sn (ab_W p l e R s m args below meth c Q D C A nL) pc (ab_f2d (pc + 1)) := by
  intro K hK ls st L h k n q H locs la hl hW hS
  unfold ab_f2d at q
  split at q
  next => exact lv_f2d Cx.1 Cx.2.1 d q.1 (hK _ _ _ _ _ _ _ q.2 H locs la hl hW hS)
  next => exact q.elim
theorem sn_fdiv (Cx : ab_Cx l D C g own nm cc nL ret Ts p s m args meth c A) (d : decode cc pc = .ok (.fdiv, 1)) : ab_Sn (ab_W p l e R s m args below meth c Q D C A nL) pc (ab_fdiv (pc + 1)) := by
  intro K hK ls st L h k n q H locs la hl hW hS
  unfold ab_fdiv at q
  split at q
  next => exact lv_fdiv Cx.1 Cx.2.1 d q.1 (hK _ _ _ _ _ _ _ q.2 H locs la hl hW hS)
  next => exact q.elim
theorem sn_ddiv (Cx : ab_Cx l D C g own nm cc nL ret Ts p s m args meth c A) (d : decode cc pc = .ok (.ddiv, 1)) : ab_Sn (ab_W p l e R s m args below meth c Q D C A nL) pc (ab_ddiv (pc + 1)) := by
  intro K hK ls st L h k n q H locs la hl hW hS
  unfold ab_ddiv at q
  split at q
  next => exact lv_ddiv Cx.1 Cx.2.1 d q.1 (hK _ _ _ _ _ _ _ q.2 H locs la hl hW hS)
  next => exact q.elim
theorem sn_dcmp (Cx : ab_Cx l D C g own nm cc nL ret Ts p s m args meth c A) {op : CmpOp} (d : decode cc pc = .ok (.dcmp op, 1)) : ab_Sn (ab_W p l e R s m args below meth c Q D C A nL) pc (ab_dcmp op (pc + 1)) := by
  intro K hK ls st L h k n q H locs la hl hW hS
  unfold ab_dcmp at q
  split at q
  next => exact lv_dcmp Cx.1 Cx.2.1 d (hK _ _ _ _ _ _ _ q H locs la hl hW hS)
  next => exact q.elim
theorem sn_fcmp (Cx : ab_Cx l D C g own nm cc nL ret Ts p s m args meth c A) {op : CmpOp} (d : decode cc pc = .ok (.fcmp op, 1)) : ab_Sn (ab_W p l e R s m args below meth c Q D C A nL) pc (ab_fcmp op (pc + 1)) := by
  intro K hK ls st L h k n q H locs la hl hW hS
  unfold ab_fcmp at q
  split at q
  next => exact lv_fcmp Cx.1 Cx.2.1 d (hK _ _ _ _ _ _ _ q H locs la hl hW hS)
  next => exact q.elim
theorem sn_if_eq (Cx : ab_Cx l D C g own nm cc nL ret Ts p s m args meth c A) {off : Int} {tgt : Nat} (d : decode cc pc = .ok (.ifCond .eq off, 3)) (ht : (pc : Int) + off = (tgt : Int)) : ab_Sn (ab_W p l e R s m args below meth c Q D C A nL) pc (ab_if (fun x => x = 0) tgt (pc + 3)) := by
  intro K hK ls st L h k n q H locs la hl hW hS
  unfold ab_if at q
  split at q
  next => exact lv_if_eq Cx.1 Cx.2.1 d ht (fun z => hK _ _ _ _ _ _ _ (q.1 z) H locs la hl hW hS) (fun z => hK _ _ _ _ _ _ _ (q.2 z) H locs la hl hW hS)
  next => exact q.elim
theorem sn_icmp_eq (Cx : ab_Cx l D C g own nm cc nL ret Ts p s m args meth c A) {off : Int} {tgt : Nat} (d : decode cc pc = .ok (.if_icmp .eq off, 3)) (ht : (pc : Int) + off = (tgt : Int)) : ab_Sn (ab_W p l e R s m args below meth c Q D C A nL) pc (ab_icmp (fun x y => x = y) tgt (pc + 3)) := by
  intro K hK ls st L h k n q H locs la hl hW hS
  unfold ab_icmp at q
  split at q
  next => exact lv_icmp_eq Cx.1 Cx.2.1 d ht (fun z => hK _ _ _ _ _ _ _ (q.1 z) H locs la hl hW hS) (fun z => hK _ _ _ _ _ _ _ (q.2 z) H locs la hl hW hS)
  next => exact q.elim
theorem sn_if_lt (Cx : ab_Cx l D C g own nm cc nL ret Ts p s m args meth c A) {off : Int} {tgt : Nat} (d : decode cc pc = .ok (.ifCond .lt off, 3)) (ht : (pc : Int) + off = (tgt : Int)) : ab_Sn (ab_W p l e R s m args below meth c Q D C A nL) pc (ab_if (fun x => x < 0) tgt (pc + 3)) := by
  intro K hK ls st L h k n q H locs la hl hW hS
  unfold ab_if at q
  split at q
  next => exact lv_if_lt Cx.1 Cx.2.1 d ht (fun z => hK _ _ _ _ _ _ _ (q.1 z) H locs la hl hW hS) (fun z => hK _ _ _ _ _ _ _ (q.2 z) H locs la hl hW hS)
  next => exact q.elim
theorem sn_icmp_lt (Cx : ab_Cx l D C g own nm cc nL ret Ts p s m args meth c A) {off : Int} {tgt : Nat} (d : decode cc pc = .ok (.if_icmp .lt off, 3)) (ht : (pc : Int) + off = (tgt : Int)) : ab_Sn (ab_W p l e R s m args below meth c Q D C A nL) pc (ab_icmp (fun x y => x < y) tgt (pc + 3)) := by
  intro K hK ls st L h k n q H locs la hl hW hS
  unfold ab_icmp at q
  split at q
  next => exact lv_icmp_lt Cx.1 Cx.2.1 d ht (fun z => hK _ _ _ _ _ _ _ (q.1 z) H locs la hl hW hS) (fun z => hK _ _ _ _ _ _ _ (q.2 z) H locs la hl hW hS)
  next => exact q.elim
theorem sn_if_ge (Cx : ab_Cx l D C g own nm cc nL ret Ts p s m args meth c A) {off : Int} {tgt : Nat} (d : decode cc pc = .ok (.ifCond .ge off, 3)) (ht : (pc : Int) + off = (tgt : Int)) : ab_Sn (ab_W p l e R s m args below meth c Q D C A nL) pc (ab_if (fun x => 0 ≤ x) tgt (pc + 3)) := by
  intro K hK ls st L h k n q H locs la hl hW hS
  unfold ab_if at q
  split at q
  next => exact lv_if_ge Cx.1 Cx.2.1 d ht (fun z => hK _ _ _ _ _ _ _ (q.1 z) H locs la hl hW hS) (fun z => hK _ _ _ _ _ _ _ (q.2 z) H locs la hl hW hS)
  next => exact q.elim
theorem sn_icmp_ge (Cx : ab_Cx l D C g own nm cc nL ret Ts p s m args meth c A) {off : Int} {tgt : Nat} (d : decode cc pc = .ok (.if_icmp .ge off, 3)) (ht : (pc : Int) + off = (tgt : Int)) : ab_Sn (ab_W p l e R s m args below meth c Q D C A nL) pc (ab_icmp (fun x y => y ≤ x) tgt (pc + 3)) := by
  intro K hK ls st L h k n q H locs la hl hW hS
  unfold ab_icmp at q
  split at q
  next => exact lv_icmp_ge Cx.1 Cx.2.1 d ht (fun z => hK _ _ _ _ _ _ _ (q.1 z) H locs la hl hW hS) (fun z => hK _ _ _ _ _ _ _ (q.2 z) H locs la hl hW hS)
  next => exact q.elim
theorem sn_if_gt (Cx : ab_Cx l D C g own nm cc nL ret Ts p s m args meth c A) {off : Int} {tgt : Nat} (d : decode cc pc = .ok (.ifCond .gt off, 3)) (ht : (pc : Int) + off = (tgt : Int)) : ab_Sn (ab_W p l e R s m args below meth c Q D C A nL) pc (ab_if (fun x => 0 < x) tgt (pc + 3)) := by
  intro K hK ls st L h k n q H locs la hl hW hS
  unfold ab_if at q
  split at q
  next => exact lv_if_gt Cx.1 Cx.2.1 d ht (fun z => hK _ _ _ _ _ _ _ (q.1 z) H locs la hl hW hS) (fun z => hK _ _ _ _ _ _ _ (q.2 z) H locs la hl hW hS)
  next => exact q.elim
theorem sn_icmp_gt (Cx : ab_Cx l D C g own nm cc nL ret Ts p s m args meth c A) {off : Int} {tgt : Nat} (d : decode cc pc = .ok (.if_icmp .gt off, 3)) (ht : (pc : Int) + off = (tgt : Int)) : ab_Sn (ab_W p l e R s m args below meth c Q D C A nL) pc (ab_icmp (fun x y => y < x) tgt (pc + 3)) := by
  intro K hK ls st L h k n q H locs la hl hW hS
  unfold ab_icmp at q
  split at q
  next => exact lv_icmp_gt Cx.1 Cx.2.1 d ht (fun z => hK _ _ _ _ _ _ _ (q.1 z) H locs la hl hW hS) (fun z => hK _ _ _ _ _ _ _ (q.2 z) H locs la hl hW hS)
  next => exact q.elim
theorem sn_if_le (Cx : ab_Cx l D C g own nm cc nL ret Ts p s m args meth c A) {off : Int} {tgt : Nat} (d : decode cc pc = .ok (.ifCond .le off, 3)) (ht : (pc : Int) + off = (tgt : Int)) : ab_Sn (ab_W p l e R s m args below meth c Q D C A nL) pc (ab_if (fun x => x ≤ 0) tgt (pc + 3)) := by
  intro K hK ls st L h k n q H locs la hl hW hS
  unfold ab_if at q
  split at q
  next => exact lv_if_le Cx.1 Cx.2.1 d ht (fun z => hK _ _ _ _ _ _ _ (q.1 z) H locs la hl hW hS) (fun z => hK _ _ _ _ _ _ _ (q.2 z) H locs la hl hW hS)
  next => exact q.elim
theorem sn_icmp_le (Cx : ab_Cx l D C g own nm cc nL ret Ts p s m args meth c A) {off : Int} {tgt : Nat} (d : decode cc pc = .ok (.if_icmp .le off, 3)) (ht : (pc : Int) + off = (tgt : Int)) : ab_Sn (ab_W p l e R s m args below meth c Q D C A nL) pc (ab_icmp (fun x y => x ≤ y) tgt (pc + 3)) := by
  intro K hK ls st L h k n q H locs la hl hW hS
  unfold ab_icmp at q
  split at q
  next => exact lv_icmp_le Cx.1 Cx.2.1 d ht (fun z => hK _ _ _ _ _ _ _ (q.1 z) H locs la hl hW hS) (fun z => hK _ _ _ _ _ _ _ (q.2 z) H locs la hl hW hS)
  next => exact q.elim
theorem sn_if_ne (Cx : ab_Cx l D C g own nm cc nL ret Ts p s m args meth c A) {off : Int} {tgt : Nat} (d : decode cc pc = .ok (.ifCond .ne off, 3)) (ht : (pc : Int) + off = (tgt : Int)) : ab_Sn (ab_W p l e R s m args below meth c Q D C A nL) pc (ab_if (fun x => x = 0) (pc + 3) tgt) := by
  intro K hK ls st L h k n q H locs la hl hW hS
  unfold ab_if at q
  split at q
  next => exact lv_if_ne Cx.1 Cx.2.1 d ht (fun z => hK _ _ _ _ _ _ _ (q.2 z) H locs la hl hW hS) (fun z => hK _ _ _ _ _ _ _ (q.1 z) H locs la hl hW hS)
  next => exact q.elim
theorem sn_icmp_ne (Cx : ab_Cx l D C g own nm cc nL ret Ts p s m args meth c A) {off : Int} {tgt : Nat} (d : decode cc pc = .ok (.if_icmp .ne off, 3)) (ht : (pc : Int) + off = (tgt : Int)) : ab_Sn (ab_W p l e R s m args below meth c Q D C A nL) pc (ab_icmp (fun x y => x = y) (pc + 3) tgt) := by
  intro K hK ls st L h k n q H locs la hl hW hS
  unfold ab_icmp at q
  split at q
  next => exact lv_icmp_ne Cx.1 Cx.2.1 d ht (fun z => hK _ _ _ _ _ _ _ (q.2 z) H locs la hl hW hS) (fun z => hK _ _ _ _ _ _ _ (q.1 z) H locs la hl hW hS)
  next => exact q.elim
theorem sn_acmp_eq (Cx : ab_Cx l D C g own nm cc nL ret Ts p s m args meth c A) {off : Int} {tgt : Nat} (d : decode cc pc = .ok (.if_acmp .eq off, 3)) (ht : (pc : Int) + off = (tgt : Int)) : ab_Sn (ab_W p l e R s m args below meth c Q D C A nL) pc (ab_acmp tgt (pc + 3)) := by
  intro K hK ls st L h k n q H locs la hl hW hS
  unfold ab_acmp at q
  split at q
  next y x r => exact lv_acmp_eq (ry := some y) (rx := some x) Cx.1 Cx.2.1 d ht (fun z => hK _ _ _ _ _ _ _ (q.1 (Option.some.inj z)) H locs la hl hW hS) (fun z => hK _ _ _ _ _ _ _ (q.2 (fun w => z (congrArg some w))) H locs la hl hW hS)
  next y r => exact lv_acmp_eq (ry := some y) (rx := none) Cx.1 Cx.2.1 d ht (fun z => nomatch z) (fun z => hK _ _ _ _ _ _ _ q H locs la hl hW hS)
  next x r => exact lv_acmp_eq (ry := none) (rx := some x) Cx.1 Cx.2.1 d ht (fun z => nomatch z) (fun z => hK _ _ _ _ _ _ _ q H locs la hl hW hS)
  next r => exact lv_acmp_eq (ry := none) (rx := none) Cx.1 Cx.2.1 d ht (fun z => hK _ _ _ _ _ _ _ q H locs la hl hW hS) (fun z => absurd rfl z)
  next => exact q.elim
theorem sn_acmp_ne (Cx : ab_Cx l D C g own nm cc nL ret Ts p s m args meth c A) {off : Int} {tgt : Nat} (d : decode cc pc = .ok (.if_acmp .ne off, 3)) (ht : (pc : Int) + off = (tgt : Int)) : ab_Sn (ab_W p l e R s m args below meth c Q D C A nL) pc (ab_acmp (pc + 3) tgt) := by
  intro K hK ls st L h k n q H locs la hl hW hS
  unfold ab_acmp at q
  split at q
  next y x r => exact lv_acmp_ne (ry := some y) (rx := some x) Cx.1 Cx.2.1 d ht (fun z => hK _ _ _ _ _ _ _ (q.2 (fun w => z (congrArg some w))) H locs la hl hW hS) (fun z => hK _ _ _ _ _ _ _ (q.1 (Option.some.inj z)) H locs la hl hW hS)
  next y r => exact lv_acmp_ne (ry := some y) (rx := none) Cx.1 Cx.2.1 d ht (fun z => hK _ _ _ _ _ _ _ q H locs la hl hW hS) (fun z => nomatch z)
  next x r => exact lv_acmp_ne (ry := none) (rx := some x) Cx.1 Cx.2.1 d ht (fun z => hK _ _ _ _ _ _ _ q H locs la hl hW hS) (fun z => nomatch z)
  next r => exact lv_acmp_ne (ry := none) (rx := none) Cx.1 Cx.2.1 d ht (fun z => absurd rfl z) (fun z => hK _ _ _ _ _ _ _ q H locs la hl hW hS)
  next => exact q.elim
theorem sn_goto (Cx : ab_Cx l D C g own nm cc nL ret Ts p s m args meth c A) {off : Int} {tgt : Nat} (d : decode cc pc = .ok (.goto off, 3)) (ht : (pc : Int) + off = (tgt : Int)) : ab_Sn (ab_W p l e R s m args below meth c Q D C A nL) pc (ab_goto tgt) :=
  fun _ hK _ _ _ _ _ _ q H locs la hl hW hS => lv_goto Cx.1 Cx.2.1 d ht (hK _ _ _ _ _ _ _ q H locs la hl hW hS)
theorem sn_dup (Cx : ab_Cx l D C g own nm cc nL ret Ts p s m args meth c A) (d : decode cc pc = .ok (.dup, 1)) : ab_Sn (ab_W p l e R s m args below meth c Q D C A nL) pc (ab_dup (pc + 1)) := by
  intro K hK ls st L h k n q H locs la hl hW hS
  unfold ab_dup at q
  split at q
  next => exact lv_dup Cx.1 Cx.2.1 d rfl (hK _ _ _ _ _ _ _ q H locs la hl hW hS)
  next => exact lv_dup Cx.1 Cx.2.1 d rfl (hK _ _ _ _ _ _ _ q H locs la hl hW hS)
  next => exact q.elim
theorem sn_pop (Cx : ab_Cx l D C g own nm cc nL ret Ts p s m args meth c A) (d : decode cc pc = .ok (.pop, 1)) : ab_Sn (ab_W p l e R s m args below meth c Q D C A nL) pc (ab_pop (pc + 1)) := by
  intro K hK ls st L h k n q H locs la hl hW hS
  unfold ab_pop at q
  split at q
  next => exact lv_pop Cx.1 Cx.2.1 d rfl (hK _ _ _ _ _ _ _ q H locs la hl hW hS)
  next => exact lv_pop Cx.1 Cx.2.1 d rfl (hK _ _ _ _ _ _ _ q H locs la hl hW hS)
  next => exact q.elim
theorem sn_dup2 (Cx : ab_Cx l D C g own nm cc nL ret Ts p s m args meth c A) (d : decode cc pc = .ok (.dup2, 1)) : ab_Sn (ab_W p l e R s m args below meth c Q D C A nL) pc (ab_dup2 (pc + 1)) := by
  intro K hK ls st L h k n q H locs la hl hW hS
  unfold ab_dup2 at q
  split at q
  next => exact lv_dup2_11 Cx.1 Cx.2.1 d rfl rfl (hK _ _ _ _ _ _ _ q H locs la hl hW hS)
  next => exact q.elim
theorem ab_sw_pick {d : Nat} {x : Int32} {f : Nat → Prop} : ∀ {ps : List (Int32 × Nat)}, ab_sw d x f ps → f ((ps.find? (fun q => q.1 == x)).elim d (fun q => q.2))
  | [], h => h
  | q :: r, h => by
    by_cases e : x = q.1
    · simp [List.find?, e.symm]
      exact h.1 e
    · have e2 : (q.1 == x) = false := by simp; exact fun z => e z.symm
      simp only [List.find?, e2]
      exact ab_sw_pick (h.2 e)
/-- a lookupswitch: offs as the bytes have them, ps as the abstract machine has them -/
def ab_lkok (pc : Nat) (dflt : Int) (dt : Nat) : List (Int × Int) → List (Int32 × Nat) → Bool
  | [], [] => decide ((pc : Int) + dflt = (dt : Int))
  | a :: r, b :: q => decide (b.1.toInt = a.1) && (decide ((pc : Int) + a.2 = (b.2 : Int)) && ab_lkok pc dflt dt r q)
  | _, _ => false
theorem ab_lk {pc : Nat} {dflt : Int} {dt : Nat} {x : Int32} : ∀ (os : List (Int × Int)) (ps : List (Int32 × Nat)), ab_lkok pc dflt dt os ps = true → (pc : Int) + Op.lookupswitch.offset os dflt x.toInt = (((ps.find? (fun q => q.1 == x)).elim dt (fun q => q.2) : Nat) : Int)
  | [], [], h => by
    have h1 : (pc : Int) + dflt = (dt : Int) := of_decide_eq_true h
    exact h1
  | a :: r, b :: q, h => by
    simp only [ab_lkok, Bool.and_eq_true, decide_eq_true_eq] at h
    obtain ⟨h1, h2, h3⟩ := h
    by_cases e : x = b.1
    · subst e
      simp [Op.lookupswitch.offset, h1, List.find?]
      exact h2
    · have e2 : (b.1 == x) = false := by simp; exact fun z => e z.symm
      rw [show a = (a.1, a.2) from rfl, lv_osw e h1]
      simp only [List.find?, e2]
      exact ab_lk r q h3
  | [], _ :: _, h => by cases h
  | _ :: _, [], h => by cases h
theorem sn_lookup (Cx : ab_Cx l D C g own nm cc nL ret Ts p s m args meth c A) {dflt : Int} {os : Array (Int × Int)} {len dt : Nat} {ps : List (Int32 × Nat)} (d : decode cc pc = .ok (.lookupswitch dflt os, len)) (hp : (os.toList.zip (os.toList.drop 1)).all (fun (a, next) => a.1 < next.1) = true) (ho : ab_lkok pc dflt dt os.toList ps = true) : ab_Sn (ab_W p l e R s m args below meth c Q D C A nL) pc (ab_switch ps dt) := by
  intro K hK ls st L h k n q H locs la hl hW hS
  unfold ab_switch at q
  split at q
  next x r => exact lv_lookup Cx.1 Cx.2.1 d hp rfl (ab_lk os.toList ps ho) (hK _ _ _ _ _ _ _ (ab_sw_pick (f := fun t => K t ls r L h k n) q) H locs la hl hW hS)
  next => exact q.elim
def ab_tbok (pc : Nat) (dflt : Int) (dt : Nat) : Int → List Int → List (Int32 × Nat) → Bool
  | _, [], [] => decide ((pc : Int) + dflt = (dt : Int))
  | i, o :: r, b :: q => decide (b.1.toInt = i) && (decide ((pc : Int) + o = (b.2 : Int)) && ab_tbok pc dflt dt (i + 1) r q)
  | _, _, _ => false
theorem ab_tb {pc : Nat} {dflt : Int} {dt : Nat} {x : Int32} : ∀ (os : List Int) (ps : List (Int32 × Nat)) (lo : Int), ab_tbok pc dflt dt lo os ps = true →
    ((x.toInt < lo ∨ lo + os.length ≤ x.toInt) → (pc : Int) + dflt = (((ps.find? (fun q => q.1 == x)).elim dt (fun q => q.2) : Nat) : Int)) ∧
    (∀ o, ¬ x.toInt < lo → os[(x.toInt - lo).toNat]? = some o → (pc : Int) + o = (((ps.find? (fun q => q.1 == x)).elim dt (fun q => q.2) : Nat) : Int))
  | [], [], lo, h => by
    have h1 : (pc : Int) + dflt = (dt : Int) := of_decide_eq_true h
    exact ⟨fun _ => h1, fun o _ ho => by simp at ho⟩
  | a :: r, b :: q, lo, h => by
    simp only [ab_tbok, Bool.and_eq_true, decide_eq_true_eq] at h
    obtain ⟨h1, h2, h3⟩ := h
    obtain ⟨i1, i2⟩ := ab_tb (x := x) r q (lo + 1) h3
    by_cases e : x = b.1
    · subst e
      refine ⟨fun z => ?_, fun o z ho => ?_⟩
      · rw [h1] at z
        simp only [List.length_cons] at z
        omega
      · rw [h1, Int.sub_self] at ho
        have e3 : a = o := Option.some.inj ho
        simp [List.find?]
        rw [← e3]
        exact h2
    · have e2 : (b.1 == x) = false := by simp; exact fun z => e z.symm
      have e4 : x.toInt ≠ lo := fun z => e (Int32.toInt_inj.mp (z.trans h1.symm))
      simp only [List.find?, e2]
      refine ⟨fun z => i1 ?_, fun o z ho => i2 o (by omega) ?_⟩
      · simp only [List.length_cons] at z
        omega
      · obtain ⟨j, hj⟩ : ∃ j : Nat, (x.toInt - lo).toNat = j + 1 := ⟨(x.toInt - lo).toNat - 1, by omega⟩
        rw [hj] at ho
        rw [show (x.toInt - (lo + 1)).toNat = j by omega]
        exact ho
  | [], _ :: _, _, h => by cases h
  | _ :: _, [], _, h => by cases h
theorem sn_table (Cx : ab_Cx l D C g own nm cc nL ret Ts p s m args meth c A) {dflt lo hi : Int} {os : Array Int} {len dt : Nat} {ps : List (Int32 × Nat)} (d : decode cc pc = .ok (.tableswitch dflt lo hi os, len)) (hh : lo + os.toList.length = hi + 1) (ho : ab_tbok pc dflt dt lo os.toList ps = true) : ab_Sn (ab_W p l e R s m args below meth c Q D C A nL) pc (ab_switch ps dt) := by
  intro K hK ls st L h k n q H locs la hl hW hS
  unfold ab_switch at q
  split at q
  next x r =>
    obtain ⟨i1, i2⟩ := ab_tb (x := x) os.toList ps lo ho
    by_cases z : x.toInt < lo ∨ hi < x.toInt
    · exact lv_tableOut Cx.1 Cx.2.1 d z (i1 (by omega)) (hK _ _ _ _ _ _ _ (ab_sw_pick (f := fun t => K t ls r L h k n) q) H locs la hl hW hS)
    · have z1 : ¬ x.toInt < lo := fun w => z (Or.inl w)
      have z2 : ¬ hi < x.toInt := fun w => z (Or.inr w)
      have z3 : (x.toInt - lo).toNat < os.size := by
        have : os.toList.length = os.size := Array.length_toList
        omega
      have z4 : os[(x.toInt - lo).toNat]? = some os[(x.toInt - lo).toNat] := Array.getElem?_eq_getElem z3
      exact lv_tableIn Cx.1 Cx.2.1 d z1 z2 z4 (i2 _ z1 (by rw [Array.getElem?_toList]; exact z4)) (hK _ _ _ _ _ _ _ (ab_sw_pick (f := fun t => K t ls r L h k n) q) H locs la hl hW hS)
  next => exact q.elim
end AbM
/-! blocks: from a program counter to the next ones of a list -/
def ab_inl : List Nat → Nat → Bool
  | [], _ => false
  | a :: r, pc => cond (Nat.beq a pc) true (ab_inl r pc)
def ab_go (tab : Nat → ab_I) (S : List Nat) : Nat → ab_K
  | 0 => ab_Ev tab
  | j + 1 => fun pc ls st L h k n => cond (ab_inl S pc) (ab_Ev tab pc ls st L h k n) (tab pc (ab_go tab S j) ls st L h k n)
theorem ab_Ev_of {tab : Nat → ab_I} {K : ab_K} (hK : ab_le K (ab_Ev tab)) {pc : Nat} {ls : List (Option Value)} {st : List Value} {L : List Nat} {h : ab_H} {k n : Nat} (H : tab pc K ls st L h k n) : ab_Ev tab pc ls st L h k n :=
  fun P hP => hP pc K (fun _ _ _ _ _ _ _ z => hK _ _ _ _ _ _ _ z P hP) _ _ _ _ _ _ H
theorem ab_gos {tab : Nat → ab_I} {S : List Nat} : ∀ j : Nat, ab_le (ab_go tab S j) (ab_Ev tab)
  | 0, _, _, _, _, _, _, _, H => H
  | j + 1, pc, ls, st, L, h, k, n, H => by
    have H2 : cond (ab_inl S pc) (ab_Ev tab pc ls st L h k n) (tab pc (ab_go tab S j) ls st L h k n) := H
    cases hc : ab_inl S pc with
    | true => rw [hc] at H2; exact H2
    | false => rw [hc] at H2; exact ab_Ev_of (ab_gos j) H2
theorem ab_blk {tab : Nat → ab_I} (S : List Nat) (j : Nat) {pc : Nat} {ls : List (Option Value)} {st : List Value} {L : List Nat} {h : ab_H} {k n : Nat} (H : tab pc (ab_go tab S j) ls st L h k n) : ab_Ev tab pc ls st L h k n := ab_Ev_of (ab_gos j) H
