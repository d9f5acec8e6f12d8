/-! heap, calls, ends -/
def ab_geti (ci f t : Nat) : ab_I := fun K ls st L h k n => match st with
  | .ref a :: r => a ∈ L ∧ ∃ (fs : List Value) (x : Int32), h a = .inr (ci, fs) ∧ fs[f]? = some (.int x) ∧ K t ls (.int x :: r) L h k n
  | _ => False
def ab_getl (ci f t : Nat) : ab_I := fun K ls st L h k n => match st with
  | .ref a :: r => a ∈ L ∧ ∃ (fs : List Value) (x : Int64), h a = .inr (ci, fs) ∧ fs[f]? = some (.long x) ∧ K t ls (.long x :: r) L h k n
  | _ => False
def ab_getr (ci f t : Nat) : ab_I := fun K ls st L h k n => match st with
  | .ref a :: r => a ∈ L ∧ ∃ (fs : List Value) (x : Nat), h a = .inr (ci, fs) ∧ fs[f]? = some (.ref x) ∧ K t ls (.ref x :: r) L h k n
  | _ => False
/-- a field that may be null -/
def ab_getq (ci f t : Nat) : ab_I := fun K ls st L h k n => match st with
  | .ref a :: r => a ∈ L ∧ ∃ (fs : List Value) (o : Option Nat), h a = .inr (ci, fs) ∧ fs[f]? = some (va_rf o) ∧ (∀ x, o = some x → K t ls (.ref x :: r) L h k n) ∧ (o = none → K t ls (.null :: r) L h k n)
  | _ => False
def ab_puti (ci f t : Nat) : ab_I := fun K ls st L h k n => match st with
  | .int x :: .ref a :: r => a ∈ L ∧ ∃ fs : List Value, h a = .inr (ci, fs) ∧ f < fs.length ∧ K t ls r L (va_up h a (.inr (ci, fs.set f (.int x)))) k n
  | _ => False
/-- char and boolean fields -/
def ab_putc (ty : FieldType) (ci f t : Nat) : ab_I := fun K ls st L h k n => match st with
  | .int x :: .ref a :: r => (narrow ty (.int x) = .int x ∧ fits ty (.int x) = true) ∧ a ∈ L ∧ ∃ fs : List Value, h a = .inr (ci, fs) ∧ f < fs.length ∧ K t ls r L (va_up h a (.inr (ci, fs.set f (.int x)))) k n
  | _ => False
def ab_putl (ci f t : Nat) : ab_I := fun K ls st L h k n => match st with
  | .long x :: .ref a :: r => a ∈ L ∧ ∃ fs : List Value, h a = .inr (ci, fs) ∧ f < fs.length ∧ K t ls r L (va_up h a (.inr (ci, fs.set f (.long x)))) k n
  | _ => False
def ab_putr (ci f t : Nat) : ab_I := fun K ls st L h k n => match st with
  | .ref x :: .ref a :: r => a ∈ L ∧ ∃ fs : List Value, h a = .inr (ci, fs) ∧ f < fs.length ∧ K t ls r L (va_up h a (.inr (ci, fs.set f (.ref x)))) k n
  | .null :: .ref a :: r => a ∈ L ∧ ∃ fs : List Value, h a = .inr (ci, fs) ∧ f < fs.length ∧ K t ls r L (va_up h a (.inr (ci, fs.set f .null))) k n
  | _ => False
def ab_iald (t : Nat) : ab_I := fun K ls st L h k n => match st with
  | .int i :: .ref a :: r => a ∈ L ∧ ∃ (N : Nat) (f : Nat → Int32), h a = .inl (0, N, .inl f) ∧ vp_in i N ∧ K t ls (.int (f i.toNatClampNeg) :: r) L h k n
  | _ => False
def ab_iast (t : Nat) : ab_I := fun K ls st L h k n => match st with
  | .int x :: .int i :: .ref a :: r => a ∈ L ∧ ∃ (N : Nat) (f : Nat → Int32), h a = .inl (0, N, .inl f) ∧ vp_in i N ∧ K t ls r L (va_up h a (.inl (0, N, .inl (upd f i.toNatClampNeg x)))) k n
  | _ => False
def ab_zald (t : Nat) : ab_I := fun K ls st L h k n => match st with
  | .int i :: .ref a :: r => a ∈ L ∧ ∃ (N : Nat) (f : Nat → Int32), h a = .inl (1, N, .inl f) ∧ vp_in i N ∧ K t ls (.int (f i.toNatClampNeg) :: r) L h k n
  | _ => False
def ab_zast (t : Nat) : ab_I := fun K ls st L h k n => match st with
  | .int x :: .int i :: .ref a :: r => a ∈ L ∧ ∃ (N : Nat) (f : Nat → Int32), h a = .inl (1, N, .inl f) ∧ vp_in i N ∧ K t ls r L (va_up h a (.inl (1, N, .inl (upd f i.toNatClampNeg (vp_nar .boolean x))))) k n
  | _ => False
def ab_lald (t : Nat) : ab_I := fun K ls st L h k n => match st with
  | .int i :: .ref a :: r => a ∈ L ∧ ∃ (N : Nat) (f : Nat → Int64), h a = .inl (2, N, .inr (.inl f)) ∧ vp_in i N ∧ K t ls (.long (f i.toNatClampNeg) :: r) L h k n
  | _ => False
def ab_last (t : Nat) : ab_I := fun K ls st L h k n => match st with
  | .long x :: .int i :: .ref a :: r => a ∈ L ∧ ∃ (N : Nat) (f : Nat → Int64), h a = .inl (2, N, .inr (.inl f)) ∧ vp_in i N ∧ K t ls r L (va_up h a (.inl (2, N, .inr (.inl (vp_updL f i.toNatClampNeg x))))) k n
  | _ => False
def ab_dald (t : Nat) : ab_I := fun K ls st L h k n => match st with
  | .int i :: .ref a :: r => a ∈ L ∧ ∃ (N : Nat) (f : Nat → UInt64), h a = .inl (3, N, .inr (.inr (.inr (.inl f)))) ∧ vp_in i N ∧ K t ls (.double (f i.toNatClampNeg) :: r) L h k n
  | _ => False
def ab_dast (t : Nat) : ab_I := fun K ls st L h k n => match st with
  | .double x :: .int i :: .ref a :: r => a ∈ L ∧ ∃ (N : Nat) (f : Nat → UInt64), h a = .inl (3, N, .inr (.inr (.inr (.inl f)))) ∧ vp_in i N ∧ K t ls r L (va_up h a (.inl (3, N, .inr (.inr (.inr (.inl (vf_upd f i.toNatClampNeg x))))))) k n
  | _ => False
def ab_alen (j t : Nat) : ab_I := fun K ls st L h k n => match st with
  | .ref a :: r => a ∈ L ∧ ∃ x : vp_A, h a = .inl (j, x) ∧ K t ls (.int (Int32.ofNat x.1) :: r) L h k n
  | _ => False
/-- a new array of the kind j, its places holding 'z' -/
def ab_newa (j : Nat) (z : (Nat → Int32) ⊕ (Nat → Int64) ⊕ (Nat → UInt32) ⊕ (Nat → UInt64) ⊕ (Nat → Option Nat)) (MC MS t : Nat) : ab_I := fun K ls st L h k n => match st with
  | .int x :: r => ¬ x < 0 ∧ x.toNatClampNeg ≤ 65536 ∧ k + 1 ≤ MC ∧ n + x.toNatClampNeg ≤ MS ∧ ∀ q, q ∉ L → K t ls (.ref q :: r) (L ++ [q]) (va_up h q (.inl (j, x.toNatClampNeg, z))) (k + 1) (n + x.toNatClampNeg)
  | _ => False
def ab_new (ci : Nat) (fs : List Value) (N MC MS t : Nat) : ab_I := fun K ls st L h k n =>
  k + 1 ≤ MC ∧ n + N ≤ MS ∧ ∀ q, q ∉ L → K t ls (.ref q :: st) (L ++ [q]) (va_up h q (.inr (ci, fs))) (k + 1) (n + N)
def ab_cast (ci t : Nat) : ab_I := fun K ls st L h k n => match st with
  | .ref a :: r => a ∈ L ∧ (∃ fs : List Value, h a = .inr (ci, fs)) ∧ K t ls (.ref a :: r) L h k n
  | _ => False
def ab_objInit (t : Nat) : ab_I := fun K ls st L h k n => match st with
  | [.ref _] => K t ls [] L h k n
  | _ => False
section AbM
variable {p : Program} {l : Launch} {e : Env} {R : Room} {s : State} {m : MethodId} {args : Array Value} {below : List Frame} {meth : Method} {c : Code} {Q : State → Prop} {D : va_G} {C : Nat → ClassId} {g : Nat → Nat} {A : Nat → Prop} {nL : Nat} {own nm : String} {cc : ByteArray} {ret : Option FieldType} {Ts : List Cond} {pc : Nat}
theorem ab_Wd_get {L : List Nat} {h : ab_H} {H : Heap} {a : Nat} {e : ab_E} (hW : ab_Wd D C A L h H) (ha : a ∈ L) (he : h a = e) : ∃ j : Nat, (ab_ws C L h)[j]? = some (a, ab_toE C e) ∧ ∀ e2 : ab_E, (ab_ws C L h).set j (a, ab_toE C e2) = ab_ws C L (va_up h a e2) := by
  obtain ⟨j, hj⟩ := ab_ws_get C h ha
  exact ⟨j, by rw [← he]; exact hj, fun e2 => ab_ws_set hW.2 ha hj⟩
theorem sn_geti (Cx : ab_Cx l D C g own nm cc nL ret Ts p s m args meth c A) {Cn : String} {T : u_T} {N ci f i : Nat} (d : decode cc pc = .ok (.getfield i, 3)) (hc : vwCl[ci]? = some (Cn, T, N)) (hin : ∀ w ∈ u_ws Cn T N, w ∈ Ts) (hf : f < N) (hw : Cond.fieldLink own i (T f).1 (T f).2.1 (T f).2.2.1 ∈ Ts) : ab_Sn (ab_W p l e R s m args below meth c Q D C A nL) pc (ab_geti ci f (pc + 3)) := by
  intro K hK ls st L h k n q H locs la hl hW hS
  unfold ab_geti at q
  split at q
  next a r =>
    obtain ⟨ha, fs, x, e1, e2, q⟩ := q
    obtain ⟨j, hj, -⟩ := ab_Wd_get hW ha e1
    exact va_get Cx.1 Cx.2.1 Cx.2.2.2.2.1 hin Cx.2.2.2.1 Cx.2.2.2.2.2.2.2.2.1 hW.1 j hj hc f hf (Cx.2.2.2.2.1 _ hw) (fun _ h9 => h9) e2 d (hK _ _ _ _ _ _ _ q H locs la hl hW hS)
  next => exact q.elim
theorem sn_getl (Cx : ab_Cx l D C g own nm cc nL ret Ts p s m args meth c A) {Cn : String} {T : u_T} {N ci f i : Nat} (d : decode cc pc = .ok (.getfield i, 3)) (hc : vwCl[ci]? = some (Cn, T, N)) (hin : ∀ w ∈ u_ws Cn T N, w ∈ Ts) (hf : f < N) (hw : Cond.fieldLink own i (T f).1 (T f).2.1 (T f).2.2.1 ∈ Ts) : ab_Sn (ab_W p l e R s m args below meth c Q D C A nL) pc (ab_getl ci f (pc + 3)) := by
  intro K hK ls st L h k n q H locs la hl hW hS
  unfold ab_getl at q
  split at q
  next a r =>
    obtain ⟨ha, fs, x, e1, e2, q⟩ := q
    obtain ⟨j, hj, -⟩ := ab_Wd_get hW ha e1
    exact va_get Cx.1 Cx.2.1 Cx.2.2.2.2.1 hin Cx.2.2.2.1 Cx.2.2.2.2.2.2.2.2.1 hW.1 j hj hc f hf (Cx.2.2.2.2.1 _ hw) (fun _ h9 => h9) e2 d (hK _ _ _ _ _ _ _ q H locs la hl hW hS)
  next => exact q.elim
theorem sn_getr (Cx : ab_Cx l D C g own nm cc nL ret Ts p s m args meth c A) {Cn : String} {T : u_T} {N ci f i : Nat} (d : decode cc pc = .ok (.getfield i, 3)) (hc : vwCl[ci]? = some (Cn, T, N)) (hin : ∀ w ∈ u_ws Cn T N, w ∈ Ts) (hf : f < N) (hw : Cond.fieldLink own i (T f).1 (T f).2.1 (T f).2.2.1 ∈ Ts) : ab_Sn (ab_W p l e R s m args below meth c Q D C A nL) pc (ab_getr ci f (pc + 3)) := by
  intro K hK ls st L h k n q H locs la hl hW hS
  unfold ab_getr at q
  split at q
  next a r =>
    obtain ⟨ha, fs, x, e1, e2, q⟩ := q
    obtain ⟨j, hj, -⟩ := ab_Wd_get hW ha e1
    exact va_get Cx.1 Cx.2.1 Cx.2.2.2.2.1 hin Cx.2.2.2.1 Cx.2.2.2.2.2.2.2.2.1 hW.1 j hj hc f hf (Cx.2.2.2.2.1 _ hw) (fun _ h9 => h9) e2 d (hK _ _ _ _ _ _ _ q H locs la hl hW hS)
  next => exact q.elim
theorem sn_getq (Cx : ab_Cx l D C g own nm cc nL ret Ts p s m args meth c A) {Cn : String} {T : u_T} {N ci f i : Nat} (d : decode cc pc = .ok (.getfield i, 3)) (hc : vwCl[ci]? = some (Cn, T, N)) (hin : ∀ w ∈ u_ws Cn T N, w ∈ Ts) (hf : f < N) (hw : Cond.fieldLink own i (T f).1 (T f).2.1 (T f).2.2.1 ∈ Ts) : ab_Sn (ab_W p l e R s m args below meth c Q D C A nL) pc (ab_getq ci f (pc + 3)) := by
  intro K hK ls st L h k n q H locs la hl hW hS
  unfold ab_getq at q
  split at q
  next a r =>
    obtain ⟨ha, fs, o, e1, e2, q1, q2⟩ := q
    obtain ⟨j, hj, -⟩ := ab_Wd_get hW ha e1
    cases o with
    | none => exact va_get Cx.1 Cx.2.1 Cx.2.2.2.2.1 hin Cx.2.2.2.1 Cx.2.2.2.2.2.2.2.2.1 hW.1 j hj hc f hf (Cx.2.2.2.2.1 _ hw) (fun _ h9 => h9) e2 d (hK _ _ _ _ _ _ _ (q2 rfl) H locs la hl hW hS)
    | some x => exact va_get Cx.1 Cx.2.1 Cx.2.2.2.2.1 hin Cx.2.2.2.1 Cx.2.2.2.2.2.2.2.2.1 hW.1 j hj hc f hf (Cx.2.2.2.2.1 _ hw) (fun _ h9 => h9) e2 d (hK _ _ _ _ _ _ _ (q1 x rfl) H locs la hl hW hS)
  next => exact q.elim
theorem sn_puti (Cx : ab_Cx l D C g own nm cc nL ret Ts p s m args meth c A) {Cn : String} {T : u_T} {N ci f i : Nat} (d : decode cc pc = .ok (.putfield i, 3)) (hc : vwCl[ci]? = some (Cn, T, N)) (hin : ∀ w ∈ u_ws Cn T N, w ∈ Ts) (ty0 : Nat → FieldType) (hty : ∀ k, k < N → parseFieldDescriptor (T k).2.2.1 = some (ty0 k)) (hnm0 : ∀ a, a < N → ∀ b, b < N → a ≠ b → (T a).2.1 ≠ (T b).2.1) (hf : f < N) (hw : Cond.fieldLink own i (T f).1 (T f).2.1 (T f).2.2.1 ∈ Ts) (hfin : (T f).2.2.2 = false) (hd : parseFieldDescriptor (T f).2.2.1 = some .int) : ab_Sn (ab_W p l e R s m args below meth c Q D C A nL) pc (ab_puti ci f (pc + 3)) := by
  intro K hK ls st L h k n q H locs la hl hW hS
  unfold ab_puti at q
  split at q
  next x a r =>
    obtain ⟨ha, fs, e1, e2, q⟩ := q
    obtain ⟨j, hj, hset⟩ := ab_Wd_get hW ha e1
    exact va_put Cx.1 Cx.2.1 Cx.2.2.2.2.1 hin ty0 hty hnm0 Cx.2.2.2.1 Cx.2.2.2.2.2.2.2.2.1 hW.1 hW.2 hS j hj hc f hf (Cx.2.2.2.2.1 _ hw) (fun _ h9 => h9) hfin hd rfl rfl e2 d (fun H1 locs1 p1 p2 p3 => hK _ _ _ _ _ _ _ q H1 locs1 la hl ⟨by rw [← hset]; exact p1, by rw [← hset]; exact p2⟩ p3)
  next => exact q.elim
theorem sn_putc (Cx : ab_Cx l D C g own nm cc nL ret Ts p s m args meth c A) {Cn : String} {T : u_T} {N ci f i : Nat} (d : decode cc pc = .ok (.putfield i, 3)) (hc : vwCl[ci]? = some (Cn, T, N)) (hin : ∀ w ∈ u_ws Cn T N, w ∈ Ts) (ty0 : Nat → FieldType) (hty : ∀ k, k < N → parseFieldDescriptor (T k).2.2.1 = some (ty0 k)) (hnm0 : ∀ a, a < N → ∀ b, b < N → a ≠ b → (T a).2.1 ≠ (T b).2.1) (hf : f < N) (hw : Cond.fieldLink own i (T f).1 (T f).2.1 (T f).2.2.1 ∈ Ts) (hfin : (T f).2.2.2 = false) {ty : FieldType} (hd : parseFieldDescriptor (T f).2.2.1 = some ty) : ab_Sn (ab_W p l e R s m args below meth c Q D C A nL) pc (ab_putc ty ci f (pc + 3)) := by
  intro K hK ls st L h k n q H locs la hl hW hS
  unfold ab_putc at q
  split at q
  next x a r =>
    obtain ⟨hq, ha, fs, e1, e2, q⟩ := q
    obtain ⟨j, hj, hset⟩ := ab_Wd_get hW ha e1
    exact va_put Cx.1 Cx.2.1 Cx.2.2.2.2.1 hin ty0 hty hnm0 Cx.2.2.2.1 Cx.2.2.2.2.2.2.2.2.1 hW.1 hW.2 hS j hj hc f hf (Cx.2.2.2.2.1 _ hw) (fun _ h9 => h9) hfin hd hq.1 hq.2 e2 d (fun H1 locs1 p1 p2 p3 => hK _ _ _ _ _ _ _ q H1 locs1 la hl ⟨by rw [← hset]; exact p1, by rw [← hset]; exact p2⟩ p3)
  next => exact q.elim
theorem sn_putl (Cx : ab_Cx l D C g own nm cc nL ret Ts p s m args meth c A) {Cn : String} {T : u_T} {N ci f i : Nat} (d : decode cc pc = .ok (.putfield i, 3)) (hc : vwCl[ci]? = some (Cn, T, N)) (hin : ∀ w ∈ u_ws Cn T N, w ∈ Ts) (ty0 : Nat → FieldType) (hty : ∀ k, k < N → parseFieldDescriptor (T k).2.2.1 = some (ty0 k)) (hnm0 : ∀ a, a < N → ∀ b, b < N → a ≠ b → (T a).2.1 ≠ (T b).2.1) (hf : f < N) (hw : Cond.fieldLink own i (T f).1 (T f).2.1 (T f).2.2.1 ∈ Ts) (hfin : (T f).2.2.2 = false) (hd : parseFieldDescriptor (T f).2.2.1 = some .long) : ab_Sn (ab_W p l e R s m args below meth c Q D C A nL) pc (ab_putl ci f (pc + 3)) := by
  intro K hK ls st L h k n q H locs la hl hW hS
  unfold ab_putl at q
  split at q
  next x a r =>
    obtain ⟨ha, fs, e1, e2, q⟩ := q
    obtain ⟨j, hj, hset⟩ := ab_Wd_get hW ha e1
    exact va_put Cx.1 Cx.2.1 Cx.2.2.2.2.1 hin ty0 hty hnm0 Cx.2.2.2.1 Cx.2.2.2.2.2.2.2.2.1 hW.1 hW.2 hS j hj hc f hf (Cx.2.2.2.2.1 _ hw) (fun _ h9 => h9) hfin hd rfl rfl e2 d (fun H1 locs1 p1 p2 p3 => hK _ _ _ _ _ _ _ q H1 locs1 la hl ⟨by rw [← hset]; exact p1, by rw [← hset]; exact p2⟩ p3)
  next => exact q.elim
theorem sn_putr (Cx : ab_Cx l D C g own nm cc nL ret Ts p s m args meth c A) {Cn : String} {T : u_T} {N ci f i : Nat} (d : decode cc pc = .ok (.putfield i, 3)) (hc : vwCl[ci]? = some (Cn, T, N)) (hin : ∀ w ∈ u_ws Cn T N, w ∈ Ts) (ty0 : Nat → FieldType) (hty : ∀ k, k < N → parseFieldDescriptor (T k).2.2.1 = some (ty0 k)) (hnm0 : ∀ a, a < N → ∀ b, b < N → a ≠ b → (T a).2.1 ≠ (T b).2.1) (hf : f < N) (hw : Cond.fieldLink own i (T f).1 (T f).2.1 (T f).2.2.1 ∈ Ts) (hfin : (T f).2.2.2 = false) {ty : FieldType} (hd : parseFieldDescriptor (T f).2.2.1 = some ty) (hrf : ∀ x, narrow ty (.ref x) = .ref x ∧ fits ty (.ref x) = true) (hrn : narrow ty .null = .null ∧ fits ty .null = true) : ab_Sn (ab_W p l e R s m args below meth c Q D C A nL) pc (ab_putr ci f (pc + 3)) := by
  intro K hK ls st L h k n q H locs la hl hW hS
  unfold ab_putr at q
  split at q
  next x a r =>
    obtain ⟨ha, fs, e1, e2, q⟩ := q
    obtain ⟨j, hj, hset⟩ := ab_Wd_get hW ha e1
    exact va_put Cx.1 Cx.2.1 Cx.2.2.2.2.1 hin ty0 hty hnm0 Cx.2.2.2.1 Cx.2.2.2.2.2.2.2.2.1 hW.1 hW.2 hS j hj hc f hf (Cx.2.2.2.2.1 _ hw) (fun _ h9 => h9) hfin hd (hrf x).1 (hrf x).2 e2 d (fun H1 locs1 p1 p2 p3 => hK _ _ _ _ _ _ _ q H1 locs1 la hl ⟨by rw [← hset]; exact p1, by rw [← hset]; exact p2⟩ p3)
  next a r =>
    obtain ⟨ha, fs, e1, e2, q⟩ := q
    obtain ⟨j, hj, hset⟩ := ab_Wd_get hW ha e1
    exact va_put Cx.1 Cx.2.1 Cx.2.2.2.2.1 hin ty0 hty hnm0 Cx.2.2.2.1 Cx.2.2.2.2.2.2.2.2.1 hW.1 hW.2 hS j hj hc f hf (Cx.2.2.2.2.1 _ hw) (fun _ h9 => h9) hfin hd hrn.1 hrn.2 e2 d (fun H1 locs1 p1 p2 p3 => hK _ _ _ _ _ _ _ q H1 locs1 la hl ⟨by rw [← hset]; exact p1, by rw [← hset]; exact p2⟩ p3)
  next => exact q.elim
theorem sn_putiF (Cx : ab_Cx l D C g own nm cc nL ret Ts p s m args meth c A) {Cn : String} {T : u_T} {N ci f i : Nat} (d : decode cc pc = .ok (.putfield i, 3)) (hc : vwCl[ci]? = some (Cn, T, N)) (hin : ∀ w ∈ u_ws Cn T N, w ∈ Ts) (ty0 : Nat → FieldType) (hty : ∀ k, k < N → parseFieldDescriptor (T k).2.2.1 = some (ty0 k)) (hnm0 : ∀ a, a < N → ∀ b, b < N → a ≠ b → (T a).2.1 ≠ (T b).2.1) (hf : f < N) (hw : Cond.fieldLink own i (T f).1 (T f).2.1 (T f).2.2.1 ∈ Ts) (hfin : (T f).2.2.2 = true) (hnm : nm = "<init>") (hdecl : (T f).1 = own) (hd : parseFieldDescriptor (T f).2.2.1 = some .int) : ab_Sn (ab_W p l e R s m args below meth c Q D C A nL) pc (ab_puti ci f (pc + 3)) := by
  intro K hK ls st L h k n q H locs la hl hW hS
  unfold ab_puti at q
  split at q
  next x a r =>
    obtain ⟨ha, fs, e1, e2, q⟩ := q
    obtain ⟨j, hj, hset⟩ := ab_Wd_get hW ha e1
    exact va_putF Cx.1 Cx.2.1 Cx.2.2.2.2.1 hin ty0 hty hnm0 Cx.2.2.2.1 Cx.2.2.2.2.2.2.2.2.1 hW.1 hW.2 hS j hj hc f hf (Cx.2.2.2.2.1 _ hw) (fun _ h9 => h9) hfin (Cx.2.2.2.2.2.2.2.1.trans hnm) hdecl hd rfl rfl e2 d (fun H1 locs1 p1 p2 p3 => hK _ _ _ _ _ _ _ q H1 locs1 la hl ⟨by rw [← hset]; exact p1, by rw [← hset]; exact p2⟩ p3)
  next => exact q.elim
theorem sn_putcF (Cx : ab_Cx l D C g own nm cc nL ret Ts p s m args meth c A) {Cn : String} {T : u_T} {N ci f i : Nat} (d : decode cc pc = .ok (.putfield i, 3)) (hc : vwCl[ci]? = some (Cn, T, N)) (hin : ∀ w ∈ u_ws Cn T N, w ∈ Ts) (ty0 : Nat → FieldType) (hty : ∀ k, k < N → parseFieldDescriptor (T k).2.2.1 = some (ty0 k)) (hnm0 : ∀ a, a < N → ∀ b, b < N → a ≠ b → (T a).2.1 ≠ (T b).2.1) (hf : f < N) (hw : Cond.fieldLink own i (T f).1 (T f).2.1 (T f).2.2.1 ∈ Ts) (hfin : (T f).2.2.2 = true) (hnm : nm = "<init>") (hdecl : (T f).1 = own) {ty : FieldType} (hd : parseFieldDescriptor (T f).2.2.1 = some ty) : ab_Sn (ab_W p l e R s m args below meth c Q D C A nL) pc (ab_putc ty ci f (pc + 3)) := by
  intro K hK ls st L h k n q H locs la hl hW hS
  unfold ab_putc at q
  split at q
  next x a r =>
    obtain ⟨hq, ha, fs, e1, e2, q⟩ := q
    obtain ⟨j, hj, hset⟩ := ab_Wd_get hW ha e1
    exact va_putF Cx.1 Cx.2.1 Cx.2.2.2.2.1 hin ty0 hty hnm0 Cx.2.2.2.1 Cx.2.2.2.2.2.2.2.2.1 hW.1 hW.2 hS j hj hc f hf (Cx.2.2.2.2.1 _ hw) (fun _ h9 => h9) hfin (Cx.2.2.2.2.2.2.2.1.trans hnm) hdecl hd hq.1 hq.2 e2 d (fun H1 locs1 p1 p2 p3 => hK _ _ _ _ _ _ _ q H1 locs1 la hl ⟨by rw [← hset]; exact p1, by rw [← hset]; exact p2⟩ p3)
  next => exact q.elim
theorem sn_putlF (Cx : ab_Cx l D C g own nm cc nL ret Ts p s m args meth c A) {Cn : String} {T : u_T} {N ci f i : Nat} (d : decode cc pc = .ok (.putfield i, 3)) (hc : vwCl[ci]? = some (Cn, T, N)) (hin : ∀ w ∈ u_ws Cn T N, w ∈ Ts) (ty0 : Nat → FieldType) (hty : ∀ k, k < N → parseFieldDescriptor (T k).2.2.1 = some (ty0 k)) (hnm0 : ∀ a, a < N → ∀ b, b < N → a ≠ b → (T a).2.1 ≠ (T b).2.1) (hf : f < N) (hw : Cond.fieldLink own i (T f).1 (T f).2.1 (T f).2.2.1 ∈ Ts) (hfin : (T f).2.2.2 = true) (hnm : nm = "<init>") (hdecl : (T f).1 = own) (hd : parseFieldDescriptor (T f).2.2.1 = some .long) : ab_Sn (ab_W p l e R s m args below meth c Q D C A nL) pc (ab_putl ci f (pc + 3)) := by
  intro K hK ls st L h k n q H locs la hl hW hS
  unfold ab_putl at q
  split at q
  next x a r =>
    obtain ⟨ha, fs, e1, e2, q⟩ := q
    obtain ⟨j, hj, hset⟩ := ab_Wd_get hW ha e1
    exact va_putF Cx.1 Cx.2.1 Cx.2.2.2.2.1 hin ty0 hty hnm0 Cx.2.2.2.1 Cx.2.2.2.2.2.2.2.2.1 hW.1 hW.2 hS j hj hc f hf (Cx.2.2.2.2.1 _ hw) (fun _ h9 => h9) hfin (Cx.2.2.2.2.2.2.2.1.trans hnm) hdecl hd rfl rfl e2 d (fun H1 locs1 p1 p2 p3 => hK _ _ _ _ _ _ _ q H1 locs1 la hl ⟨by rw [← hset]; exact p1, by rw [← hset]; exact p2⟩ p3)
  next => exact q.elim
theorem sn_putrF (Cx : ab_Cx l D C g own nm cc nL ret Ts p s m args meth c A) {Cn : String} {T : u_T} {N ci f i : Nat} (d : decode cc pc = .ok (.putfield i, 3)) (hc : vwCl[ci]? = some (Cn, T, N)) (hin : ∀ w ∈ u_ws Cn T N, w ∈ Ts) (ty0 : Nat → FieldType) (hty : ∀ k, k < N → parseFieldDescriptor (T k).2.2.1 = some (ty0 k)) (hnm0 : ∀ a, a < N → ∀ b, b < N → a ≠ b → (T a).2.1 ≠ (T b).2.1) (hf : f < N) (hw : Cond.fieldLink own i (T f).1 (T f).2.1 (T f).2.2.1 ∈ Ts) (hfin : (T f).2.2.2 = true) (hnm : nm = "<init>") (hdecl : (T f).1 = own) {ty : FieldType} (hd : parseFieldDescriptor (T f).2.2.1 = some ty) (hrf : ∀ x, narrow ty (.ref x) = .ref x ∧ fits ty (.ref x) = true) (hrn : narrow ty .null = .null ∧ fits ty .null = true) : ab_Sn (ab_W p l e R s m args below meth c Q D C A nL) pc (ab_putr ci f (pc + 3)) := by
  intro K hK ls st L h k n q H locs la hl hW hS
  unfold ab_putr at q
  split at q
  next x a r =>
    obtain ⟨ha, fs, e1, e2, q⟩ := q
    obtain ⟨j, hj, hset⟩ := ab_Wd_get hW ha e1
    exact va_putF Cx.1 Cx.2.1 Cx.2.2.2.2.1 hin ty0 hty hnm0 Cx.2.2.2.1 Cx.2.2.2.2.2.2.2.2.1 hW.1 hW.2 hS j hj hc f hf (Cx.2.2.2.2.1 _ hw) (fun _ h9 => h9) hfin (Cx.2.2.2.2.2.2.2.1.trans hnm) hdecl hd (hrf x).1 (hrf x).2 e2 d (fun H1 locs1 p1 p2 p3 => hK _ _ _ _ _ _ _ q H1 locs1 la hl ⟨by rw [← hset]; exact p1, by rw [← hset]; exact p2⟩ p3)
  next a r =>
    obtain ⟨ha, fs, e1, e2, q⟩ := q
    obtain ⟨j, hj, hset⟩ := ab_Wd_get hW ha e1
    exact va_putF Cx.1 Cx.2.1 Cx.2.2.2.2.1 hin ty0 hty hnm0 Cx.2.2.2.1 Cx.2.2.2.2.2.2.2.2.1 hW.1 hW.2 hS j hj hc f hf (Cx.2.2.2.2.1 _ hw) (fun _ h9 => h9) hfin (Cx.2.2.2.2.2.2.2.1.trans hnm) hdecl hd hrn.1 hrn.2 e2 d (fun H1 locs1 p1 p2 p3 => hK _ _ _ _ _ _ _ q H1 locs1 la hl ⟨by rw [← hset]; exact p1, by rw [← hset]; exact p2⟩ p3)
  next => exact q.elim
theorem sn_iald (Cx : ab_Cx l D C g own nm cc nL ret Ts p s m args meth c A) (d : decode cc pc = .ok (.iaload, 1)) : ab_Sn (ab_W p l e R s m args below meth c Q D C A nL) pc (ab_iald (pc + 1)) := by
  intro K hK ls st L h k n q H locs la hl hW hS
  unfold ab_iald at q
  split at q
  next i a r =>
    obtain ⟨ha, N, f, e1, e2, q⟩ := q
    obtain ⟨j, hj, -⟩ := ab_Wd_get hW ha e1
    exact va_iald Cx.1 Cx.2.1 Cx.2.2.2.2.2.2.2.2.1 hW.1 j 0 hj rfl e2 d (hK _ _ _ _ _ _ _ q H locs la hl hW hS)
  next => exact q.elim
theorem sn_zald (Cx : ab_Cx l D C g own nm cc nL ret Ts p s m args meth c A) (d : decode cc pc = .ok (.baload, 1)) : ab_Sn (ab_W p l e R s m args below meth c Q D C A nL) pc (ab_zald (pc + 1)) := by
  intro K hK ls st L h k n q H locs la hl hW hS
  unfold ab_zald at q
  split at q
  next i a r =>
    obtain ⟨ha, N, f, e1, e2, q⟩ := q
    obtain ⟨j, hj, -⟩ := ab_Wd_get hW ha e1
    exact va_zald Cx.1 Cx.2.1 Cx.2.2.2.2.2.2.2.2.1 hW.1 j 1 hj rfl e2 d (hK _ _ _ _ _ _ _ q H locs la hl hW hS)
  next => exact q.elim
theorem sn_iast (Cx : ab_Cx l D C g own nm cc nL ret Ts p s m args meth c A) (d : decode cc pc = .ok (.iastore, 1)) : ab_Sn (ab_W p l e R s m args below meth c Q D C A nL) pc (ab_iast (pc + 1)) := by
  intro K hK ls st L h k n q H locs la hl hW hS
  unfold ab_iast at q
  split at q
  next x i a r =>
    obtain ⟨ha, N, f, e1, e2, q⟩ := q
    obtain ⟨j, hj, hset⟩ := ab_Wd_get hW ha e1
    exact va_iast Cx.1 Cx.2.1 Cx.2.2.2.2.2.2.2.2.1 hW.1 hW.2 hS j 0 hj rfl e2 d (fun H1 locs1 p1 p2 p3 => hK _ _ _ _ _ _ _ q H1 locs1 la hl ⟨by rw [← hset]; exact p1, by rw [← hset]; exact p2⟩ p3)
  next => exact q.elim
theorem sn_zast (Cx : ab_Cx l D C g own nm cc nL ret Ts p s m args meth c A) (d : decode cc pc = .ok (.bastore, 1)) : ab_Sn (ab_W p l e R s m args below meth c Q D C A nL) pc (ab_zast (pc + 1)) := by
  intro K hK ls st L h k n q H locs la hl hW hS
  unfold ab_zast at q
  split at q
  next x i a r =>
    obtain ⟨ha, N, f, e1, e2, q⟩ := q
    obtain ⟨j, hj, hset⟩ := ab_Wd_get hW ha e1
    exact va_zast Cx.1 Cx.2.1 Cx.2.2.2.2.2.2.2.2.1 hW.1 hW.2 hS j 1 hj rfl e2 d (fun H1 locs1 p1 p2 p3 => hK _ _ _ _ _ _ _ q H1 locs1 la hl ⟨by rw [← hset]; exact p1, by rw [← hset]; exact p2⟩ p3)
  next => exact q.elim
theorem sn_alen (Cx : ab_Cx l D C g own nm cc nL ret Ts p s m args meth c A) {j : Nat} (hj5 : j < 4) (d : decode cc pc = .ok (.arraylength, 1)) : ab_Sn (ab_W p l e R s m args below meth c Q D C A nL) pc (ab_alen j (pc + 1)) := by
  intro K hK ls st L h k n q H locs la hl hW hS
  unfold ab_alen at q
  split at q
  next a r =>
    obtain ⟨ha, x, e1, q⟩ := q
    obtain ⟨i, hi, -⟩ := ab_Wd_get hW ha e1
    obtain ⟨ty, ht⟩ : ∃ ty, (ab_tys C)[j]? = some (C j, ty) := by
      match j, hj5 with
      | 0, _ => exact ⟨_, rfl⟩
      | 1, _ => exact ⟨_, rfl⟩
      | 2, _ => exact ⟨_, rfl⟩
      | 3, _ => exact ⟨_, rfl⟩
    exact va_alen Cx.1 Cx.2.1 Cx.2.2.2.2.2.2.2.2.1 hW.1 i j hi ht rfl d (hK _ _ _ _ _ _ _ q H locs la hl hW hS)
  next => exact q.elim
theorem sn_newa (Cx : ab_Cx l D C g own nm cc nL ret Ts p s m args meth c A) {j MC MS : Nat} {atype : ArrayType} {ty : FieldType} {z : (Nat → Int32) ⊕ (Nat → Int64) ⊕ (Nat → UInt32) ⊕ (Nat → UInt64) ⊕ (Nat → Option Nat)} (d : decode cc pc = .ok (.newarray atype, 2)) (hw : Cond.arrayClass (newarray.typeOf atype) ∈ Ts) (hty : newarray.typeOf atype = ty) (htt : ∀ C, (ab_tys C)[j]? = some (C j, ty)) (hno : ∀ Cn, ty ≠ .object Cn) (hcb : componentBytes ty ≤ 8) (hz : ∀ (cA : ClassId) (N : Nat), vp_cell cA (N, z) = arrV cA N (fun _ => defaultValue ty)) (hMC : R.cells = MC) (hMS : R.slots = MS) : ab_Sn (ab_W p l e R s m args below meth c Q D C A nL) pc (ab_newa j z MC MS (pc + 2)) := by
  intro K hK ls st L h k n q H locs la hl hW hS
  unfold ab_newa at q
  split at q
  next x r =>
    obtain ⟨h1, h2, h3, h4, q⟩ := q
    refine va_newa Cx.1 Cx.2.1 (Cx.2.2.2.2.1 _ hw) hty Cx.2.2.2.2.2.2.2.2.1 hW.1 hW.2 hS Cx.2.2.2.2.2.2.2.2.2.1 (a0 := (x.toNatClampNeg, z)) (fun cA => hz cA _) h1 rfl (by have := Nat.mul_le_mul h2 hcb; omega) (by rw [hMC]; exact h3) (by rw [hMS]; exact h4) d (fun q0 cA H1 k1 p1 p2 p3 => ?_)
    have eC : cA = C j := by
      have r1 := (Cx.2.2.2.2.2.2.2.2.1.2 j _ (htt C)).2
      have r2 := (k1.2 (ab_tys C).length (cA, ty) (by rw [List.getElem?_append_right (Nat.le_refl _), Nat.sub_self]; rfl)).2
      have go : ∀ (t : FieldType) (c1 c2 : ClassId), (∀ Cn, t ≠ .object Cn) → va_RA s c1 t → va_RA s c2 t → c1 = c2 := by
        intro t c1 c2 hn a1 a2
        cases t with
        | object Cn => exact absurd rfl (hn Cn)
        | _ => exact Option.some.inj (a1.symm.trans a2)
      exact go ty _ _ hno r2 r1
    subst eC
    have hfr := ab_fresh (D := D) p2
    have es := ab_ws_push (C := C) (h := h) (e := (.inl (j, x.toNatClampNeg, z) : ab_E)) hfr
    exact hK _ _ _ _ _ _ _ (q q0 hfr) H1 locs la hl ⟨by rw [← es]; exact p1, by rw [← es]; exact p2⟩ p3
  next => exact q.elim
theorem sn_new (Cx : ab_Cx l D C g own nm cc nL ret Ts p s m args meth c A) {Cn : String} {T : u_T} {N ci i MC MS : Nat} {fs : List Value} (d : decode cc pc = .ok (.new i, 3)) (hc : vwCl[ci]? = some (Cn, T, N)) (hin : ∀ w ∈ u_ws Cn T N, w ∈ Ts) (ty0 : Nat → FieldType) (hty : ∀ k, k < N → parseFieldDescriptor (T k).2.2.1 = some (ty0 k)) (w1 : Cond.classLink own i Cn ∈ Ts) (w2 : Cond.instantiable Cn N ∈ Ts) (w3 : Cond.initialized Cn ∈ Ts) (hfs : ∀ j, j < N → defaultValue (ty0 j) = vp_V fs j) (hMC : R.cells = MC) (hMS : R.slots = MS) : ab_Sn (ab_W p l e R s m args below meth c Q D C A nL) pc (ab_new ci fs N MC MS (pc + 3)) := by
  intro K hK ls st L h k n q H locs la hl hW hS
  obtain ⟨h3, h4, q⟩ := q
  refine va_new Cx.1 Cx.2.1 Cx.2.2.2.2.1 hin ty0 hty Cx.2.2.2.1 (Cx.2.2.2.2.1 _ w1) (Cx.2.2.2.2.1 _ w2) (Cx.2.2.2.2.1 _ w3) Cx.2.2.2.2.2.2.2.2.1 hW.1 hW.2 hS Cx.2.2.2.2.2.2.2.2.2.1 hc hfs (by rw [hMC]; exact h3) (by rw [hMS]; exact h4) d (fun q0 H1 p1 p2 p3 => ?_)
  have hfr := ab_fresh (D := D) p2
  have es := ab_ws_push (C := C) (h := h) (e := (.inr (ci, fs) : ab_E)) hfr
  exact hK _ _ _ _ _ _ _ (q q0 hfr) H1 locs la hl ⟨by rw [← es]; exact p1, by rw [← es]; exact p2⟩ p3
theorem ab_recv (Cx : ab_Cx l D C g own nm cc nL ret Ts p s m args meth c A) {Cn : String} {T : u_T} {N ci : Nat} (hc : vwCl[ci]? = some (Cn, T, N)) {L : List Nat} {h : ab_H} {H : Heap} {a : Nat} {fs : List Value} (hW : ab_Wd D C A L h H) (ha : a ∈ L) (he : h a = .inr (ci, fs)) : ∃ cell : Cell, H[a]? = some cell ∧ cell.vm.isStatics = false ∧ s.vm.findClass Cn = some cell.cls := by
  obtain ⟨j, hj, -⟩ := ab_Wd_get hW ha he
  exact va_recv Cx.2.2.2.2.2.2.2.2.1 hW.1 hc hj
theorem sn_cast (Cx : ab_Cx l D C g own nm cc nL ret Ts p s m args meth c A) {Cn : String} {T : u_T} {N ci i : Nat} (d : decode cc pc = .ok (.checkcast i, 3)) (hc : vwCl[ci]? = some (Cn, T, N)) (w1 : Cond.classLink own i Cn ∈ Ts) : ab_Sn (ab_W p l e R s m args below meth c Q D C A nL) pc (ab_cast ci (pc + 3)) := by
  intro K hK ls st L h k n q H locs la hl hW hS
  unfold ab_cast at q
  split at q
  next a r =>
    obtain ⟨ha, ⟨fs, e1⟩, q⟩ := q
    exact va_castS Cx.1 Cx.2.1 Cx.2.2.2.1 (Cx.2.2.2.2.1 _ w1) (Cx.2.2.2.2.2.2.2.2.1.1 ci _ hc).2 (ab_recv Cx hc hW ha e1) d (hK _ _ _ _ _ _ _ q H locs la hl hW hS)
  next => exact q.elim
theorem sn_objInit (Cx : ab_Cx l D C g own nm cc nL ret Ts p s m args meth c A) {i : Nat} (d : decode cc pc = .ok (.invokespecial i, 3)) (w1 : Cond.methodLink own i objectInit ∈ Ts) (w2 : Cond.instanceMethod objectInit ∈ Ts) (w3 : Cond.code objectInit ⟨#[0xb1]⟩ 1 none ∈ Ts) (hfr : 1 ≤ R.frames) (hlo : 20 ≤ R.locals) : ab_Sn (ab_W p l e R s m args below meth c Q D C A nL) pc (ab_objInit (pc + 3)) := by
  intro K hK ls st L h k n q H locs la hl hW hS
  unfold ab_objInit at q
  split at q
  next a =>
    exact W.objInit Cx.1 Cx.2.1 Cx.2.2.2.1 (Cx.2.2.2.2.1 _ w1) (Cx.2.2.2.2.1 _ w2) (Cx.2.2.2.2.1 _ w3) rfl (by rw [Cx.2.2.1]; exact hl.1) rfl d hfr (by have h9 : 2 * (F0 m pc la ([] : List Value)).monitorRoom + (([] : List Value).map fun v => v.category).sum ≤ 8 := lv_room (Nat.zero_le _); show 2 * (F0 m pc la ([] : List Value)).monitorRoom + (([] : List Value).map fun v => v.category).sum + 12 ≤ R.locals; omega) (hK _ _ _ _ _ _ _ q H locs la hl hW hS)
  next => exact q.elim
end AbM
