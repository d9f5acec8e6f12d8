/-! instructions that the law alone has: locals of two slots, other constants, the script, a static -/
def ab_lload (i t : Nat) : ab_I := fun K ls st L h k n => match ab_get ls i with
  | some (.long x) => K t ls (.long x :: st) L h k n
  | _ => False
def ab_lstore (i t : Nat) : ab_I := fun K ls st L h k n => match st with
  | .long x :: r => cond (ab_ok1 ls i) (K t (ab_set (ab_set ls i (some (.long x))) (i + 1) none) r L h k n) False
  | _ => False
/-- a static that is null or something -/
def ab_gz (t : Nat) : ab_I := fun K ls st L h k n => K t ls (.null :: st) L h k n ∧ ∀ q : Nat, K t ls (.ref q :: st) L h k n
section AbN
variable {p : Program} {l : Launch} {e : Env} {R : Room} {s : State} {m : MethodId} {args : Array Value} {below : List Frame} {meth : Method} {c : Code} {Q : State → Prop} {D : va_G} {C : Nat → ClassId} {g : Nat → Nat} {A : Nat → Prop} {nL : Nat} {own nm : String} {cc : ByteArray} {ret : Option FieldType} {pc : Nat}
theorem sn_fconst1 (Cx : ab_Cx l D C g own nm cc nL ret ab_T p s m args meth c A) (d : decode cc pc = .ok (.fconst 1, 1)) : ab_Sn (ab_W p l e R s m args below meth c Q D C A nL) pc (ab_push (.float FP.fconst1) (pc + 1)) :=
  fun _ hK _ _ _ _ _ _ q H locs la hl hW hS => lv_fconst1 Cx.1 Cx.2.1 d (hK _ _ _ _ _ _ _ q H locs la hl hW hS)
theorem sn_ldcf (Cx : ab_Cx l D C g own nm cc nL ret ab_T p s m args meth c A) {i : Nat} {v : UInt32} (d : decode cc pc = .ok (.ldc i, 2)) (hw : Cond.constantFloat own i v ∈ ab_T) : ab_Sn (ab_W p l e R s m args below meth c Q D C A nL) pc (ab_push (.float v) (pc + 2)) :=
  fun _ hK _ _ _ _ _ _ q H locs la hl hW hS => lv_ldcf Cx.1 Cx.2.1 Cx.2.2.2.1 (Cx.2.2.2.2.1 _ hw) d (hK _ _ _ _ _ _ _ q H locs la hl hW hS)
theorem sn_ldc2d (Cx : ab_Cx l D C g own nm cc nL ret ab_T p s m args meth c A) {i : Nat} {v : UInt64} (d : decode cc pc = .ok (.ldc2_w i, 3)) (hw : Cond.constantDouble own i v ∈ ab_T) : ab_Sn (ab_W p l e R s m args below meth c Q D C A nL) pc (ab_push (.double v) (pc + 3)) :=
  fun _ hK _ _ _ _ _ _ q H locs la hl hW hS => lv_ldc2d Cx.1 Cx.2.1 Cx.2.2.2.1 (Cx.2.2.2.2.1 _ hw) d (hK _ _ _ _ _ _ _ q H locs la hl hW hS)
theorem sn_lload_n (Cx : ab_Cx l D C g own nm cc nL ret ab_T p s m args meth c A) {k : Fin 4} {i : Nat} (d : decode cc pc = .ok (.lload_n k, 1)) (hi : (k : Nat) = i) : ab_Sn (ab_W p l e R s m args below meth c Q D C A nL) pc (ab_lload i (pc + 1)) := by
  intro K hK ls st L h k n q H locs la hl hW hS
  unfold ab_lload at q
  split at q
  next x he => exact lv_lload_n Cx.1 Cx.2.1 d hi (ab_has_at hl he) (hK _ _ _ _ _ _ _ q H locs la hl hW hS)
  next => exact q.elim
theorem sn_lload (Cx : ab_Cx l D C g own nm cc nL ret ab_T p s m args meth c A) {i : Nat} (d : decode cc pc = .ok (.lload i, 2)) : ab_Sn (ab_W p l e R s m args below meth c Q D C A nL) pc (ab_lload i (pc + 2)) := by
  intro K hK ls st L h k n q H locs la hl hW hS
  unfold ab_lload at q
  split at q
  next x he => exact lv_lload Cx.1 Cx.2.1 d (ab_has_at hl he) (hK _ _ _ _ _ _ _ q H locs la hl hW hS)
  next => exact q.elim
theorem sn_dload_n (Cx : ab_Cx l D C g own nm cc nL ret ab_T p s m args meth c A) {k : Fin 4} {i : Nat} (d : decode cc pc = .ok (.dload_n k, 1)) (hi : (k : Nat) = i) : ab_Sn (ab_W p l e R s m args below meth c Q D C A nL) pc (ab_dload i (pc + 1)) := by
  intro K hK ls st L h k n q H locs la hl hW hS
  unfold ab_dload at q
  split at q
  next x he => exact lv_dload_n Cx.1 Cx.2.1 d hi (ab_has_at hl he) (hK _ _ _ _ _ _ _ q H locs la hl hW hS)
  next => exact q.elim
theorem sn_lstore_n (Cx : ab_Cx l D C g own nm cc nL ret ab_T p s m args meth c A) {k : Fin 4} {i : Nat} (d : decode cc pc = .ok (.lstore_n k, 1)) (hi : (k : Nat) = i) (hn : i + 1 < nL) : ab_Sn (ab_W p l e R s m args below meth c Q D C A nL) pc (ab_lstore i (pc + 1)) := by
  intro K hK ls st L h k n q H locs la hl hW hS
  unfold ab_lstore at q
  split at q
  next x r =>
    obtain ⟨h1, q⟩ := ab_cond q
    exact lv_lstore_n Cx.1 Cx.2.1 d hi hl hn rfl (fun la' hl' => hK _ _ _ _ _ _ _ q H locs la' (ab_has_mono hl' (ab_st2 h1)) hW hS)
  next => exact q.elim
theorem sn_lstore (Cx : ab_Cx l D C g own nm cc nL ret ab_T p s m args meth c A) {i : Nat} (d : decode cc pc = .ok (.lstore i, 2)) (hn : i + 1 < nL) : ab_Sn (ab_W p l e R s m args below meth c Q D C A nL) pc (ab_lstore i (pc + 2)) := by
  intro K hK ls st L h k n q H locs la hl hW hS
  unfold ab_lstore at q
  split at q
  next x r =>
    obtain ⟨h1, q⟩ := ab_cond q
    exact lv_lstore Cx.1 Cx.2.1 d hl hn rfl (fun la' hl' => hK _ _ _ _ _ _ _ q H locs la' (ab_has_mono hl' (ab_st2 h1)) hW hS)
  next => exact q.elim
theorem sn_dstore_n (Cx : ab_Cx l D C g own nm cc nL ret ab_T p s m args meth c A) {k : Fin 4} {i : Nat} (d : decode cc pc = .ok (.dstore_n k, 1)) (hi : (k : Nat) = i) (hn : i + 1 < nL) : ab_Sn (ab_W p l e R s m args below meth c Q D C A nL) pc (ab_dstore i (pc + 1)) := by
  intro K hK ls st L h k n q H locs la hl hW hS
  unfold ab_dstore at q
  split at q
  next x r =>
    obtain ⟨h1, q⟩ := ab_cond q
    exact lv_dstore_n Cx.1 Cx.2.1 d hi hl hn rfl (fun la' hl' => hK _ _ _ _ _ _ _ q H locs la' (ab_has_mono hl' (ab_st2 h1)) hW hS)
  next => exact q.elim
theorem sn_sioobe {i : Nat} (Cx : ab_Cx l D C g own nm cc nL ret ab_T p s m args meth c A) (d : decode cc pc = .ok (.getstatic i, 3)) (w1 : Cond.fieldLink own i "jdk/internal/util/Preconditions" "SIOOBE_FORMATTER" "Ljava/util/function/BiFunction;" ∈ ab_T) : ab_Sn (ab_W p l e R s m args below meth c Q D C A nL) pc (ab_gz (pc + 3)) := by
  intro K hK ls st L h k n q H locs la hl hW hS
  have hz := Cx.2.2.2.2.2.2.2.2.2.2.1.2.2.2.2.2.2.2.2.2.2.2.2.2.2.2.2
  rcases hz with hz | ⟨t, hz⟩
  · exact va_gets Cx.1 Cx.2.1 hz hS Cx.2.2.2.1 (Cx.2.2.2.2.1 _ w1) (fun _ h9 => h9) d (hK _ _ _ _ _ _ _ q.1 H locs la hl hW hS)
  · exact va_gets Cx.1 Cx.2.1 hz hS Cx.2.2.2.1 (Cx.2.2.2.2.1 _ w1) (fun _ h9 => h9) d (hK _ _ _ _ _ _ _ (q.2 t) H locs la hl hW hS)
/-! the script -/
def ab_sld (b Ls : Nat) (xs : Nat → Int32) (t : Nat) : ab_I := fun K ls st L h k n => match st with
  | .int j :: .ref a :: r => a = b ∧ vp_in j Ls ∧ K t ls (.int (xs j.toNatClampNeg) :: r) L h k n
  | _ => False
def ab_slen (b Ls : Nat) (t : Nat) : ab_I := fun K ls st L h k n => match st with
  | .ref a :: r => a = b ∧ K t ls (.int (Int32.ofNat Ls) :: r) L h k n
  | _ => False
theorem ab_script (Cx : ab_Cx l D C g own nm cc nL ret ab_T p s m args meth c A) : ab_Sc g A s s.heap := Cx.2.2.2.2.2.2.2.2.2.2.1.2.2.2.2.2.2.2.2.2.2.2.2.2.2.2.1
theorem sn_sld (Cx : ab_Cx l D C g own nm cc nL ret ab_T p s m args meth c A) (d : decode cc pc = .ok (.iaload, 1)) : ab_Sn (ab_W p l e R s m args below meth c Q D C A nL) pc (ab_sld (g 14) (g 15) (ab_xs g) (pc + 1)) := by
  intro K hK ls st L h k n q H locs la hl hW hS
  unfold ab_sld at q
  split at q
  next j a r =>
    obtain ⟨rfl, hin, q⟩ := q
    exact va_sld Cx.1 Cx.2.1 (ab_script Cx).1 (ab_script Cx).2.1 (ab_script Cx).2.2 hS hin d (hK _ _ _ _ _ _ _ q H locs la hl hW hS)
  next => exact q.elim
theorem sn_slen (Cx : ab_Cx l D C g own nm cc nL ret ab_T p s m args meth c A) (d : decode cc pc = .ok (.arraylength, 1)) : ab_Sn (ab_W p l e R s m args below meth c Q D C A nL) pc (ab_slen (g 14) (g 15) (pc + 1)) := by
  intro K hK ls st L h k n q H locs la hl hW hS
  unfold ab_slen at q
  split at q
  next a r =>
    obtain ⟨rfl, q⟩ := q
    exact va_slen Cx.1 Cx.2.1 (ab_script Cx).1 (ab_script Cx).2.1 (ab_script Cx).2.2 hS d (hK _ _ _ _ _ _ _ q H locs la hl hW hS)
  next => exact q.elim
end AbN
