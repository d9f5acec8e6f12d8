/-! contracts, calls, ends -/
def ab_Pc (D : va_G) (C : Nat → ClassId) (g : Nat → Nat) (as : List Value) (L : List Nat) (h : ab_H) (sz : Nat) : Array Value → State → Prop := fun v U =>
  v = as.toArray ∧ U.heap.size = sz ∧ va_P D vwCl (ab_ws C L h) U.heap ∧ va_K D vwCl (ab_tys C) U ∧ va_D (fun _ => True) (ab_ws C L h) ∧ ab_Amb g (va_A (ab_ws C L h) sz) U
def ab_Post (D : va_G) (C : Nat → ClassId) (R : ab_R) (A : Nat → Prop) : Array Value → State → Outcome → State → Prop := fun _ st o t =>
  ∃ (v : Option Value) (L : List Nat) (h : ab_H), o = .returned v ∧ R v L h ∧ va_P D vwCl (ab_ws C L h) t.heap ∧ va_D A (ab_ws C L h) ∧ va_F A st t
def ab_PostX (D : va_G) (C : Nat → ClassId) (XP : ab_XP) (A : Nat → Prop) : String → State → State → Prop := fun E st t =>
  ∃ (L : List Nat) (h : ab_H), XP E L h ∧ va_P D vwCl (ab_ws C L h) t.heap ∧ va_D A (ab_ws C L h) ∧ va_F A st t
/-- a method's contract: its body's transformer gives what it answers -/
def ab_CTw (l : Launch) (D : va_G) (C : Nat → ClassId) (g : Nat → Nat) (y : MethodName) (ws : List Cond) (rm : Room) (mc ms : Nat) (wp : ab_Wp) : Prop :=
  ∀ (as : List Value) (L : List Nat) (h : ab_H) (sz : Nat) (R : ab_R) (XP : ab_XP), wp as L h R XP → vx_Met l y ws rm (ab_Pc D C g as L h sz) (ab_Post D C R (va_A (ab_ws C L h) sz)) (ab_PostX D C XP (va_A (ab_ws C L h) sz)) mc ms (va_A (ab_ws C L h) sz)
def ab_CT (l : Launch) (D : va_G) (C : Nat → ClassId) (g : Nat → Nat) (y : MethodName) (cc : ByteArray) (maxL : Nat) (ret : Option FieldType) (fr mc ms lo : Nat) (wp : ab_Wp) : Prop :=
  ab_CTw l D C g y (.code y cc maxL ret :: ab_T) { frames := fr, cells := mc, slots := ms, locals := lo } mc ms wp
def ab_take : Nat → List Value → List Value → Option (List Value × List Value)
  | 0, acc, r => some (acc, r)
  | j + 1, acc, v :: r => ab_take j (v :: acc) r
  | _ + 1, _, [] => none
theorem ab_take_spec : ∀ (j : Nat) (acc st as r : List Value), ab_take j acc st = some (as, r) → ∃ bs : List Value, as = bs ++ acc ∧ bs.length = j ∧ st = bs.reverse ++ r
  | 0, acc, st, as, r, h => by cases h; exact ⟨[], rfl, rfl, rfl⟩
  | j + 1, acc, v :: st, as, r, h => by
    obtain ⟨bs, e1, e2, e3⟩ := ab_take_spec j (v :: acc) st as r h
    exact ⟨bs ++ [v], by rw [e1]; simp, by simp [e2], by rw [e3]; simp⟩
  | _ + 1, _, [], _, _, h => by cases h
def ab_sum : List Value → Nat
  | [] => 0
  | v :: r => v.category + ab_sum r
theorem ab_sum_eq : ∀ r : List Value, (r.map fun v => v.category).sum = ab_sum r
  | [] => rfl
  | v :: r => by rw [List.map_cons, List.sum_cons, ab_sum_eq r]; rfl
/-- what comes back, by its kind: nothing, an int, a reference, a long, a float, a double -/
def ab_sh : Nat → Option Value → (List Value → Prop) → Prop
  | 0, v, F => v = none ∧ F []
  | 1, v, F => ∃ x : Int32, v = some (.int x) ∧ F [.int x]
  | 2, v, F => ∃ x : Nat, v = some (.ref x) ∧ F [.ref x]
  | 3, v, F => ∃ x : Int64, v = some (.long x) ∧ F [.long x]
  | 4, v, F => ∃ x : UInt32, v = some (.float x) ∧ F [.float x]
  | _, v, F => ∃ x : UInt64, v = some (.double x) ∧ F [.double x]
theorem ab_sh_use : ∀ {j : Nat} {v : Option Value} {F : List Value → Prop}, ab_sh j v F → F v.toList
  | 0, _, _, h => by rw [h.1]; exact h.2
  | 1, _, _, ⟨_, h1, h2⟩ => by rw [h1]; exact h2
  | 2, _, _, ⟨_, h1, h2⟩ => by rw [h1]; exact h2
  | 3, _, _, ⟨_, h1, h2⟩ => by rw [h1]; exact h2
  | 4, _, _, ⟨_, h1, h2⟩ => by rw [h1]; exact h2
  | _ + 5, _, _, ⟨_, h1, h2⟩ => by rw [h1]; exact h2
/-- a static call, or one of a constructor -/
def ab_callS (na sh : Nat) (wp : ab_Wp) (mc ms MC MS : Nat) (XP : ab_XP) (t : Nat) : ab_I := fun K ls st L h k n => match ab_take na [] st with
  | some (as, r) => cond (Nat.ble (ab_sum r) 8) ((k + mc ≤ MC ∧ n + ms ≤ MS) ∧ wp as L h (fun v L' h' => ab_sh sh v (fun w => K t ls (w ++ r) L' h' (k + mc) (n + ms))) XP) False
  | none => False
def ab_callI (na sh : Nat) (wp : ab_Wp) (mc ms MC MS : Nat) (XP : ab_XP) (t : Nat) : ab_I := fun K ls st L h k n => match ab_take na [] st with
  | some (.ref b :: As, r) => cond (Nat.ble (ab_sum r) 8) ((k + mc ≤ MC ∧ n + ms ≤ MS) ∧ wp (.ref b :: As) L h (fun v L' h' => ab_sh sh v (fun w => K t ls (w ++ r) L' h' (k + mc) (n + ms))) XP) False
  | _ => False
/-- a call by the receiver's class -/
def ab_callV (ci na sh : Nat) (wp : ab_Wp) (mc ms MC MS : Nat) (XP : ab_XP) (t : Nat) : ab_I := fun K ls st L h k n => match ab_take na [] st with
  | some (.ref b :: As, r) => cond (Nat.ble (ab_sum r) 8) ((k + mc ≤ MC ∧ n + ms ≤ MS) ∧ (b ∈ L ∧ ∃ fs : List Value, h b = .inr (ci, fs)) ∧ wp (.ref b :: As) L h (fun v L' h' => ab_sh sh v (fun w => K t ls (w ++ r) L' h' (k + mc) (n + ms))) XP) False
  | _ => False
def ab_iret (R : ab_R) (MC MS : Nat) : ab_I := fun _ _ st L h k n => match st with
  | [.int x] => (k ≤ MC ∧ n ≤ MS) ∧ R (some (.int x)) L h
  | _ => False
def ab_zret (ty : FieldType) (R : ab_R) (MC MS : Nat) : ab_I := fun _ _ st L h k n => match st with
  | [.int x] => (k ≤ MC ∧ n ≤ MS) ∧ narrow ty (.int x) = .int x ∧ R (some (.int x)) L h
  | _ => False
def ab_vret (R : ab_R) (MC MS : Nat) : ab_I := fun _ _ st L h k n => match st with
  | [] => (k ≤ MC ∧ n ≤ MS) ∧ R none L h
  | _ => False
def ab_aret (R : ab_R) (MC MS : Nat) : ab_I := fun _ _ st L h k n => match st with
  | [.ref x] => (k ≤ MC ∧ n ≤ MS) ∧ R (some (.ref x)) L h
  | _ => False
def ab_lret (R : ab_R) (MC MS : Nat) : ab_I := fun _ _ st L h k n => match st with
  | [.long x] => (k ≤ MC ∧ n ≤ MS) ∧ R (some (.long x)) L h
  | _ => False
def ab_fret (R : ab_R) (MC MS : Nat) : ab_I := fun _ _ st L h k n => match st with
  | [.float x] => (k ≤ MC ∧ n ≤ MS) ∧ R (some (.float x)) L h
  | _ => False
def ab_dret (R : ab_R) (MC MS : Nat) : ab_I := fun _ _ st L h k n => match st with
  | [.double x] => (k ≤ MC ∧ n ≤ MS) ∧ R (some (.double x)) L h
  | _ => False
/-- 'throw new E(text)', five instructions -/
def ab_throw (E : String) (XP : ab_XP) (MC MS : Nat) : ab_I := fun _ _ st L h k n => match st with
  | [] => (k + 1 ≤ MC ∧ n + 6 ≤ MS) ∧ XP E L h
  | _ => False
section AbM
variable {p : Program} {l : Launch} {e : Env} {R : Room} {s : State} {m : MethodId} {args : Array Value} {below : List Frame} {meth : Method} {c : Code} {Q : State → Prop} {D : va_G} {C : Nat → ClassId} {g : Nat → Nat} {A : Nat → Prop} {nL : Nat} {own nm : String} {cc : ByteArray} {ret : Option FieldType} {pc : Nat}
theorem ab_blind {as : List Value} {L : List Nat} {h : ab_H} {sz : Nat} : FrameBlind (ab_Pc D C g as L h sz) := by
  intro a U fr mk q
  obtain ⟨h1, h2, h3, h4, h5, h6⟩ := q
  exact ⟨h1, h2, h3, va_K.moved (u := U) (U := U.calling fr mk a) (Vm.Alike.refl U.vm) h4, h5, ab_Amb_calling fr mk a h6⟩
theorem ab_sub {L : List Nat} {h : ab_H} {H : Heap} {locs : List Loc} (Cx : ab_Cx l D C g own nm cc nL ret ab_T p s m args meth c A) (hW : ab_Wd D C A L h H) (hS : va_S A s.heap H locs) : ∀ q, va_A (ab_ws C L h) H.size q → A q := by
  rintro q (⟨k, e, hk⟩ | hq)
  · exact hW.2.2 k _ hk
  · exact Cx.2.2.2.2.2.2.2.2.2.1 q (Nat.le_trans hS.1 hq)
theorem ab_pre {as : List Value} {L : List Nat} {h : ab_H} {H : Heap} {locs : List Loc} (Cx : ab_Cx l D C g own nm cc nL ret ab_T p s m args meth c A) (hW : ab_Wd D C A L h H) (hS : va_S A s.heap H locs) : ∀ U : State, U.heap = H → s.WarmedH U.vm → ab_Pc D C g as L h H.size as.toArray U := by
  intro U hU hWm
  exact ⟨rfl, by rw [hU], by rw [hU]; exact hW.1, va_K.moved hWm.alike Cx.2.2.2.2.2.2.2.2.1, hW.2.weaken (fun _ _ _ _ => trivial), ab_Amb_at Cx.2.2.2.2.2.2.2.2.2.2.1 hS hU hWm (ab_sub Cx hW hS)⟩
theorem ab_callW {A1 : Nat → Prop} {H : Heap} {locs : List Loc} {k n mc ms : Nat} {la : Array Slot} {st0 rest : List Value} {R' : ab_R} {XP : ab_XP} {a : Array Value} (hr : vx_Run p l e R s m args below meth c H locs k n mc ms (F0 m pc la st0) rest (ab_Post D C R' A1 a) (ab_PostX D C XP A1) A1) (hS : va_S A s.heap H locs) (hA : ∀ q, A1 q → A q)
    (kx : ∀ (E : String) (ce : Cell) (q9 : Addr) (L : List Nat) (h : ab_H) (H1 : Heap) (locs1 : List Loc), XP E L h → ab_Wd D C A L h H1 → va_S A s.heap H1 locs1 → H1[q9]? = some ce → ce.vm = .none → s.vm.findClass E = some ce.cls → vx_W p l e R s m args below meth c H1 locs1 (k + mc) (n + ms) Q (F0 m pc la rest) q9)
    (kk : ∀ (v : Option Value) (L : List Nat) (h : ab_H) (H1 : Heap) (locs1 : List Loc), R' v L h → ab_Wd D C A L h H1 → va_S A s.heap H1 locs1 → W p l e R s m args below meth c H1 locs1 (k + mc) (n + ms) Q (F0 m (pc + 3) la (v.toList ++ rest))) : W p l e R s m args below meth c H locs k n Q (F0 m pc la st0) := by
  intro T hT X
  rcases hr T hT X with ⟨v, st₀, t, T', L1, h0, X', hL, e1, e2, ⟨v2, L, h, hv, hR, hP, hD, hF⟩, st⟩ | ⟨q, st₀, t, T', L1, E, ce, h0, X', hL, e1, e2, ⟨L, h, hR, hP, hD, hF⟩, hce, hcv, hcl, st⟩
  · cases hv
    obtain ⟨-, -, k3⟩ := vx_keep h0 e1 hS (fun q _ z => hA q z) hA hL hF
    obtain ⟨t2, a1, b1⟩ := kk v L h T'.heap (locs ++ L1) hR ⟨by rw [e1]; exact hP, hD.weaken (fun _ _ _ z => hA _ z)⟩ k3 T' rfl X'
    exact ⟨t2, st t2 a1, b1⟩
  · obtain ⟨-, -, k3⟩ := vx_keep h0 e1 hS (fun q _ z => hA q z) hA hL hF
    obtain ⟨t2, a1, b1⟩ := kx E ce q L h T'.heap (locs ++ L1) hR ⟨by rw [e1]; exact hP, hD.weaken (fun _ _ _ z => hA _ z)⟩ k3 (by rw [e1]; exact hce) hcv hcl T' rfl X'
    exact ⟨t2, st.trans a1, b1⟩
theorem ab_callW5 {A1 : Nat → Prop} {H : Heap} {locs : List Loc} {k n mc ms : Nat} {la : Array Slot} {st0 rest : List Value} {R' : ab_R} {XP : ab_XP} {a : Array Value} (hr : vx_Run5 p l e R s m args below meth c H locs k n mc ms (F0 m pc la st0) rest (ab_Post D C R' A1 a) (ab_PostX D C XP A1) A1) (hS : va_S A s.heap H locs) (hA : ∀ q, A1 q → A q)
    (kx : ∀ (E : String) (ce : Cell) (q9 : Addr) (L : List Nat) (h : ab_H) (H1 : Heap) (locs1 : List Loc), XP E L h → ab_Wd D C A L h H1 → va_S A s.heap H1 locs1 → H1[q9]? = some ce → ce.vm = .none → s.vm.findClass E = some ce.cls → vx_W p l e R s m args below meth c H1 locs1 (k + mc) (n + ms) Q (F0 m pc la rest) q9)
    (kk : ∀ (v : Option Value) (L : List Nat) (h : ab_H) (H1 : Heap) (locs1 : List Loc), R' v L h → ab_Wd D C A L h H1 → va_S A s.heap H1 locs1 → W p l e R s m args below meth c H1 locs1 (k + mc) (n + ms) Q (F0 m (pc + 5) la (v.toList ++ rest))) : W p l e R s m args below meth c H locs k n Q (F0 m pc la st0) := by
  intro T hT X
  rcases hr T hT X with ⟨v, st₀, t, T', L1, h0, X', hL, e1, e2, ⟨v2, L, h, hv, hR, hP, hD, hF⟩, st⟩ | ⟨q, st₀, t, T', L1, E, ce, h0, X', hL, e1, e2, ⟨L, h, hR, hP, hD, hF⟩, hce, hcv, hcl, st⟩
  · cases hv
    obtain ⟨-, -, k3⟩ := vx_keep h0 e1 hS (fun q _ z => hA q z) hA hL hF
    obtain ⟨t2, a1, b1⟩ := kk v L h T'.heap (locs ++ L1) hR ⟨by rw [e1]; exact hP, hD.weaken (fun _ _ _ z => hA _ z)⟩ k3 T' rfl X'
    exact ⟨t2, st t2 a1, b1⟩
  · obtain ⟨-, -, k3⟩ := vx_keep h0 e1 hS (fun q _ z => hA q z) hA hL hF
    obtain ⟨t2, a1, b1⟩ := kx E ce q L h T'.heap (locs ++ L1) hR ⟨by rw [e1]; exact hP, hD.weaken (fun _ _ _ z => hA _ z)⟩ k3 (by rw [e1]; exact hce) hcv hcl T' rfl X'
    exact ⟨t2, st.trans a1, b1⟩
theorem ab_fix (Cx : ab_Cx l D C g own nm cc nL ret ab_T p s m args meth c A) : CallFix p m c cc nL s args ab_T own := ⟨Cx.1, Cx.2.1, Cx.2.2.1, Cx.2.2.2.1, Cx.2.2.2.2.1⟩
theorem ab_rm {r : List Value} {la : Array Slot} {st0 : List Value} (h : Nat.ble (ab_sum r) 8 = true) : 2 * (F0 m pc la st0).monitorRoom + (r.map fun v => v.category).sum ≤ 8 := lv_room (by rw [ab_sum_eq]; exact Nat.le_of_ble_eq_true h)
/-- where an exception leaves the method -/
theorem ab_leave {R2 : ab_R} {XP : ab_XP} {MC MS k n : Nat} (Cx : ab_Cx l D C g own nm cc nL ret ab_T p s m args meth c A) (hout : ∀ x ∈ c.exceptionTable.toList, covers x pc = false) {la : Array Slot} {rest : List Value} (hk : k ≤ MC ∧ n ≤ MS) (E : String) (ce : Cell) (q9 : Addr) (L : List Nat) (h : ab_H) (H1 : Heap) (locs1 : List Loc) (hX : XP E L h) (hW : ab_Wd D C A L h H1) (hS : va_S A s.heap H1 locs1) (hce : H1[q9]? = some ce) (hcv : ce.vm = .none) (hcl : s.vm.findClass E = some ce.cls) : vx_W p l e R s m args below meth c H1 locs1 k n (vx_MQ below (ab_Post D C R2 A) (ab_PostX D C XP A) args s MC MS A) (F0 m pc la rest) q9 :=
  vx_out hout Cx.2.2.2.2.2.2.1 hce hcv hcl (fun t ht _ => ⟨L, h, hX, by rw [ht]; exact hW.1, hW.2, hS.F ht⟩) hS.2.2 hk.1 hk.2
theorem sn_callS {R2 : ab_R} {XP : ab_XP} {MC MS : Nat} (Cx : ab_Cx l D C g own nm cc nL ret ab_T p s m args meth c A) (hout : ∀ x ∈ c.exceptionTable.toList, covers x pc = false) {y : MethodName} {bytes : ByteArray} {maxL fr mc ms lo na sh i : Nat} {ret' : Option FieldType} {wp : ab_Wp} (hM : ab_CT l D C g y bytes maxL ret' fr mc ms lo wp) (d : decode cc pc = .ok (.invokestatic i, 3)) (w1 : Cond.methodLink own i y ∈ ab_T) (w2 : Cond.static y ∈ ab_T) (w3 : Cond.initialized y.cls ∈ ab_T) (w4 : Cond.code y bytes maxL ret' ∈ ab_T)
    (hd : y.cls ≠ "java/lang/invoke/MethodHandle" ∧ y.cls ≠ "java/lang/invoke/VarHandle" ∧ (parseMethodDescriptor y.desc).map (fun d => d.parameters.length) = some na) (hR : fr + 1 ≤ R.frames ∧ 8 + (maxL + 11) + lo ≤ R.locals) (hMC : R.cells = MC) (hMS : R.slots = MS) :
    ab_Sn (ab_W p l e R s m args below meth c (vx_MQ below (ab_Post D C R2 A) (ab_PostX D C XP A) args s MC MS A) D C A nL) pc (ab_callS na sh wp mc ms MC MS XP (pc + 3)) := by
  intro K hK ls st L h k n q H locs la hl hW hS
  unfold ab_callS at q
  split at q
  next as r hp =>
    obtain ⟨hb, hkn, q⟩ := ab_cond q
    obtain ⟨bs, e1, e2, e3⟩ := ab_take_spec _ _ _ _ _ hp
    rw [List.append_nil] at e1
    subst e1
    subst e3
    have cw := va_cwS (R := R) (s := s) (args := args) (own := own) (index := i) na Cx.2.2.2.2.1 (ab_GI (ws := va_wsS own i y (.code y bytes maxL ret' :: ab_T)) (fun w hw => by
      simp only [va_wsS, List.mem_append, List.mem_cons, List.not_mem_nil, or_false] at hw
      rcases hw with (rfl | rfl | rfl) | rfl | hw
      · exact w1
      · exact w2
      · exact w3
      · exact w4
      · exact hw)) rfl (rm := { frames := fr, cells := mc, slots := ms, locals := lo }) rfl rfl hd hR
    exact ab_callW (vx_runS (As := as) (rest := r) (ab_fix Cx) (hM as L h H.size _ XP q) cw ⟨ab_blind, ab_pre Cx hW hS⟩ rfl e2 hl.1 rfl (ab_rm hb) d (by rw [hMC, hMS]; exact hkn)) hS (ab_sub Cx hW hS)
      (fun E ce q9 L' h' H1 locs1 => ab_leave Cx hout hkn E ce q9 L' h' H1 locs1)
      (fun v L' h' H1 locs1 hR' hW' hS' => hK _ _ _ _ _ _ _ (ab_sh_use hR') H1 locs1 la hl hW' hS')
  next => exact q.elim
theorem sn_callI {R2 : ab_R} {XP : ab_XP} {MC MS : Nat} (Cx : ab_Cx l D C g own nm cc nL ret ab_T p s m args meth c A) (hout : ∀ x ∈ c.exceptionTable.toList, covers x pc = false) {y : MethodName} {bytes : ByteArray} {maxL fr mc ms lo na i : Nat} {wp : ab_Wp} (hM : ab_CT l D C g y bytes maxL none fr mc ms lo wp) (d : decode cc pc = .ok (.invokespecial i, 3)) (w1 : Cond.methodLink own i y ∈ ab_T) (w2 : Cond.instanceMethod y ∈ ab_T) (w3 : Cond.initialized y.cls ∈ ab_T) (w4 : Cond.code y bytes maxL none ∈ ab_T) (hy : y.name = "<init>")
    (hd : y.cls ≠ "java/lang/invoke/MethodHandle" ∧ y.cls ≠ "java/lang/invoke/VarHandle" ∧ (parseMethodDescriptor y.desc).map (fun d => d.parameters.length) = some na) (hR : fr + 1 ≤ R.frames ∧ 8 + (maxL + 11) + lo ≤ R.locals) (hMC : R.cells = MC) (hMS : R.slots = MS) :
    ab_Sn (ab_W p l e R s m args below meth c (vx_MQ below (ab_Post D C R2 A) (ab_PostX D C XP A) args s MC MS A) D C A nL) pc (ab_callI (na + 1) 0 wp mc ms MC MS XP (pc + 3)) := by
  intro K hK ls st L h k n q H locs la hl hW hS
  unfold ab_callI at q
  split at q
  next b As r hp =>
    obtain ⟨hb, hkn, q⟩ := ab_cond q
    obtain ⟨bs, e1, e2, e3⟩ := ab_take_spec _ _ _ _ _ hp
    rw [List.append_nil] at e1
    subst e1
    subst e3
    have cw := cwI (R := R) (s := s) (args := args) (own := own) (index := i) (Ts := ab_T) na Cx.2.2.2.2.1 (ab_GI (ws := .code y bytes maxL none :: ab_T) (fun w hw => by
      rcases List.mem_cons.mp hw with rfl | hw
      · exact w4
      · exact hw)) rfl (rm := { frames := fr, cells := mc, slots := ms, locals := lo }) rfl rfl (Cx.2.2.2.2.1 _ w3) (Cx.2.2.2.2.1 _ w1) (Cx.2.2.2.2.1 _ w2) hy hd hR
    exact ab_callW (vx_runI (As := As) (b := b) (rest := r) (ab_fix Cx) (hM (.ref b :: As) L h H.size (fun v L' h' => ab_sh 0 v (fun w => K (pc + 3) ls (w ++ r) L' h' (k + mc) (n + ms))) XP q) cw ⟨ab_blind, ab_pre Cx hW hS⟩ rfl (Nat.succ.inj e2) hl.1 (by simp) (ab_rm hb) d (by rw [hMC, hMS]; exact hkn)) hS (ab_sub Cx hW hS)
      (fun E ce q9 L' h' H1 locs1 => ab_leave Cx hout hkn E ce q9 L' h' H1 locs1)
      (fun v L' h' H1 locs1 hR' hW' hS' => hK _ _ _ _ _ _ _ (ab_sh_use hR') H1 locs1 la hl hW' hS')
  next => exact q.elim
theorem sn_callV {R2 : ab_R} {XP : ab_XP} {MC MS : Nat} (Cx : ab_Cx l D C g own nm cc nL ret ab_T p s m args meth c A) (hout : ∀ x ∈ c.exceptionTable.toList, covers x pc = false) {Cn : String} {T : u_T} {N ci : Nat} (hc : vwCl[ci]? = some (Cn, T, N)) {y : MethodName} {bytes : ByteArray} {maxL fr mc ms lo na sh i : Nat} {ret' : Option FieldType} {wp : ab_Wp} (hM : ab_CT l D C g y bytes maxL ret' fr mc ms lo wp) (d : decode cc pc = .ok (.invokevirtual i, 3)) (w1 : Cond.methodLink own i y ∈ ab_T) (w2 : Cond.instanceMethod y ∈ ab_T) (w3 : Cond.initialized Cn ∈ ab_T) (w4 : Cond.code y bytes maxL ret' ∈ ab_T) (w5 : Cond.selects Cn y y ∈ ab_T)
    (hd : y.cls = Cn ∧ y.cls ≠ "java/lang/invoke/MethodHandle" ∧ y.cls ≠ "java/lang/invoke/VarHandle" ∧ (parseMethodDescriptor y.desc).map (fun d => d.parameters.length) = some na) (hR : fr + 1 ≤ R.frames ∧ 8 + (maxL + 11) + lo ≤ R.locals) (hMC : R.cells = MC) (hMS : R.slots = MS) :
    ab_Sn (ab_W p l e R s m args below meth c (vx_MQ below (ab_Post D C R2 A) (ab_PostX D C XP A) args s MC MS A) D C A nL) pc (ab_callV ci (na + 1) sh wp mc ms MC MS XP (pc + 3)) := by
  intro K hK ls st L h k n q H locs la hl hW hS
  unfold ab_callV at q
  split at q
  next b As r hp =>
    obtain ⟨hb, hkn, ⟨hbL, fs, hfs⟩, q⟩ := ab_cond q
    obtain ⟨bs, e1, e2, e3⟩ := ab_take_spec _ _ _ _ _ hp
    rw [List.append_nil] at e1
    subst e1
    subst e3
    have cw := cwV (R := R) (s := s) (args := args) (own := own) (C := Cn) (index := i) (Ts := ab_T) na Cx.2.2.2.2.1 (ab_GI (ws := wsV own i Cn y (.code y bytes maxL ret' :: ab_T)) (fun w hw => by
      simp only [wsV, List.mem_append, List.mem_cons, List.not_mem_nil, or_false] at hw
      rcases hw with (rfl | rfl | rfl | rfl) | rfl | hw
      · exact w1
      · exact w2
      · exact w5
      · exact w3
      · exact w4
      · exact hw)) rfl (rm := { frames := fr, cells := mc, slots := ms, locals := lo }) rfl rfl hd hR
    exact ab_callW (vx_runV (As := As) (b := b) (rest := r) (ab_fix Cx) (hM (.ref b :: As) L h H.size _ XP q) cw ⟨ab_blind, ab_recv Cx hc hW hbL hfs, ab_pre Cx hW hS⟩ rfl (Nat.succ.inj e2) hl.1 (by simp) (ab_rm hb) d (by rw [hMC, hMS]; exact hkn)) hS (ab_sub Cx hW hS)
      (fun E ce q9 L' h' H1 locs1 => ab_leave Cx hout hkn E ce q9 L' h' H1 locs1)
      (fun v L' h' H1 locs1 hR' hW' hS' => hK _ _ _ _ _ _ _ (ab_sh_use hR') H1 locs1 la hl hW' hS')
  next => exact q.elim
theorem sn_iret {R2 : ab_R} {XP : ab_XP} {MC MS : Nat} (Cx : ab_Cx l D C g own nm cc nL (some .int) ab_T p s m args meth c A) (d : decode cc pc = .ok (.ireturn, 1)) : ab_Sn (ab_W p l e R s m args below meth c (vx_MQ below (ab_Post D C R2 A) (ab_PostX D C XP A) args s MC MS A) D C A nL) pc (ab_iret R2 MC MS) := by
  intro K hK ls st L h k n q H locs la hl hW hS
  unfold ab_iret at q
  split at q
  next x => exact W.widen q.1.1 q.1.2 (vx_ret (W.iret (hlocks := Cx.2.2.2.2.2.2.1) Cx.1 Cx.2.1 Cx.2.2.2.2.2.1 (fun t ht _ => ⟨_, L, h, rfl, q.2, by rw [ht]; exact hW.1, hW.2, hS.F ht⟩) hS.2.2 d))
  next => exact q.elim
theorem sn_lret {R2 : ab_R} {XP : ab_XP} {MC MS : Nat} (Cx : ab_Cx l D C g own nm cc nL (some .long) ab_T p s m args meth c A) (d : decode cc pc = .ok (.lreturn, 1)) : ab_Sn (ab_W p l e R s m args below meth c (vx_MQ below (ab_Post D C R2 A) (ab_PostX D C XP A) args s MC MS A) D C A nL) pc (ab_lret R2 MC MS) := by
  intro K hK ls st L h k n q H locs la hl hW hS
  unfold ab_lret at q
  split at q
  next x => exact W.widen q.1.1 q.1.2 (vx_ret (W.lret (hlocks := Cx.2.2.2.2.2.2.1) Cx.1 Cx.2.1 Cx.2.2.2.2.2.1 (fun t ht _ => ⟨_, L, h, rfl, q.2, by rw [ht]; exact hW.1, hW.2, hS.F ht⟩) hS.2.2 d))
  next => exact q.elim
theorem sn_fret {R2 : ab_R} {XP : ab_XP} {MC MS : Nat} (Cx : ab_Cx l D C g own nm cc nL (some .float) ab_T p s m args meth c A) (d : decode cc pc = .ok (.freturn, 1)) : ab_Sn (ab_W p l e R s m args below meth c (vx_MQ below (ab_Post D C R2 A) (ab_PostX D C XP A) args s MC MS A) D C A nL) pc (ab_fret R2 MC MS) := by
  intro K hK ls st L h k n q H locs la hl hW hS
  unfold ab_fret at q
  split at q
  next x => exact W.widen q.1.1 q.1.2 (vx_ret (W.fret (hlocks := Cx.2.2.2.2.2.2.1) Cx.1 Cx.2.1 Cx.2.2.2.2.2.1 (fun t ht _ => ⟨_, L, h, rfl, q.2, by rw [ht]; exact hW.1, hW.2, hS.F ht⟩) hS.2.2 d))
  next => exact q.elim
theorem sn_dret {R2 : ab_R} {XP : ab_XP} {MC MS : Nat} (Cx : ab_Cx l D C g own nm cc nL (some .double) ab_T p s m args meth c A) (d : decode cc pc = .ok (.dreturn, 1)) : ab_Sn (ab_W p l e R s m args below meth c (vx_MQ below (ab_Post D C R2 A) (ab_PostX D C XP A) args s MC MS A) D C A nL) pc (ab_dret R2 MC MS) := by
  intro K hK ls st L h k n q H locs la hl hW hS
  unfold ab_dret at q
  split at q
  next x => exact W.widen q.1.1 q.1.2 (vx_ret (W.dret (hlocks := Cx.2.2.2.2.2.2.1) Cx.1 Cx.2.1 Cx.2.2.2.2.2.1 (fun t ht _ => ⟨_, L, h, rfl, q.2, by rw [ht]; exact hW.1, hW.2, hS.F ht⟩) hS.2.2 d))
  next => exact q.elim
theorem sn_zret {R2 : ab_R} {XP : ab_XP} {MC MS : Nat} {ty : FieldType} (Cx : ab_Cx l D C g own nm cc nL (some ty) ab_T p s m args meth c A) (d : decode cc pc = .ok (.ireturn, 1)) : ab_Sn (ab_W p l e R s m args below meth c (vx_MQ below (ab_Post D C R2 A) (ab_PostX D C XP A) args s MC MS A) D C A nL) pc (ab_zret ty R2 MC MS) := by
  intro K hK ls st L h k n q H locs la hl hW hS
  unfold ab_zret at q
  split at q
  next x => exact W.widen q.1.1 q.1.2 (vx_ret (W.zret (hlocks := Cx.2.2.2.2.2.2.1) Cx.1 Cx.2.1 Cx.2.2.2.2.2.1 q.2.1 (fun t ht _ => ⟨_, L, h, rfl, q.2.2, by rw [ht]; exact hW.1, hW.2, hS.F ht⟩) hS.2.2 d))
  next => exact q.elim
theorem sn_vret {R2 : ab_R} {XP : ab_XP} {MC MS : Nat} (Cx : ab_Cx l D C g own nm cc nL none ab_T p s m args meth c A) (d : decode cc pc = .ok (.return_, 1)) : ab_Sn (ab_W p l e R s m args below meth c (vx_MQ below (ab_Post D C R2 A) (ab_PostX D C XP A) args s MC MS A) D C A nL) pc (ab_vret R2 MC MS) := by
  intro K hK ls st L h k n q H locs la hl hW hS
  unfold ab_vret at q
  split at q
  next => exact W.widen q.1.1 q.1.2 (vx_ret (W.vret (hlocks := Cx.2.2.2.2.2.2.1) Cx.1 Cx.2.1 Cx.2.2.2.2.2.1 (fun t ht _ => ⟨_, L, h, rfl, q.2, by rw [ht]; exact hW.1, hW.2, hS.F ht⟩) hS.2.2 d))
  next => exact q.elim
theorem sn_aret {R2 : ab_R} {XP : ab_XP} {MC MS : Nat} {rt : FieldType} (Cx : ab_Cx l D C g own nm cc nL (some rt) ab_T p s m args meth c A) (hrt : (∃ n, rt = .object n) ∨ ∃ t, rt = .array t) (d : decode cc pc = .ok (.areturn, 1)) : ab_Sn (ab_W p l e R s m args below meth c (vx_MQ below (ab_Post D C R2 A) (ab_PostX D C XP A) args s MC MS A) D C A nL) pc (ab_aret R2 MC MS) := by
  intro K hK ls st L h k n q H locs la hl hW hS
  unfold ab_aret at q
  split at q
  next x => exact W.widen q.1.1 q.1.2 (vx_ret (W.aret (hlocks := Cx.2.2.2.2.2.2.1) Cx.1 Cx.2.1 Cx.2.2.2.2.2.1 hrt (Or.inr ⟨x, rfl⟩) (fun t ht _ => ⟨_, L, h, rfl, q.2, by rw [ht]; exact hW.1, hW.2, hS.F ht⟩) hS.2.2 d))
  next => exact q.elim
theorem ab_xat {own cls : String} {ic : Nat} {names : List String} {s : State} {args : Array Value} (h1 : ∀ w ∈ ab_T, w.before args s = true) (h8 : ∀ x ∈ ab_casts, va_Nw (.castable x.1 x.2) s) (h10 : ∀ x ∈ ab_decls, va_Nw (.declares x) s) (hg : ∀ w ∈ (vx_atS own ic cls names).filter goodWord, w ∈ ab_T) (hn : ∀ w ∈ (vx_atS own ic cls names).filter (fun w => !goodWord w), w ∈ (ab_casts.map (fun x => Cond.castable x.1 x.2)) ++ ab_decls.map Cond.declares) : ∀ w ∈ vx_atS own ic cls names, w.before args s = true := by
  refine vx_hat (B := (ab_casts.map (fun x => Cond.castable x.1 x.2)) ++ ab_decls.map Cond.declares) (fun w hw => h1 w (hg w hw)) hn (fun w hw => ?_)
  rcases List.mem_append.mp hw with hw | hw
  · obtain ⟨x, hx, rfl⟩ := List.mem_map.mp hw
    exact va_Nw.use rfl (h8 x hx)
  · obtain ⟨x, hx, rfl⟩ := List.mem_map.mp hw
    exact va_Nw.use rfl (h10 x hx)
theorem sn_throw {R2 : ab_R} {XP : ab_XP} {MC MS : Nat} (Cx : ab_Cx l D C g own nm cc nL ret ab_T p s m args meth c A) (hout : ∀ x ∈ c.exceptionTable.toList, covers x (pc + 9) = false) {cls text : String} {names : List String} {ik is ic : Nat} (d0 : decode cc pc = .ok (.new ik, 3)) (d3 : decode cc (pc + 3) = .ok (.dup, 1)) (d4 : decode cc (pc + 4) = .ok (.ldc is, 2)) (d6 : decode cc (pc + 6) = .ok (.invokespecial ic, 3)) (d9 : decode cc (pc + 9) = .ok (.athrow, 1))
    (hcls : Bundle.fit cls = true) (hnames : ∀ n ∈ names, Bundle.fit n = true) (w1 : Cond.classLink own ik cls ∈ ab_T) (w2 : Cond.initialized cls ∈ ab_T) (hs : (own, is, text) ∈ ab_strs) (hg : ∀ w ∈ (vx_atS own ic cls names).filter goodWord, w ∈ ab_T) (hn : ∀ w ∈ (vx_atS own ic cls names).filter (fun w => !goodWord w), w ∈ (ab_casts.map (fun x => Cond.castable x.1 x.2)) ++ ab_decls.map Cond.declares) (hgood : ∀ w ∈ Cond.classLink own ik cls :: Cond.initialized cls :: vx_atS own ic cls names, vx_ot w = true)
    (hfr : names.length + 3 < R.frames) (hlo : 13 * (names.length + 1) + 43 ≤ R.locals) (hMC : R.cells = MC) (hMS : R.slots = MS) : ab_Sn (ab_W p l e R s m args below meth c (vx_MQ below (ab_Post D C R2 A) (ab_PostX D C XP A) args s MC MS A) D C A nL) pc (ab_throw cls XP MC MS) := by
  intro K hK ls st L h k n q H locs la hl hW hS
  unfold ab_throw at q
  split at q
  next =>
    obtain ⟨h1, h2, -, -, -, h6, -, h8, -, h10, -⟩ := Cx.2.2.2.2.2.2.2.2.2.2.1
    obtain ⟨sa, hsa⟩ := h6 _ hs
    exact vx_throwS (own := own) (text := text) (names := names) (sa := sa) (A := A) Cx.1 Cx.2.1 Cx.2.2.2.2.2.2.2.2.2.2.2 Cx.2.2.2.1 hcls hnames (Cx.2.2.2.2.1 _ w1) (Cx.2.2.2.2.1 _ w2) hsa (ab_xat Cx.2.2.2.2.1 h8 h10 hg hn) hgood h1 h2 hS (hl.1.trans Cx.2.2.1.symm) d0 d3 d4 d6 d9 hout hfr (by show 0 + _ ≤ _; omega) (by rw [hMC]; exact q.1.1) (by rw [hMS]; exact q.1.2) Cx.2.2.2.2.2.2.1
      (fun t _ hz hk => ⟨L, h, q.2, hW.1.kept (fun j z hj => hk z.1 (hW.1 j z hj).lt), hW.2, by
        refine ⟨Nat.le_trans hS.1 hz, fun z hz1 hz2 => ?_⟩
        rw [hk z (Nat.lt_of_lt_of_le hz1 hS.1)]
        exact hS.2.1 z hz1 hz2⟩) hS.2.2 q.1.1 q.1.2
  next => exact q.elim
theorem sn_throwW {R2 : ab_R} {XP : ab_XP} {MC MS : Nat} (Cx : ab_Cx l D C g own nm cc nL ret ab_T p s m args meth c A) (hout : ∀ x ∈ c.exceptionTable.toList, covers x (pc + 10) = false) {cls text : String} {names : List String} {ik is ic : Nat} (d0 : decode cc pc = .ok (.new ik, 3)) (d3 : decode cc (pc + 3) = .ok (.dup, 1)) (d4 : decode cc (pc + 4) = .ok (.ldc_w is, 3)) (d6 : decode cc (pc + 7) = .ok (.invokespecial ic, 3)) (d9 : decode cc (pc + 10) = .ok (.athrow, 1))
    (hcls : Bundle.fit cls = true) (hnames : ∀ n ∈ names, Bundle.fit n = true) (w1 : Cond.classLink own ik cls ∈ ab_T) (w2 : Cond.initialized cls ∈ ab_T) (hs : (own, is, text) ∈ ab_strs) (hg : ∀ w ∈ (vx_atS own ic cls names).filter goodWord, w ∈ ab_T) (hn : ∀ w ∈ (vx_atS own ic cls names).filter (fun w => !goodWord w), w ∈ (ab_casts.map (fun x => Cond.castable x.1 x.2)) ++ ab_decls.map Cond.declares) (hgood : ∀ w ∈ Cond.classLink own ik cls :: Cond.initialized cls :: vx_atS own ic cls names, vx_ot w = true)
    (hfr : names.length + 3 < R.frames) (hlo : 13 * (names.length + 1) + 43 ≤ R.locals) (hMC : R.cells = MC) (hMS : R.slots = MS) : ab_Sn (ab_W p l e R s m args below meth c (vx_MQ below (ab_Post D C R2 A) (ab_PostX D C XP A) args s MC MS A) D C A nL) pc (ab_throw cls XP MC MS) := by
  intro K hK ls st L h k n q H locs la hl hW hS
  unfold ab_throw at q
  split at q
  next =>
    obtain ⟨h1, h2, -, -, -, h6, -, h8, -, h10, -⟩ := Cx.2.2.2.2.2.2.2.2.2.2.1
    obtain ⟨sa, hsa⟩ := h6 _ hs
    exact vx_throwSW (own := own) (text := text) (names := names) (sa := sa) (A := A) Cx.1 Cx.2.1 Cx.2.2.2.2.2.2.2.2.2.2.2 Cx.2.2.2.1 hcls hnames (Cx.2.2.2.2.1 _ w1) (Cx.2.2.2.2.1 _ w2) hsa (ab_xat Cx.2.2.2.2.1 h8 h10 hg hn) hgood h1 h2 hS (hl.1.trans Cx.2.2.1.symm) d0 d3 d4 d6 d9 hout hfr (by show 0 + _ ≤ _; omega) (by rw [hMC]; exact q.1.1) (by rw [hMS]; exact q.1.2) Cx.2.2.2.2.2.2.1
      (fun t _ hz hk => ⟨L, h, q.2, hW.1.kept (fun j z hj => hk z.1 (hW.1 j z hj).lt), hW.2, by
        refine ⟨Nat.le_trans hS.1 hz, fun z hz1 hz2 => ?_⟩
        rw [hk z (Nat.lt_of_lt_of_le hz1 hS.1)]
        exact hS.2.1 z hz1 hz2⟩) hS.2.2 q.1.1 q.1.2
  next => exact q.elim
/-- a method's contract out of its table -/
theorem ab_ofTab {y : MethodName} {maxL fr mc ms lo : Nat} {tab : ab_R → ab_XP → Nat → ab_I} (hy : plainName y.cls = true) (hyc : y.cls = own) (hyn : y.name = nm) (hl : l.stackTraces = false)
    (hs : ∀ (p : Program) (e : Env) (s : State) (m : MethodId) (args : Array Value) (below : List Frame) (meth : Method) (c : Code) (A : Nat → Prop) (R2 : ab_R) (XP : ab_XP), ab_Cx l D C g own nm cc maxL ret ab_T p s m args meth c A → (∀ x ∈ c.exceptionTable.toList, ∀ pc : Nat, covers x pc = false) → ∀ pc, ab_Sn (ab_W p l e { frames := fr, cells := mc, slots := ms, locals := lo } s m args below meth c (vx_MQ below (ab_Post D C R2 A) (ab_PostX D C XP A) args s mc ms A) D C A maxL) pc (tab R2 XP pc)) :
    ab_CT l D C g y cc maxL ret fr mc ms lo (fun as L h R2 XP => (lg_sl as).length ≤ maxL ∧ (∀ q ∈ ab_lv 0 (ab_loc maxL as), q ∈ lv_args 0 as) ∧ ab_Ev (tab R2 XP) 0 (ab_loc maxL as) [] L h 0 0) := by
  intro as L h sz R2 XP q
  obtain ⟨q1, q2, q⟩ := q
  refine vx_ofW (cc := cc) (maxL := maxL) (ret := ret) hy rfl ?_
  intro p e s m args below meth c s₁ B hml hout hv
  obtain ⟨rfl, hsz, hP, hK, hD, hAm⟩ := hv
  subst hsz
  have hts := atoms_spec (ws := .code y cc maxL ret :: ab_T) B.pre
  have Cx : ab_Cx l D C g own nm cc maxL ret ab_T p s m as.toArray meth c (va_A (ab_ws C L h) s.heap.size) := ⟨B.exec, B.bytes, hml, by rw [← hyc]; exact findClass_of_methodNamed B.named, fun w hw => hts w (List.mem_cons_of_mem _ hw), B.returns, B.notSynchronized, by rw [← hyn]; exact (name_of_methodNamed B.named B.method).1, hK, fun z hz => Or.inr hz, hAm, hl⟩
  have hent := lv_entry as (n := maxL) q1
  rw [lg_entry_eq]
  exact q _ (hs p e s m as.toArray below meth c _ R2 XP Cx (fun x hx => (hout x hx).elim)) s.heap [] _ (ab_has_mono hent q2) ⟨hP, hD.self⟩ va_S.rf
end AbM
