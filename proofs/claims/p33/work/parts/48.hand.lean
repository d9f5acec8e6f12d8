/-! calls with handlers; the law's own instructions -/
def ab_hs : List (String × Nat) → String → (Nat → Prop) → Prop
  | [], _, _ => False
  | x :: r, E, F => (E = x.1 ∧ F x.2) ∨ ab_hs r E F
theorem ab_hs_spec : ∀ {X : List (ExceptionTableEntry × String)} {E : String} {F : Nat → Prop}, ab_hs (X.map fun x => (x.2, x.1.handlerPc)) E F → ∃ pre x suf, X = pre ++ x :: suf ∧ E = x.2 ∧ F x.1.handlerPc
  | [], _, _, h => h.elim
  | x :: r, E, F, h => by
    rcases h with ⟨h1, h2⟩ | h
    · exact ⟨[], x, r, rfl, h1, h2⟩
    · obtain ⟨pre, y, suf, e, h1, h2⟩ := ab_hs_spec (X := r) h
      exact ⟨x :: pre, y, suf, by rw [e]; rfl, h1, h2⟩
def ab_callVH (ci na sh : Nat) (wp : ab_Wp) (mc ms MC MS : Nat) (hs : List (String × Nat)) (t : Nat) : ab_I := fun K ls st L h k n => match ab_take na [] st with
  | some (.ref b :: As, r) => cond (Nat.ble (ab_sum r) 8) ((k + mc ≤ MC ∧ n + ms ≤ MS) ∧ (b ∈ L ∧ ∃ fs : List Value, h b = .inr (ci, fs)) ∧ wp (.ref b :: As) L h (fun v L' h' => ab_sh sh v (fun w => K t ls (w ++ r) L' h' (k + mc) (n + ms))) (fun E L' h' => ab_hs hs E (fun pc => ∀ q : Nat, K pc ls [.ref q] L' h' (k + mc) (n + ms)))) False
  | _ => False
def ab_NX : ab_XP := fun _ _ _ => False
def ab_end (MC MS : Nat) : ab_I := fun _ _ st _ _ k n => match st with
  | [.int x] => (k ≤ MC ∧ n ≤ MS) ∧ x = 1
  | _ => False
def ab_CTH (l : Launch) (D : va_G) (C : Nat → ClassId) (g : Nat → Nat) (y : MethodName) (cc : ByteArray) (maxL : Nat) (ret : Option FieldType) (hh : List (Nat × Nat × Nat × Nat)) (fr mc ms lo : Nat) (wp : ab_Wp) : Prop :=
  ab_CTw l D C g y (.codeWith y cc maxL ret hh :: ab_T) { frames := fr, cells := mc, slots := ms, locals := lo } mc ms wp
section AbH
variable {p : Program} {l : Launch} {e : Env} {R : Room} {s : State} {m : MethodId} {args : Array Value} {below : List Frame} {meth : Method} {c : Code} {Q : State → Prop} {D : va_G} {C : Nat → ClassId} {g : Nat → Nat} {A : Nat → Prop} {nL : Nat} {own nm : String} {cc : ByteArray} {ret : Option FieldType} {pc : Nat}
theorem sn_callVH {MC MS : Nat} (Cx : ab_Cx l D C g own nm cc nL ret ab_T p s m args meth c A) {X : List (ExceptionTableEntry × String)} {hs : List (String × Nat)} (hX : c.exceptionTable.toList = X.map Prod.fst) (hx : ∀ x ∈ X, covers x.1 pc = true ∧ x.1.catchType ≠ 0 ∧ Cond.classLink own x.1.catchType x.2 ∈ ab_T ∧ (x.2, x.2) ∈ ab_casts) (hp : X.Pairwise fun z x => (x.2, z.2) ∈ ab_ncasts) (hhs : X.map (fun x => (x.2, x.1.handlerPc)) = hs)
    {Cn : String} {T : u_T} {N ci : Nat} (hc : vwCl[ci]? = some (Cn, T, N)) {y : MethodName} {bytes : ByteArray} {maxL fr mc ms lo na sh i : Nat} {ret' : Option FieldType} {wp : ab_Wp} (hM : ab_CT l D C g y bytes maxL ret' fr mc ms lo wp) (d : decode cc pc = .ok (.invokevirtual i, 3)) (w1 : Cond.methodLink own i y ∈ ab_T) (w2 : Cond.instanceMethod y ∈ ab_T) (w3 : Cond.initialized Cn ∈ ab_T) (w4 : Cond.code y bytes maxL ret' ∈ ab_T) (w5 : Cond.selects Cn y y ∈ ab_T)
    (hd : y.cls = Cn ∧ y.cls ≠ "java/lang/invoke/MethodHandle" ∧ y.cls ≠ "java/lang/invoke/VarHandle" ∧ (parseMethodDescriptor y.desc).map (fun d => d.parameters.length) = some na) (hR : fr + 1 ≤ R.frames ∧ 8 + (maxL + 11) + lo ≤ R.locals) (hMC : R.cells = MC) (hMS : R.slots = MS) :
    ab_Sn (ab_W p l e R s m args below meth c Q D C A nL) pc (ab_callVH ci (na + 1) sh wp mc ms MC MS hs (pc + 3)) := by
  intro K hK ls st L h k n q H locs la hl hW hS
  unfold ab_callVH at q
  split at q
  next b As r hp1 =>
    obtain ⟨hb, hkn, ⟨hbL, fs, hfs⟩, q⟩ := ab_cond q
    obtain ⟨bs, e1, e2, e3⟩ := ab_take_spec _ _ _ _ _ hp1
    rw [List.append_nil] at e1
    subst e1
    subst e3
    have cw := cwV (R := R) (s := s) (args := args) (own := own) (C := Cn) (index := i) (Ts := ab_T) na Cx.2.2.2.2.1 (ab_GI (ws := wsV own i Cn y (.code y bytes maxL ret' :: ab_T)) (fun w hw => by
      simp only [wsV, List.mem_append, List.mem_cons, List.not_mem_nil, or_false] at hw
      rcases hw with (rfl | rfl | rfl | rfl) | rfl | hw
      · exact w1
      · exact w2
      · exact w5
      · exact w3
      · exact w4
      · exact hw)) rfl (rm := { frames := fr, cells := mc, slots := ms, locals := lo }) rfl rfl hd hR
    refine ab_callW (vx_runV (As := As) (b := b) (rest := r) (ab_fix Cx) (hM (.ref b :: As) L h H.size _ _ q) cw ⟨ab_blind, ab_recv Cx hc hW hbL hfs, ab_pre Cx hW hS⟩ rfl (Nat.succ.inj e2) hl.1 (by simp) (ab_rm hb) d (by rw [hMC, hMS]; exact hkn)) hS (ab_sub Cx hW hS)
      (fun E ce q9 L' h' H1 locs1 hE hW' hS' hce hcv hcl => ?_)
      (fun v L' h' H1 locs1 hR' hW' hS' => hK _ _ _ _ _ _ _ (ab_sh_use hR') H1 locs1 la hl hW' hS')
    subst hhs
    obtain ⟨pre, x, suf, eX, eE, F⟩ := ab_hs_spec hE
    obtain ⟨-, -, -, -, -, -, -, h8, h9, -⟩ := Cx.2.2.2.2.2.2.2.2.2.2.1
    have hmx : x ∈ X := by rw [eX]; exact List.mem_append_right _ List.mem_cons_self
    obtain ⟨g1, g2, g3, g4⟩ := hx x hmx
    refine vx_catch (own := own) (name := x.2) Cx.2.2.2.1 (pre.map Prod.fst) x.1 (suf.map Prod.fst) (by rw [hX, eX, List.map_append, List.map_cons]) (fun z hz => ?_) g1 g2 (Cx.2.2.2.2.1 _ g3) (va_any rfl (show (Cond.castable E x.2).before #[] s = true by rw [eE]; exact h8 _ g4)) hce hcv hcl (hK _ _ _ _ _ _ _ (F q9) H1 locs1 la hl hW' hS')
    obtain ⟨z', hz', ez⟩ := List.mem_map.mp hz
    obtain ⟨-, f2, f3, -⟩ := hx z' (by rw [eX]; exact List.mem_append_left _ hz')
    refine Or.inr ⟨by rw [← ez]; exact f2, z'.2, by rw [← ez]; exact Cx.2.2.2.2.1 _ f3, ?_⟩
    rw [eX] at hp
    rw [eE]
    exact h9 _ ((List.pairwise_append.mp hp).2.2 z' hz' x List.mem_cons_self)
  next => exact q.elim
theorem sn_callVG {MC MS : Nat} (Cx : ab_Cx l D C g own nm cc nL ret ab_T p s m args meth c A)
    {Cn : String} {T : u_T} {N ci : Nat} (hc : vwCl[ci]? = some (Cn, T, N)) {y : MethodName} {bytes : ByteArray} {maxL fr mc ms lo na sh i : Nat} {ret' : Option FieldType} {wp : ab_Wp} (hM : ab_CT l D C g y bytes maxL ret' fr mc ms lo wp) (d : decode cc pc = .ok (.invokevirtual i, 3)) (w1 : Cond.methodLink own i y ∈ ab_T) (w2 : Cond.instanceMethod y ∈ ab_T) (w3 : Cond.initialized Cn ∈ ab_T) (w4 : Cond.code y bytes maxL ret' ∈ ab_T) (w5 : Cond.selects Cn y y ∈ ab_T)
    (hd : y.cls = Cn ∧ y.cls ≠ "java/lang/invoke/MethodHandle" ∧ y.cls ≠ "java/lang/invoke/VarHandle" ∧ (parseMethodDescriptor y.desc).map (fun d => d.parameters.length) = some na) (hR : fr + 1 ≤ R.frames ∧ 8 + (maxL + 11) + lo ≤ R.locals) (hMC : R.cells = MC) (hMS : R.slots = MS) :
    ab_Sn (ab_W p l e R s m args below meth c Q D C A nL) pc (ab_callV ci (na + 1) sh wp mc ms MC MS ab_NX (pc + 3)) := by
  intro K hK ls st L h k n q H locs la hl hW hS
  unfold ab_callV at q
  split at q
  next b As r hp1 =>
    obtain ⟨hb, hkn, ⟨hbL, fs, hfs⟩, q⟩ := ab_cond q
    obtain ⟨bs, e1, e2, e3⟩ := ab_take_spec _ _ _ _ _ hp1
    rw [List.append_nil] at e1
    subst e1
    subst e3
    have cw := cwV (R := R) (s := s) (args := args) (own := own) (C := Cn) (index := i) (Ts := ab_T) na Cx.2.2.2.2.1 (ab_GI (ws := wsV own i Cn y (.code y bytes maxL ret' :: ab_T)) (fun w hw => by
      simp only [wsV, List.mem_append, List.mem_cons, List.not_mem_nil, or_false] at hw
      rcases hw with (rfl | rfl | rfl | rfl) | rfl | hw
      · exact w1
      · exact w2
      · exact w5
      · exact w3
      · exact w4
      · exact hw)) rfl (rm := { frames := fr, cells := mc, slots := ms, locals := lo }) rfl rfl hd hR
    exact ab_callW (vx_runV (As := As) (b := b) (rest := r) (ab_fix Cx) (hM (.ref b :: As) L h H.size _ _ q) cw ⟨ab_blind, ab_recv Cx hc hW hbL hfs, ab_pre Cx hW hS⟩ rfl (Nat.succ.inj e2) hl.1 (by simp) (ab_rm hb) d (by rw [hMC, hMS]; exact hkn)) hS (ab_sub Cx hW hS)
      (fun E ce q9 L' h' H1 locs1 hE => hE.elim)
      (fun v L' h' H1 locs1 hR' hW' hS' => hK _ _ _ _ _ _ _ (ab_sh_use hR') H1 locs1 la hl hW' hS')
  next => exact q.elim
theorem sn_callSG {MC MS : Nat} (Cx : ab_Cx l D C g own nm cc nL ret ab_T p s m args meth c A) {y : MethodName} {bytes : ByteArray} {maxL fr mc ms lo na sh i : Nat} {ret' : Option FieldType} {hh : List (Nat × Nat × Nat × Nat)} {wp : ab_Wp} (hM : ab_CTH l D C g y bytes maxL ret' hh fr mc ms lo wp) (d : decode cc pc = .ok (.invokestatic i, 3)) (w1 : Cond.methodLink own i y ∈ ab_T) (w2 : Cond.static y ∈ ab_T) (w3 : Cond.initialized y.cls ∈ ab_T) (w4 : Cond.codeWith y bytes maxL ret' hh ∈ ab_T)
    (hd : y.cls ≠ "java/lang/invoke/MethodHandle" ∧ y.cls ≠ "java/lang/invoke/VarHandle" ∧ (parseMethodDescriptor y.desc).map (fun d => d.parameters.length) = some na) (hR : fr + 1 ≤ R.frames ∧ 8 + (maxL + 11) + lo ≤ R.locals) (hMC : R.cells = MC) (hMS : R.slots = MS) :
    ab_Sn (ab_W p l e R s m args below meth c Q D C A nL) pc (ab_callS na sh wp mc ms MC MS ab_NX (pc + 3)) := by
  intro K hK ls st L h k n q H locs la hl hW hS
  unfold ab_callS at q
  split at q
  next as r hp =>
    obtain ⟨hb, hkn, q⟩ := ab_cond q
    obtain ⟨bs, e1, e2, e3⟩ := ab_take_spec _ _ _ _ _ hp
    rw [List.append_nil] at e1
    subst e1
    subst e3
    have cw := vx_cwSW (R := R) (s := s) (args := args) (own := own) (index := i) na Cx.2.2.2.2.1 (ab_GI (ws := va_wsS own i y (.codeWith y bytes maxL ret' hh :: ab_T)) (fun w hw => by
      simp only [va_wsS, List.mem_append, List.mem_cons, List.not_mem_nil, or_false] at hw
      rcases hw with (rfl | rfl | rfl) | rfl | hw
      · exact w1
      · exact w2
      · exact w3
      · exact w4
      · exact hw)) rfl (rm := { frames := fr, cells := mc, slots := ms, locals := lo }) rfl rfl hd hR
    exact ab_callW (vx_runSX (As := as) (rest := r) (ab_fix Cx) (hM as L h H.size _ _ q) cw ⟨ab_blind, ab_pre Cx hW hS⟩ rfl e2 hl.1 rfl (ab_rm hb) d (by rw [hMC, hMS]; exact hkn)) hS (ab_sub Cx hW hS)
      (fun E ce q9 L' h' H1 locs1 hE => hE.elim)
      (fun v L' h' H1 locs1 hR' hW' hS' => hK _ _ _ _ _ _ _ (ab_sh_use hR') H1 locs1 la hl hW' hS')
  next => exact q.elim
theorem ab_ofTabH {y : MethodName} {maxL fr mc ms lo : Nat} {hh : List (Nat × Nat × Nat × Nat)} {tab : ab_R → ab_XP → Nat → ab_I} (hy : plainName y.cls = true) (hyc : y.cls = own) (hyn : y.name = nm) (hl : l.stackTraces = false)
    (hs : ∀ (p : Program) (e : Env) (s : State) (m : MethodId) (args : Array Value) (below : List Frame) (meth : Method) (c : Code) (A : Nat → Prop) (R2 : ab_R) (XP : ab_XP), ab_Cx l D C g own nm cc maxL ret ab_T p s m args meth c A → c.exceptionTable.toList = tableOf hh → ∀ pc, ab_Sn (ab_W p l e { frames := fr, cells := mc, slots := ms, locals := lo } s m args below meth c (vx_MQ below (ab_Post D C R2 A) (ab_PostX D C XP A) args s mc ms A) D C A maxL) pc (tab R2 XP pc)) :
    ab_CTH l D C g y cc maxL ret hh fr mc ms lo (fun as L h R2 XP => (lg_sl as).length ≤ maxL ∧ (∀ q ∈ ab_lv 0 (ab_loc maxL as), q ∈ lv_args 0 as) ∧ ab_Ev (tab R2 XP) 0 (ab_loc maxL as) [] L h 0 0) := by
  intro as L h sz R2 XP q
  obtain ⟨q1, q2, q⟩ := q
  refine vx_ofWH (cc := cc) (maxL := maxL) (ret := ret) (hh := hh) hy rfl ?_
  intro p e s m args below meth c s₁ B hml hv
  obtain ⟨rfl, hsz, hP, hK, hD, hAm⟩ := hv
  subst hsz
  have hts := atoms_spec (ws := .codeWith y cc maxL ret hh :: ab_T) B.pre
  have Cx : ab_Cx l D C g own nm cc maxL ret ab_T p s m as.toArray meth c (va_A (ab_ws C L h) s.heap.size) := ⟨B.exec, B.bytes, hml, by rw [← hyc]; exact findClass_of_methodNamed B.named, fun w hw => hts w (List.mem_cons_of_mem _ hw), B.returns, B.notSynchronized, by rw [← hyn]; exact (name_of_methodNamed B.named B.method).1, hK, fun z hz => Or.inr hz, hAm, hl⟩
  have hent := lv_entry as (n := maxL) q1
  rw [lg_entry_eq]
  exact q _ (hs p e s m as.toArray below meth c _ R2 XP Cx (vx_table (x := y) B (hts _ List.mem_cons_self))) s.heap [] _ (ab_has_mono hent q2) ⟨hP, hD.self⟩ va_S.rf
end AbH
/-! calls of the law's own methods, that throw nothing -/
section AbQ
variable {p : Program} {l : Launch} {e : Env} {R : Room} {s : State} {m : MethodId} {args : Array Value} {below : List Frame} {meth : Method} {c : Code} {Q : State → Prop} {D : va_G} {C : Nat → ClassId} {g : Nat → Nat} {A : Nat → Prop} {nL : Nat} {own nm : String} {cc : ByteArray} {ret : Option FieldType} {pc : Nat}
theorem sn_callSN {MC MS : Nat} (Cx : ab_Cx l D C g own nm cc nL ret ab_T p s m args meth c A) {y : MethodName} {bytes : ByteArray} {maxL fr mc ms lo na sh i : Nat} {ret' : Option FieldType} {wp : ab_Wp} (hM : ab_CT l D C g y bytes maxL ret' fr mc ms lo wp) (d : decode cc pc = .ok (.invokestatic i, 3)) (w1 : Cond.methodLink own i y ∈ ab_T) (w2 : Cond.static y ∈ ab_T) (w3 : Cond.initialized y.cls ∈ ab_T) (w4 : Cond.code y bytes maxL ret' ∈ ab_T)
    (hd : y.cls ≠ "java/lang/invoke/MethodHandle" ∧ y.cls ≠ "java/lang/invoke/VarHandle" ∧ (parseMethodDescriptor y.desc).map (fun d => d.parameters.length) = some na) (hR : fr + 1 ≤ R.frames ∧ 8 + (maxL + 11) + lo ≤ R.locals) (hMC : R.cells = MC) (hMS : R.slots = MS) :
    ab_Sn (ab_W p l e R s m args below meth c Q D C A nL) pc (ab_callS na sh wp mc ms MC MS ab_NX (pc + 3)) := by
  intro K hK ls st L h k n q H locs la hl hW hS
  unfold ab_callS at q
  split at q
  next as r hp =>
    obtain ⟨hb, hkn, q⟩ := ab_cond q
    obtain ⟨bs, e1, e2, e3⟩ := ab_take_spec _ _ _ _ _ hp
    rw [List.append_nil] at e1
    subst e1
    subst e3
    have cw := va_cwS (R := R) (s := s) (args := args) (own := own) (index := i) na Cx.2.2.2.2.1 (ab_GI (ws := va_wsS own i y (.code y bytes maxL ret' :: ab_T)) (fun w hw => by
      simp only [va_wsS, List.mem_append, List.mem_cons, List.not_mem_nil, or_false] at hw
      rcases hw with (rfl | rfl | rfl) | rfl | hw
      · exact w1
      · exact w2
      · exact w3
      · exact w4
      · exact hw)) rfl (rm := { frames := fr, cells := mc, slots := ms, locals := lo }) rfl rfl hd hR
    exact ab_callW (vx_runS (As := as) (rest := r) (ab_fix Cx) (hM as L h H.size _ ab_NX q) cw ⟨ab_blind, ab_pre Cx hW hS⟩ rfl e2 hl.1 rfl (ab_rm hb) d (by rw [hMC, hMS]; exact hkn)) hS (ab_sub Cx hW hS)
      (fun E ce q9 L' h' H1 locs1 hE => hE.elim)
      (fun v L' h' H1 locs1 hR' hW' hS' => hK _ _ _ _ _ _ _ (ab_sh_use hR') H1 locs1 la hl hW' hS')
  next => exact q.elim
theorem sn_callKN {MC MS : Nat} (Cx : ab_Cx l D C g own nm cc nL ret ab_T p s m args meth c A) {y : MethodName} {bytes : ByteArray} {maxL fr mc ms lo na sh i : Nat} {ret' : Option FieldType} {wp : ab_Wp} (hM : ab_CT l D C g y bytes maxL ret' fr mc ms lo wp) (d : decode cc pc = .ok (.invokevirtual i, 3)) (w1 : Cond.methodLink own i y ∈ ab_T) (w2 : Cond.instanceMethod y ∈ ab_T) (w3 : Cond.initialized "java/lang/String" ∈ ab_T) (w4 : Cond.code y bytes maxL ret' ∈ ab_T) (w5 : Cond.selects "java/lang/String" y y ∈ ab_T)
    (hd : y.cls = "java/lang/String" ∧ y.cls ≠ "java/lang/invoke/MethodHandle" ∧ y.cls ≠ "java/lang/invoke/VarHandle" ∧ (parseMethodDescriptor y.desc).map (fun d => d.parameters.length) = some na) (hR : fr + 1 ≤ R.frames ∧ 8 + (maxL + 11) + lo ≤ R.locals) (hMC : R.cells = MC) (hMS : R.slots = MS) :
    ab_Sn (ab_W p l e R s m args below meth c Q D C A nL) pc (ab_callK g (na + 1) sh wp mc ms MC MS ab_NX (pc + 3)) := by
  intro K hK ls st L h k n q H locs la hl hW hS
  unfold ab_callK at q
  split at q
  next b As r hp =>
    obtain ⟨hb, hkn, ⟨j, hj, hbj⟩, q⟩ := ab_cond q
    obtain ⟨bs, e1, e2, e3⟩ := ab_take_spec _ _ _ _ _ hp
    rw [List.append_nil] at e1
    subst e1
    subst e3
    have cw := cwV (R := R) (s := s) (args := args) (own := own) (C := "java/lang/String") (index := i) (Ts := ab_T) na Cx.2.2.2.2.1 (ab_GI (ws := wsV own i "java/lang/String" y (.code y bytes maxL ret' :: ab_T)) (fun w hw => by
      simp only [wsV, List.mem_append, List.mem_cons, List.not_mem_nil, or_false] at hw
      rcases hw with (rfl | rfl | rfl | rfl) | rfl | hw
      · exact w1
      · exact w2
      · exact w5
      · exact w3
      · exact w4
      · exact hw)) rfl (rm := { frames := fr, cells := mc, slots := ms, locals := lo }) rfl rfl hd hR
    exact ab_callW (vx_runV (As := As) (b := b) (rest := r) (ab_fix Cx) (hM (.ref b :: As) L h H.size _ ab_NX q) cw ⟨ab_blind, by rw [hbj]; exact vk_recv (i := 0) (adK := fun _ => g (2 + j)) (Cx.2.2.2.2.2.2.2.2.2.2.1.2.2.2.2.1 j hj) (by decide) hS, ab_pre Cx hW hS⟩ rfl (Nat.succ.inj e2) hl.1 (by simp) (ab_rm hb) d (by rw [hMC, hMS]; exact hkn)) hS (ab_sub Cx hW hS)
      (fun E ce q9 L' h' H1 locs1 hE => hE.elim)
      (fun v L' h' H1 locs1 hR' hW' hS' => hK _ _ _ _ _ _ _ (ab_sh_use hR') H1 locs1 la hl hW' hS')
  next => exact q.elim
theorem sn_callVN {MC MS : Nat} (Cx : ab_Cx l D C g own nm cc nL ret ab_T p s m args meth c A) {Cn : String} {T : u_T} {N ci : Nat} (hc : vwCl[ci]? = some (Cn, T, N)) {y : MethodName} {bytes : ByteArray} {maxL fr mc ms lo na sh i : Nat} {ret' : Option FieldType} {wp : ab_Wp} (hM : ab_CT l D C g y bytes maxL ret' fr mc ms lo wp) (d : decode cc pc = .ok (.invokevirtual i, 3)) (w1 : Cond.methodLink own i y ∈ ab_T) (w2 : Cond.instanceMethod y ∈ ab_T) (w3 : Cond.initialized Cn ∈ ab_T) (w4 : Cond.code y bytes maxL ret' ∈ ab_T) (w5 : Cond.selects Cn y y ∈ ab_T)
    (hd : y.cls = Cn ∧ y.cls ≠ "java/lang/invoke/MethodHandle" ∧ y.cls ≠ "java/lang/invoke/VarHandle" ∧ (parseMethodDescriptor y.desc).map (fun d => d.parameters.length) = some na) (hR : fr + 1 ≤ R.frames ∧ 8 + (maxL + 11) + lo ≤ R.locals) (hMC : R.cells = MC) (hMS : R.slots = MS) :
    ab_Sn (ab_W p l e R s m args below meth c Q D C A nL) pc (ab_callV ci (na + 1) sh wp mc ms MC MS ab_NX (pc + 3)) := by
  intro K hK ls st L h k n q H locs la hl hW hS
  unfold ab_callV at q
  split at q
  next b As r hp =>
    obtain ⟨hb, hkn, ⟨hbL, fs, hfs⟩, q⟩ := ab_cond q
    obtain ⟨bs, e1, e2, e3⟩ := ab_take_spec _ _ _ _ _ hp
    rw [List.append_nil] at e1
    subst e1
    subst e3
    have cw := cwV (R := R) (s := s) (args := args) (own := own) (C := Cn) (index := i) (Ts := ab_T) na Cx.2.2.2.2.1 (ab_GI (ws := wsV own i Cn y (.code y bytes maxL ret' :: ab_T)) (fun w hw => by
      simp only [wsV, List.mem_append, List.mem_cons, List.not_mem_nil, or_false] at hw
      rcases hw with (rfl | rfl | rfl | rfl) | rfl | hw
      · exact w1
      · exact w2
      · exact w5
      · exact w3
      · exact w4
      · exact hw)) rfl (rm := { frames := fr, cells := mc, slots := ms, locals := lo }) rfl rfl hd hR
    exact ab_callW (vx_runV (As := As) (b := b) (rest := r) (ab_fix Cx) (hM (.ref b :: As) L h H.size _ ab_NX q) cw ⟨ab_blind, ab_recv Cx hc hW hbL hfs, ab_pre Cx hW hS⟩ rfl (Nat.succ.inj e2) hl.1 (by simp) (ab_rm hb) d (by rw [hMC, hMS]; exact hkn)) hS (ab_sub Cx hW hS)
      (fun E ce q9 L' h' H1 locs1 hE => hE.elim)
      (fun v L' h' H1 locs1 hR' hW' hS' => hK _ _ _ _ _ _ _ (ab_sh_use hR') H1 locs1 la hl hW' hS')
  next => exact q.elim
theorem sn_callIG {MC MS : Nat} (Cx : ab_Cx l D C g own nm cc nL ret ab_T p s m args meth c A) {y : MethodName} {bytes : ByteArray} {maxL fr mc ms lo na i : Nat} {wp : ab_Wp} (hM : ab_CT l D C g y bytes maxL none fr mc ms lo wp) (d : decode cc pc = .ok (.invokespecial i, 3)) (w1 : Cond.methodLink own i y ∈ ab_T) (w2 : Cond.instanceMethod y ∈ ab_T) (w3 : Cond.initialized y.cls ∈ ab_T) (w4 : Cond.code y bytes maxL none ∈ ab_T) (hy : y.name = "<init>")
    (hd : y.cls ≠ "java/lang/invoke/MethodHandle" ∧ y.cls ≠ "java/lang/invoke/VarHandle" ∧ (parseMethodDescriptor y.desc).map (fun d => d.parameters.length) = some na) (hR : fr + 1 ≤ R.frames ∧ 8 + (maxL + 11) + lo ≤ R.locals) (hMC : R.cells = MC) (hMS : R.slots = MS) :
    ab_Sn (ab_W p l e R s m args below meth c Q D C A nL) pc (ab_callI (na + 1) 0 wp mc ms MC MS ab_NX (pc + 3)) := by
  intro K hK ls st L h k n q H locs la hl hW hS
  unfold ab_callI at q
  split at q
  next b As r hp =>
    obtain ⟨hb, hkn, q⟩ := ab_cond q
    obtain ⟨bs, e1, e2, e3⟩ := ab_take_spec _ _ _ _ _ hp
    rw [List.append_nil] at e1
    subst e1
    subst e3
    have cw := cwI (R := R) (s := s) (args := args) (own := own) (index := i) (Ts := ab_T) na Cx.2.2.2.2.1 (ab_GI (ws := .code y bytes maxL none :: ab_T) (fun w hw => by
      rcases List.mem_cons.mp hw with rfl | hw
      · exact w4
      · exact hw)) rfl (rm := { frames := fr, cells := mc, slots := ms, locals := lo }) rfl rfl (Cx.2.2.2.2.1 _ w3) (Cx.2.2.2.2.1 _ w1) (Cx.2.2.2.2.1 _ w2) hy hd hR
    exact ab_callW (vx_runI (As := As) (b := b) (rest := r) (ab_fix Cx) (hM (.ref b :: As) L h H.size (fun v L' h' => ab_sh 0 v (fun w => K (pc + 3) ls (w ++ r) L' h' (k + mc) (n + ms))) ab_NX q) cw ⟨ab_blind, ab_pre Cx hW hS⟩ rfl (Nat.succ.inj e2) hl.1 (by simp) (ab_rm hb) d (by rw [hMC, hMS]; exact hkn)) hS (ab_sub Cx hW hS)
      (fun E ce q9 L' h' H1 locs1 hE => hE.elim)
      (fun v L' h' H1 locs1 hR' hW' hS' => hK _ _ _ _ _ _ _ (ab_sh_use hR') H1 locs1 la hl hW' hS')
  next => exact q.elim
end AbQ
