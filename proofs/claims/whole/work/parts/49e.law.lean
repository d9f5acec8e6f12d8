def R_law : String := "RiddlePressLaw"
def lw_P (b : Addr) (xs : List Int32) (args : Array Value) (s : State) : Prop := args = #[.ref b] ∧ s.IntsAt b xs ∧ xs.length ≤ 3072 ∧ (Jvm.Cond.and given_1 narrow_1).before args s = true
/-- what a walk over the start with the record d0 says of its end, said of the start itself -/
theorem lw_closed {s t : State} {o : Outcome} {d0 : Drawn} {L : List Loc} {k n : Nat} (hd0 : s.drawn.sameBut d0 lw_cs) (hv : ∃ v, o = .returned v) (hW : (s.setDrawn d0).WarmedH t.vm) (hs : (s.setDrawn d0).sameButNew ({ t with vm := s.vm } : State) L k n) : State.butDraws s t lw_cs (fun t1 => Framed s o t1 L k n) := by
  have h2 : t.drawn = d0 := congrArg State.drawn hs.1
  refine ⟨⟨hv, hW, State.sameButNew.setDrawn hs s.drawn⟩, ?_, by decide⟩
  rw [h2]
  exact hd0
def lw_Q (_ : Array Value) (s : State) (o : Outcome) (t : State) : Prop := o = .returned (some (.int 1)) ∧ State.butDraws s t lw_cs (fun t1 => Framed s o t1 [] 603072 7207018)
def lw_Z (below : List Frame) (a : Array Value) (s : State) : State → Prop := fun t => ∃ o, t.status = .running ∧ Ended t below o ∧ lw_Q a s o t
/-- the law's own end, with 1 on the stack, nothing written that was there before, its room as the claim has it; d0: the record of draws at this point (at the entry s.drawn: begin with 'refine W.base ?_' and 'have hd0 := Drawn.sameBut.refl s.drawn lw_cs') -/
theorem lw_ret {p : Program} {l : Launch} {e : Env} {s : State} {m : MethodId} {below : List Frame} {meth : Method} {c : Code} {b : Nat} {d0 : Drawn} (hd0 : s.drawn.sameBut d0 lw_cs) (hx : p.tables.exec = Jvm.exec) (hb : c.code = code) (hr : meth.sig.returnType = ret) (hlocks : meth.locks = false) {pc : Nat} {H : Heap} {ls : Array Slot} (hdg : decode code pc = .ok (.ireturn, 1)) : W p l e room_1 (s.setDrawn d0) m #[Value.ref b] below meth c H [] 603072 7207018 (lw_Z below #[Value.ref b] s) (F0 m pc ls [.int 1]) := by
  intro T hT X
  obtain ⟨fs, hret, hrun, hended, hW, hframe⟩ := X.leave (v := some (.int 1)) (hlocks := hlocks) (fun h => by rw [hr] at h; cases h)
  have hmeth' : T.vm.method? m = some meth := X.method'
  refine ⟨T.setFrames fs, ?_, .returned (some (.int 1)), hrun, hended, rfl, lw_closed hd0 ⟨_, rfl⟩ hW hframe⟩
  jvm_step X.here [X.here.top, hx, hb, hdg, hmeth', hr, ret, narrow_b1]
  (try refine ⟨rfl, ?_⟩); (try refine ⟨rfl, ?_⟩)
  first | (intro acts; rw [hret _ acts rfl rfl rfl]) | rw [hret _ _ rfl rfl rfl]
  exact Steps.refl _
/-- what holds at the law's entry: the machine, the code, the tables' words (any of lw_tbl by 'hts w (by decide +kernel)'), the script of L ints xs at the cell b, what the Statement gives of the start (any of its parts by flat_of_before) -/
def lw_At (p : Program) (s : State) (m : MethodId) (meth : Method) (c : Code) (b L : Nat) (xs : Nat → Int32) : Prop :=
  p.tables.exec = Jvm.exec ∧ c.code = code ∧ meth.sig.returnType = ret ∧ c.maxLocals = 9 ∧ s.vm.findClass R_law = some m.cls ∧ (∀ w ∈ lw_tbl, w.before #[Value.ref b] s = true) ∧ va_X b L xs s s.heap ∧ b < s.heap.size ∧ meth.locks = false ∧ (Jvm.Cond.and given_1 narrow_1).before #[Value.ref b] s = true

section AbI
variable {p : Program} {l : Launch} {e : Env} {R : Room} {s : State} {m : MethodId} {args : Array Value} {below : List Frame} {meth : Method} {c : Code} {Q : State → Prop} {D : va_G} {C : Nat → ClassId} {g : Nat → Nat} {A : Nat → Prop} {nL : Nat} {own nm : String} {cc : ByteArray} {ret : Option FieldType} {pc : Nat}
theorem sn_callIG {MC MS : Nat} (Cx : ab_Cx l D C g own nm cc nL ret ab_T p s m args meth c A) {y : MethodName} {bytes : ByteArray} {maxL fr mc ms lo na i : Nat} {wp : ab_Wp} (hM : ab_CT l D C g y bytes maxL none fr mc ms lo wp) (d : decode cc pc = .ok (.invokespecial i, 3)) (w1 : Cond.methodLink own i y ∈ ab_T) (w2 : Cond.instanceMethod y ∈ ab_T) (w3 : Cond.initialized y.cls ∈ ab_T) (w4 : Cond.code y bytes maxL none ∈ ab_T) (hy : y.name = "<init>")
    (hd : y.cls ≠ "java/lang/invoke/MethodHandle" ∧ y.cls ≠ "java/lang/invoke/VarHandle" ∧ (parseMethodDescriptor y.desc).map (fun d => d.parameters.length) = some na) (hR : fr + 1 ≤ R.frames ∧ 8 + (maxL + 11) + lo ≤ R.locals) (hMC : R.cells = MC) (hMS : R.slots = MS) :
    ab_Sn (ab_W p l e R s m args below meth c Q D C A nL) pc (ab_callI (na + 1) 0 wp mc ms MC MS ab_NX (pc + 3)) := by
  intro K hK ls st L h k n q H locs la hl hW hS
  unfold ab_callI at q
  split at q
  next b As r hp =>
    obtain ⟨hb, hkn, q⟩ := ab_cond q
    obtain ⟨bs, e1, e2, e3⟩ := ab_take_spec _ _ _ _ _ hp
    rw [List.append_nil] at e1
    subst e1
    subst e3
    have cw := cwI (R := R) (s := s) (args := args) (own := own) (index := i) (Ts := ab_T) na Cx.2.2.2.2.1 (ab_GI (ws := .code y bytes maxL none :: ab_T) (fun w hw => by
      rcases List.mem_cons.mp hw with rfl | hw
      · exact w4
      · exact hw)) rfl (rm := { frames := fr, cells := mc, slots := ms, locals := lo }) rfl rfl (Cx.2.2.2.2.1 _ w3) (Cx.2.2.2.2.1 _ w1) (Cx.2.2.2.2.1 _ w2) hy hd hR
    exact ab_callW (vx_runI (As := As) (b := b) (rest := r) (ab_fix Cx) (hM (.ref b :: As) L h H.size (fun v L' h' => ab_sh 0 v (fun w => K (pc + 3) ls (w ++ r) L' h' (k + mc) (n + ms))) ab_NX q) cw ⟨ab_blind, ab_pre Cx hW hS⟩ rfl (Nat.succ.inj e2) hl.1 (by simp) (ab_rm hb) d (by rw [hMC, hMS]; exact hkn)) hS (ab_sub Cx hW hS)
      (fun E ce q9 L' h' H1 locs1 hE => hE.elim)
      (fun v L' h' H1 locs1 hR' hW' hS' => hK _ _ _ _ _ _ _ (ab_sh_use hR') H1 locs1 la hl hW' hS')
  next => exact q.elim
end AbI

theorem sn_end {p : Program} {l : Launch} {e : Env} {s : State} {m : MethodId} {below : List Frame} {meth : Method} {c : Code} {D : va_G} {C : Nat → ClassId} {g : Nat → Nat} {A : Nat → Prop} {nm : String} {b : Nat} {pc : Nat} (Cx : ab_Cx l D C g R_law nm code 9 ret ab_T p s m #[Value.ref b] meth c A) (hlk : meth.locks = false) (hA : ∀ q, A q → s.heap.size ≤ q) (d : decode code pc = .ok (.ireturn, 1)) : ab_Sn (ab_W p l e room_1 s m #[Value.ref b] below meth c (lw_Z below #[Value.ref b] s) D C A 9) pc (ab_end 603072 7207018) := by
  intro K hK ls st L h k n q H locs la hl hW hS
  unfold ab_end at q
  split at q
  next x =>
    obtain ⟨⟨q1, q2⟩, rfl⟩ := q
    refine va_forget (fun z hz => hA _ (hS.2.2 z hz)) (W.widen q1 q2 ?_)
    exact lw_ret (d0 := s.drawn) (Drawn.sameBut.refl s.drawn lw_cs) Cx.1 Cx.2.1 Cx.2.2.2.2.2.1 hlk d
  next => exact q.elim
