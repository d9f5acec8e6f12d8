/-! the state at the law's start -/
def lv1 (k i : Nat) : Prop := (k = 0 ∧ i = 0) ∨ (k = 1 ∧ i < 4)
def c01 (q1 : Nat) (r : Nat → Nat) : cc_C := (fun k i _ => if k = 0 then q1 else r i, fun k i j => j = 0 ∧ lv1 k i, fun _ _ _ => 0, fun _ _ => 0, fun _ => 0)
def M00 : cc_M := ((0, default), (0, default), (0, default), (0, default), 0)
section
variable {g : Nat → Nat} {q1 : Nat} {r : Nat → Nat} {L : List Nat} {h : ab_H}
theorem CC_01 (m0 : q1 ∈ L) (mr : ∀ i, i < 4 → r i ∈ L) (hn : ∀ i, i < 4 → r i ≠ q1) (i1 : ∀ i i', i < 4 → i' < 4 → r i = r i' → i = i') (h0 : h q1 = .inr (11, [.ref (r 0), .ref (r 1), .ref (r 2), .ref (r 3), .long 0])) (h1 : ∀ i, i < 4 → h (r i) = .inr (2, [.int 0, .ref (g 0), .int 0])) : CC g (c01 q1 r) L h := by
  refine ⟨fun k i j hv => ?_, fun k i j k' i' j' hv hv' e => ?_, ?_⟩
  · obtain ⟨-, hv⟩ := hv
    rcases hv with ⟨rfl, rfl⟩ | ⟨rfl, hi⟩
    · exact ⟨m0, h0⟩
    · exact ⟨mr i hi, (h1 i hi).trans rfl⟩
  · obtain ⟨j0, hv⟩ := hv
    obtain ⟨j0', hv'⟩ := hv'
    rcases hv with ⟨rfl, rfl⟩ | ⟨rfl, hi⟩ <;> rcases hv' with ⟨rfl, rfl⟩ | ⟨rfl, hi'⟩
    · exact ⟨rfl, rfl, j0.trans j0'.symm⟩
    · exact absurd (show q1 = r i' from e).symm (hn i' hi')
    · exact absurd (show r i = q1 from e) (hn i hi)
    · exact ⟨rfl, i1 i i' hi hi' e, j0.trans j0'.symm⟩
  · have nl : ∀ {k i j}, cV (c01 q1 r) k i j → j = 0 ∧ lv1 k i := fun h => h
    have yl : ∀ {k i}, lv1 k i → cV (c01 q1 r) k i 0 := fun h => ⟨rfl, h⟩
    have no : ∀ {k i : Nat} {P : Prop}, k ≠ 0 → k ≠ 1 → cV (c01 q1 r) k i 0 → P := fun h0 h1 hv => by
      have b := (nl hv).2
      unfold lv1 at b
      omega
    refine ⟨fun k i j hv => ?_, fun _ => ⟨yl ?_, yl ?_, yl ?_, yl ?_⟩, fun i hv => no (by decide) (by decide) hv, fun i hv => no (by decide) (by decide) hv, fun i hv => no (by decide) (by decide) hv, fun i hv => no (by decide) (by decide) hv, fun i hv => no (by decide) (by decide) hv, fun i hv => no (by decide) (by decide) hv, fun hv => no (by decide) (by decide) hv, fun i => ⟨fun hv => no (by decide) (by decide) hv, fun hv => no (by decide) (by decide) hv⟩, fun i hv => ?_⟩
    · obtain ⟨a, b⟩ := nl hv
      unfold lv1 at b
      exact ⟨a, fun q => by omega, by omega⟩
    · exact Or.inr ⟨rfl, by decide⟩
    · exact Or.inr ⟨rfl, by decide⟩
    · exact Or.inr ⟨rfl, by decide⟩
    · exact Or.inr ⟨rfl, by decide⟩
    · exact ⟨show ¬ (0 : Int32) < 0 by decide, show ((0 : Int32)).toNatClampNeg ≤ ((0 : Int32)).toNatClampNeg by decide, fun q => absurd rfl q, fun e he => absurd he (Nat.not_lt_zero e)⟩
theorem CL_01 : CL (c01 q1 r) M00 := by
  have z80 : ((0 : Int32)).toNatClampNeg < 100 := by decide
  have nl : ∀ {k i j}, cV (c01 q1 r) k i j → j = 0 ∧ lv1 k i := fun h => h
  refine ⟨⟨rfl, Or.inl ⟨rfl, rfl⟩⟩, ⟨rfl, z80, fun r hr => absurd hr (Nat.not_lt_zero r), fun r hr => ⟨fun k hk hv => ?_, fun hv => ?_, fun hv => ?_⟩⟩, ⟨⟨rfl, by decide, fun u hu => absurd hu (Nat.not_lt_zero u)⟩, z80, fun u hu => absurd hu (Nat.not_lt_zero u), fun u hu hv => ?_⟩, ⟨rfl, z80, fun u hu => absurd hu (Nat.not_lt_zero u), fun u hu hv => ?_⟩, ⟨rfl, z80, fun u hu => absurd hu (Nat.not_lt_zero u), fun u hu => ⟨fun hv => ?_, fun hv => ?_⟩⟩, rfl⟩
  all_goals
    have b := (nl hv).2
    unfold lv1 at b
    omega
theorem wf_start : wfM M00 0 := ⟨⟨by decide, fun r hr => absurd hr (Nat.not_lt_zero r)⟩, ⟨by decide, fun u hu => absurd hu (Nat.not_lt_zero u)⟩, ⟨by decide, fun u hu => absurd hu (Nat.not_lt_zero u)⟩, ⟨by decide, fun u hu => absurd hu (Nat.not_lt_zero u)⟩, by decide⟩
theorem gM_start : gM M00 := ⟨fun r hr => absurd hr (Nat.not_lt_zero r), fun q hq => absurd hq (Nat.not_lt_zero q)⟩
end
theorem law_start {g : Nat → Nat} {R2 : ab_R} {XP : ab_XP} {h : ab_H} (hg : g 15 < 2 ^ 31) : ab_Ev (tb_L_law g R2 XP) 0 [some (.ref (g 14)), none, none, none, none, none, none, none, none, none] [] [] h 0 0 := by
  refine bk_L_law_0 ⟨by decide, by decide, fun q1 f1 => ⟨⟨by decide, by decide⟩, x8_init (last_in _ _) (up_at _ _ _) (fun L1 h1 r e1 e2 e3 e4 => ⟨rfl, ?_⟩)⟩⟩
  have m1 : q1 ∈ L1 := (e1 q1 (last_in _ _)).1
  have cc := CC_01 (g := g) (q1 := q1) (r := r) (L := L1) (h := h1) m1 (fun i hi => (e2 i hi).1) (fun i hi z => (e2 i hi).2.1 (by rw [z]; exact last_in _ _)) e3 e4 (fun i hi => (e2 i hi).2.2)
  exact lw_15 (R := fun _ _ => False) (X := fun _ _ => False) (a := q1) rfl hg 3 0 (c01 q1 r) M00 none none none none none 5 17 0 rfl ⟨⟨⟨rfl, Or.inl ⟨rfl, rfl⟩⟩, rfl⟩, CL_01⟩ ⟨wf_start, gM_start, rfl, rfl, by decide, rfl⟩ (by decide) (by decide) (by decide) _ _ _ _ cc (fun _ _ _ _ _ _ f => f.elim) (fun _ _ _ _ _ _ f => f.elim)
