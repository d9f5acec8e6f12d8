/-! the state at the law's start -/
def ad0 (q1 : Nat) (r : Nat → Nat) (q2 : Nat) (A : Nat → Nat) (o1 o2 : Nat) (k i : Nat) : Nat := match k with
  | 0 => q1
  | 1 => r i
  | 21 => q2
  | 22 => A i
  | 23 => o1
  | _ => o2
def rk0 (k : Nat) : Nat := match k with
  | 0 => 0
  | 1 => 1
  | 21 => 2
  | 22 => 3
  | 23 => 4
  | _ => 5
def lv0 (k i : Nat) : Prop := (k = 0 ∧ i = 0) ∨ (k = 1 ∧ i < 4) ∨ (k = 21 ∧ i = 0) ∨ (k = 22 ∧ i < 28) ∨ (k = 23 ∧ i = 0) ∨ (k = 24 ∧ i = 0)
def c00 (q1 : Nat) (r : Nat → Nat) (q2 : Nat) (A : Nat → Nat) (o1 o2 : Nat) : cc_C := (fun k i _ => ad0 q1 r q2 A o1 o2 k i, fun k i j => j = 0 ∧ lv0 k i, fun _ _ _ => 0, fun _ _ => 0, fun _ => 0)
def M00 : cc_M := ((0, default), (0, default), (0, default), (0, default), 0)
section
variable {g : Nat → Nat} {q1 q2 o1 o2 : Nat} {r A : Nat → Nat} {L : List Nat} {h : ab_H}
theorem rk_lt {LL : Nat → List Nat} (mono : ∀ n x, x ∈ LL n → x ∈ LL (n + 1)) : ∀ (d n : Nat) (x : Nat), x ∈ LL n → x ∈ LL (n + d)
  | 0, _, _, hx => hx
  | d + 1, n, x, hx => mono _ _ (rk_lt mono d n x hx)
theorem rk_inj {k k' i i' : Nat} (h : lv0 k i) (h' : lv0 k' i') (e : rk0 k = rk0 k') : k = k' := by
  unfold lv0 at h h'
  rcases h with ⟨rfl, -⟩ | ⟨rfl, -⟩ | ⟨rfl, -⟩ | ⟨rfl, -⟩ | ⟨rfl, -⟩ | ⟨rfl, -⟩ <;> rcases h' with ⟨rfl, -⟩ | ⟨rfl, -⟩ | ⟨rfl, -⟩ | ⟨rfl, -⟩ | ⟨rfl, -⟩ | ⟨rfl, -⟩ <;> first | rfl | exact absurd e (by decide)
theorem CC_start (LL : Nat → List Nat) (mono : ∀ n x, x ∈ LL n → x ∈ LL (n + 1)) (hin : ∀ k i, lv0 k i → ad0 q1 r q2 A o1 o2 k i ∈ LL (rk0 k + 1)) (hout : ∀ k i, lv0 k i → ad0 q1 r q2 A o1 o2 k i ∉ LL (rk0 k)) (i1 : ∀ i i', i < 4 → i' < 4 → r i = r i' → i = i') (i22 : ∀ i i', i < 28 → i' < 28 → A i = A i' → i = i') (hL : ∀ x, x ∈ LL 6 → x ∈ L)
    (h0 : h q1 = .inr (11, [.ref (r 0), .ref (r 1), .ref (r 2), .ref (r 3), .long 0])) (h1 : ∀ i, i < 4 → h (r i) = .inr (2, [.int 0, .ref (g 0), .int 0])) (h2 : h q2 = .inr (12, F9 A 28)) (h3 : ∀ i, i < 28 → h (A i) = .inl (0, mlen i, .inl (fun _ => 0))) (h4 : h o1 = .inl (2, 1, .inr (.inl (fun _ => 0)))) (h5 : h o2 = .inl (3, 1, .inr (.inr (.inr (.inl (fun _ => 0)))))) :
    CC g (c00 q1 r q2 A o1 o2) L h := by
  refine ⟨fun k i j hv => ⟨?_, ?_⟩, fun k i j k' i' j' hv hv' e => ?_, ?_⟩
  · obtain ⟨-, hv⟩ := hv
    have hr : rk0 k ≤ 5 := by
      have hv := hv
      unfold lv0 at hv
      rcases hv with ⟨rfl, -⟩ | ⟨rfl, -⟩ | ⟨rfl, -⟩ | ⟨rfl, -⟩ | ⟨rfl, -⟩ | ⟨rfl, -⟩ <;> decide
    have := rk_lt mono (5 - rk0 k) _ _ (hin k i hv)
    rw [show rk0 k + 1 + (5 - rk0 k) = 6 by omega] at this
    exact hL _ this
  · obtain ⟨-, hv⟩ := hv
    unfold lv0 at hv
    rcases hv with ⟨rfl, rfl⟩ | ⟨rfl, hi⟩ | ⟨rfl, rfl⟩ | ⟨rfl, hi⟩ | ⟨rfl, rfl⟩ | ⟨rfl, rfl⟩
    · exact h0
    · exact (h1 i hi).trans rfl
    · exact h2.trans rfl
    · exact h3 i hi
    · exact h4
    · exact h5
  · obtain ⟨j0, hv⟩ := hv
    obtain ⟨j0', hv'⟩ := hv'
    have e' : ad0 q1 r q2 A o1 o2 k i = ad0 q1 r q2 A o1 o2 k' i' := e
    have hk : rk0 k = rk0 k' := by
      rcases Nat.lt_trichotomy (rk0 k) (rk0 k') with hlt | heq | hlt
      · have := rk_lt mono (rk0 k' - (rk0 k + 1)) _ _ (hin k i hv)
        rw [show rk0 k + 1 + (rk0 k' - (rk0 k + 1)) = rk0 k' by omega, e'] at this
        exact absurd this (hout k' i' hv')
      · exact heq
      · have := rk_lt mono (rk0 k - (rk0 k' + 1)) _ _ (hin k' i' hv')
        rw [show rk0 k' + 1 + (rk0 k - (rk0 k' + 1)) = rk0 k by omega, ← e'] at this
        exact absurd this (hout k i hv)
    have hkk := rk_inj hv hv' hk
    subst hkk
    refine ⟨rfl, ?_, j0.trans j0'.symm⟩
    unfold lv0 at hv hv'
    rcases hv with ⟨rfl, rfl⟩ | ⟨rfl, hi⟩ | ⟨rfl, rfl⟩ | ⟨rfl, hi⟩ | ⟨rfl, rfl⟩ | ⟨rfl, rfl⟩
    · omega
    · exact i1 i i' hi (by omega) e'
    · omega
    · exact i22 i i' hi (by omega) e'
    · omega
    · omega
  · have nl : ∀ {k i j}, cV (c00 q1 r q2 A o1 o2) k i j → j = 0 ∧ lv0 k i := fun h => h
    have yl : ∀ {k i}, lv0 k i → cV (c00 q1 r q2 A o1 o2) k i 0 := fun h => ⟨rfl, h⟩
    refine ⟨fun k i j hv => ?_, fun _ => ⟨yl ?_, yl ?_, yl ?_, yl ?_⟩, fun i hv => ?_, fun i hv => ?_, fun i hv => ?_, fun i hv => ?_, fun i hv => ?_, fun i hv => ?_, fun _ j hj => yl ?_, fun i => ⟨fun hv => ?_, fun hv => ?_⟩, fun i hv => ?_⟩
    · obtain ⟨a, b⟩ := nl hv
      unfold lv0 at b
      exact ⟨a, fun q => by omega, by omega⟩
    all_goals first
      | (unfold lv0; omega)
      | (have b := (nl hv).2; unfold lv0 at b; omega)
      | skip
    exact ⟨show ¬ (0 : Int32) < 0 by decide, show ((0 : Int32)).toNatClampNeg ≤ ((0 : Int32)).toNatClampNeg by decide, fun q => absurd rfl q, fun e he => absurd he (Nat.not_lt_zero e)⟩
theorem CL_start : CL (c00 q1 r q2 A o1 o2) M00 := by
  have z80 : ((0 : Int32)).toNatClampNeg < 100 := by decide
  have nl : ∀ {k i j}, cV (c00 q1 r q2 A o1 o2) k i j → j = 0 ∧ lv0 k i := fun h => h
  refine ⟨⟨rfl, Or.inl ⟨rfl, rfl⟩⟩, ⟨rfl, z80, fun r hr => absurd hr (Nat.not_lt_zero r), fun r hr => ⟨fun k hk hv => ?_, fun hv => ?_, fun hv => ?_⟩⟩, ⟨⟨rfl, by decide, fun u hu => absurd hu (Nat.not_lt_zero u)⟩, z80, fun u hu => absurd hu (Nat.not_lt_zero u), fun u hu hv => ?_⟩, ⟨rfl, z80, fun u hu => absurd hu (Nat.not_lt_zero u), fun u hu hv => ?_⟩, ⟨rfl, z80, fun u hu => absurd hu (Nat.not_lt_zero u), fun u hu => ⟨fun hv => ?_, fun hv => ?_⟩⟩, rfl⟩
  all_goals
    have b := (nl hv).2
    unfold lv0 at b
    omega
theorem RF_start : RF (c00 q1 r q2 A o1 o2) M00 := by
  refine ⟨⟨rfl, Or.inr (Or.inr (Or.inl ⟨rfl, rfl⟩))⟩, ⟨rfl, fun r hr => absurd hr (Nat.not_lt_zero r), fun r _ _ => ⟨rfl, rfl⟩⟩, ⟨⟨rfl, by decide, fun u hu => absurd hu (Nat.not_lt_zero u)⟩, fun u _ _ => rfl⟩, ⟨rfl, fun u hu => absurd hu (Nat.not_lt_zero u), fun u _ _ => ⟨rfl, rfl⟩⟩, ⟨rfl, fun u hu => absurd hu (Nat.not_lt_zero u), fun q _ _ => ⟨rfl, rfl, fun i _ => rfl⟩⟩, rfl⟩
theorem wf_start : wfM M00 0 := ⟨⟨by decide, fun r hr => absurd hr (Nat.not_lt_zero r)⟩, ⟨by decide, fun u hu => absurd hu (Nat.not_lt_zero u)⟩, ⟨by decide, fun u hu => absurd hu (Nat.not_lt_zero u)⟩, ⟨by decide, fun u hu => absurd hu (Nat.not_lt_zero u)⟩, by decide⟩
end

theorem law_start {b Ls : Nat} {xs : Nat → Int32} {g : Nat → Nat} {R2 : ab_R} {XP : ab_XP} {h : ab_H} (hL : Ls ≤ 3072) : ab_Ev (tb_L_law b Ls xs g R2 XP) 0 [some (.ref b), none, none, none, none, none, none, none, none] [] [] h 0 0 := by
  have ia : ∀ {L : List Nat} {x y : Nat}, x ∈ L → x ∈ L ++ [y] := fun h => List.mem_append_left _ h
  refine bk_L_law_0 ⟨by decide, by decide, fun q1 f1 => ⟨⟨by decide, by decide⟩, x8_init (last_in _ _) (up_at _ _ _) (fun L1 h1 r e1 e2 e3 e4 => ⟨rfl, bk_L_law_8 ⟨by decide, by decide, fun q2 f2 => ⟨⟨by decide, by decide⟩, x9_init (last_in _ _) (up_at _ _ _) (fun A L2 h2 J => ⟨rfl, bk_L_law_16 ⟨by decide, by decide, by decide, by decide, fun o1 f3 => ⟨by decide, by decide, by decide, by decide, fun o2 f4 => ?_⟩⟩⟩)⟩⟩⟩)⟩⟩
  obtain ⟨j1, j2, j3, j4, j5⟩ := J
  have m1 : q1 ∈ L1 := (e1 q1 (last_in _ _)).1
  have n12 : q1 ≠ q2 := ne_of_in f2 m1
  have k1 : h2 q1 = .inr (11, [.ref (r 0), .ref (r 1), .ref (r 2), .ref (r 3), .long 0]) := by
    rw [(j5 q1 (ia m1)).2 n12, up_ne n12]
    exact e4
  have kr : ∀ i, i < 4 → h2 (r i) = .inr (2, [.int 0, .ref (g 0), .int 0]) := fun i hi => by
    obtain ⟨a1, -, a3⟩ := e2 i hi
    have nr : r i ≠ q2 := ne_of_in f2 a1
    rw [(j5 (r i) (ia a1)).2 nr, up_ne nr]
    exact a3
  let LL : Nat → List Nat := fun n => match n with
    | 0 => []
    | 1 => [] ++ [q1]
    | 2 => L1
    | 3 => L1 ++ [q2]
    | 4 => L2
    | 5 => L2 ++ [o1]
    | _ => (L2 ++ [o1]) ++ [o2]
  have U : ∀ {x : Nat} {w1 w2 : ab_E}, x ∈ L2 → va_up (va_up h2 o1 w1) o2 w2 x = h2 x := fun hx => by rw [up_ne (ne_of_in f4 (ia hx)), up_ne (ne_of_in f3 hx)]
  have cc := CC_start (g := g) (q1 := q1) (q2 := q2) (o1 := o1) (o2 := o2) (r := r) (A := A) (L := (L2 ++ [o1]) ++ [o2]) (h := va_up (va_up h2 o1 (.inl (2, ((1 : Int32)).toNatClampNeg, (.inr (.inl (fun _ => 0)))))) o2 (.inl (3, ((1 : Int32)).toNatClampNeg, (.inr (.inr (.inr (.inl (fun _ => 0)))))))) LL ?_ ?_ ?_ e3 j4 (fun x hx => hx) ((U (j5 q1 (ia m1)).1).trans k1) (fun i hi => (U (j5 (r i) (ia (e2 i hi).1)).1).trans (kr i hi)) ((U (j5 q2 (last_in _ _)).1).trans j1) (fun i hi => (U (j3 i hi).1).trans (j3 i hi).2.2) ((up_ne (ne_of_in f4 (last_in _ _))).trans (up_at _ _ _)) (up_at _ _ _)
  · exact law_loop (b := b) (xs := xs) (R := fun _ _ => False) (X := fun _ _ => False) hL 512 0 (c00 q1 r q2 A o1 o2) M00 none none none _ _ rfl ⟨⟨rfl, Or.inl ⟨rfl, rfl⟩⟩, rfl⟩ ⟨⟨rfl, Or.inr (Or.inr (Or.inl ⟨rfl, rfl⟩))⟩, rfl⟩ ⟨⟨rfl, Or.inr (Or.inr (Or.inr (Or.inr (Or.inl ⟨rfl, rfl⟩))))⟩, rfl⟩ ⟨⟨rfl, Or.inr (Or.inr (Or.inr (Or.inr (Or.inr ⟨rfl, rfl⟩))))⟩, rfl⟩ CL_start RF_start wf_start (by decide) (by decide) _ _ _ _ cc (fun _ _ _ _ _ _ f => f.elim) (fun _ _ _ _ _ _ f => f.elim)
  · intro n x hx
    match n, hx with
    | 0, hx => cases hx
    | 1, hx => exact (e1 x hx).1
    | 2, hx => exact ia hx
    | 3, hx => exact (j5 x hx).1
    | 4, hx => exact ia hx
    | 5, hx => exact ia hx
    | n + 6, hx => exact hx
  · intro k i hv
    unfold lv0 at hv
    rcases hv with ⟨rfl, rfl⟩ | ⟨rfl, hi⟩ | ⟨rfl, rfl⟩ | ⟨rfl, hi⟩ | ⟨rfl, rfl⟩ | ⟨rfl, rfl⟩
    · exact last_in [] q1
    · exact (e2 i hi).1
    · exact last_in L1 q2
    · exact (j3 i hi).1
    · exact last_in L2 o1
    · exact last_in (L2 ++ [o1]) o2
  · intro k i hv
    unfold lv0 at hv
    rcases hv with ⟨rfl, rfl⟩ | ⟨rfl, hi⟩ | ⟨rfl, rfl⟩ | ⟨rfl, hi⟩ | ⟨rfl, rfl⟩ | ⟨rfl, rfl⟩
    · exact List.not_mem_nil
    · exact (e2 i hi).2.1
    · exact f2
    · exact (j3 i hi).2.1
    · exact f3
    · exact f4
