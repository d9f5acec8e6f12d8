/-! what holds outside, at the law's entry -/
section
variable {s : State} {b : Nat}
theorem K_start (hts : ∀ w ∈ lw_tbl, w.before #[Value.ref b] s = true) : ∃ (D : va_G) (C : Nat → ClassId), va_K D vwCl (ab_tys C) s := by
  have hw : ∀ q ∈ vwCl, (∀ w ∈ u_ws q.1 q.2.1 q.2.2, w ∈ lw_tbl) := by
    have e : ∀ q ∈ vwCl, (∀ w ∈ u_ws q.1 q.2.1 q.2.2, w ∈ lw_tbl) := by
      simp only [vwCl, List.forall_mem_cons]
      refine ⟨?_, ?_, ?_, ?_, ?_, ?_, ?_, ?_, ?_, ?_, ?_, ?_, ?_⟩
      all_goals first | decide +kernel | (intro x hx; cases hx)
    exact e
  have hi : ∀ q ∈ vwCl, ∃ n : Nat, Cond.instantiable q.1 n ∈ lw_tbl := by
    simp only [vwCl, List.forall_mem_cons]
    refine ⟨⟨4, ?_⟩, ⟨6, ?_⟩, ⟨3, ?_⟩, ⟨4, ?_⟩, ⟨3, ?_⟩, ⟨2, ?_⟩, ⟨1, ?_⟩, ⟨6, ?_⟩, ⟨1, ?_⟩, ⟨7, ?_⟩, ⟨7, ?_⟩, ⟨5, ?_⟩, ?_⟩
    all_goals first | decide +kernel | (intro x hx; cases hx)
  have h0 : ∀ k : Nat, ∃ z : ClassId × (Nat → Nat), ∀ q, vwCl[k]? = some q → u_Kn s q.1 q.2.1 q.2.2 z.1 z.2 := fun k => by
    cases hk : vwCl[k]? with
    | none => exact ⟨(default, fun _ => 0), fun q hq => by cases hq⟩
    | some q =>
      have hm : q ∈ vwCl := List.mem_of_getElem? hk
      obtain ⟨n, hn⟩ := hi q hm
      obtain ⟨cC, iS, hKn⟩ := u_known (C := q.1) (T := q.2.1) (N := q.2.2) (n := n) hts (hw q hm) (hts _ hn)
      exact ⟨(cC, iS), fun q' hq => by cases hq; exact hKn⟩
  obtain ⟨F, hF⟩ := Classical.axiomOfChoice h0
  obtain ⟨c0, k0, p0, a0, b0, d0⟩ := Cond.arrayClass_spec (hts (.arrayClass .int) (by decide +kernel))
  obtain ⟨c1, k1, p1, a1, b1, d1⟩ := Cond.arrayClass_spec (hts (.arrayClass .boolean) (by decide +kernel))
  obtain ⟨p4, c4, k4, a4, e4, b4, d4, f4⟩ := Cond.arrayOver_spec (hts (.arrayOver (.object "java/lang/Object")) (by decide +kernel))
  refine ⟨(fun k => (F k).1, fun k => (F k).2), fun i => if i = 0 then c0 else if i = 1 then c1 else if i = 4 then c4 else c0, fun k q hq => hF k q hq, fun k q hq => ?_⟩
  match k, hq with
  | 0, hq => cases hq; exact ⟨fun n z => ⟨(fun k h => by cases h), k0, b0, p0, d0⟩, a0⟩
  | 1, hq => cases hq; exact ⟨fun n z => ⟨(fun k h => by cases h), k1, b1, p1, d1⟩, a1⟩
  | 2, hq => cases hq; exact ⟨fun n z => ⟨(fun k h => by cases h), k0, b0, p0, d0⟩, a0⟩
  | 3, hq => cases hq; exact ⟨fun n z => ⟨(fun k h => by cases h), k0, b0, p0, d0⟩, a0⟩
  | 4, hq => cases hq; exact ⟨fun n z => ⟨(fun k h => by cases h), k4, b4, p4, d4⟩, k4, p4, b4, d4, a4, f4⟩
  | k + 5, hq => cases hq
def nar : List Cond := flatC (Jvm.Cond.and given_1 narrow_1)
theorem S_one {own : String} {k n : Nat} {by0 : List Int32} {A : Nat → Prop} (hs : ∀ w ∈ nar, w.before #[Value.ref b] s = true) (hA : ∀ a : Nat, a < s.heap.size → ¬ A a) (hn : n < 2 ^ 31) (h1 : Cond.exactly (.string own k) "java/lang/String" ∈ nar) (h2 : Cond.eq (.field (.string own k) "java/lang/String" "coder" "B") (.int 0) ∈ nar) (h3 : Cond.arrayOf (.field (.string own k) "java/lang/String" "value" "[B") .byte ∈ nar) (h4 : Cond.eq (.length (.field (.string own k) "java/lang/String" "value" "[B")) (.int (Int32.ofNat n)) ∈ nar)
    (h5 : ∀ j : Nat, j < n → Cond.eq (.elem (.field (.string own k) "java/lang/String" "value" "[B") (.int (Int32.ofNat j))) (.int (by0.getD j 0)) ∈ nar) : ∃ aK aV : Nat, (va_O "java/lang/String" aK A s s.heap ∧ va_OF "java/lang/String" "coder" "B" (.int 0) aK A s s.heap ∧ va_OF "java/lang/String" "value" "[B" (.ref aV) aK A s s.heap ∧ va_T .byte aV n (fun j => .int (by0.getD j 0)) A s s.heap) ∧ (Term.string own k).eval #[Value.ref b] s none [] s = some (.ref aK) := by
  obtain ⟨adK, adV, hS, hE⟩ := vk_Sof (args := #[Value.ref b]) (s := s) (N := 1) (tm := fun _ => .string own k) (len := [n]) (byt := [by0]) (A := A) (fun i hi => by rw [show i = 0 by omega]; exact hn) (fun i _ => hs _ h1) (fun i _ => hs _ h2) (fun i _ => hs _ h3) (fun i hi => by rw [show i = 0 by omega]; exact hs _ h4) (fun i hi j hj => by
    rw [show i = 0 by omega] at hj ⊢
    exact hs _ (h5 j hj)) (fun i j hi hj hij => absurd (show i = j by omega) hij) hA
  exact ⟨adK 0, adV 0, hS.1 0 (by decide), hE 0 (by decide)⟩
def gS (t mi b L : Nat) (kk vv : Nat → Nat) (xs : Nat → Int32) : Nat → Nat
  | 0 => t
  | 1 => mi
  | 2 => kk 0
  | 3 => kk 1
  | 4 => kk 2
  | 5 => kk 3
  | 6 => kk 4
  | 7 => kk 5
  | 8 => vv 0
  | 9 => vv 1
  | 10 => vv 2
  | 11 => vv 3
  | 12 => vv 4
  | 13 => vv 5
  | 14 => b
  | 15 => L
  | 16 => 0
  | j + 17 => (xs j).toUInt32.toNat
theorem gS_xs {t mi b L : Nat} {kk vv : Nat → Nat} {xs : Nat → Int32} : ab_xs (gS t mi b L kk vv xs) = xs := by
  funext j
  unfold ab_xs
  rw [Nat.add_comm 17 j]
  show Int32.ofNat (xs j).toUInt32.toNat = xs j
  have e := UInt32.toInt32_ofNat' (n := (xs j).toUInt32.toNat)
  rw [UInt32.ofNat_toNat] at e
  rw [← e]
  exact Int32.toInt32_toUInt32 _
theorem amb_start {Ls : Nat} {xs : Nat → Int32} (hts : ∀ w ∈ lw_tbl, w.before #[Value.ref b] s = true) (hgv : (Jvm.Cond.and given_1 narrow_1).before #[Value.ref b] s = true) (hX : va_X b Ls xs s s.heap) (hbl : b < s.heap.size) : ∃ g : Nat → Nat, ab_Amb g (fun q => s.heap.size ≤ q) s ∧ g 14 = b ∧ g 15 = Ls := by
  have hs : ∀ w ∈ nar, w.before #[Value.ref b] s = true := flat_of_before _ hgv
  have hA : ∀ a : Nat, a < s.heap.size → ¬ (fun q => s.heap.size ≤ q) a := fun a ha => Nat.not_le.mpr ha
  have z1 := vx_Zqof (C := Bundle.tN) (n := "UNASSIGNED_STACK") (d := Bundle.steD) (hts _ (by decide +kernel)) (hts (.initialized Bundle.tN) (by decide +kernel)) (hs _ (by decide +kernel)) hA
  have z2 := vx_Zqof (C := Bundle.tN) (n := "SUPPRESSED_SENTINEL") (d := Bundle.listD) (hts _ (by decide +kernel)) (hts (.initialized Bundle.tN) (by decide +kernel)) (hs _ (by decide +kernel)) hA
  obtain ⟨t, ht, hT⟩ := va_Tof (args := #[Value.ref b]) (s := s) (tm := .static "java/util/ArrayList" "DEFAULTCAPACITY_EMPTY_ELEMENTDATA" "[Ljava/lang/Object;") (ty := .object "java/lang/Object") (N := 0) (f := fun _ => .null) (by decide) (hs _ (by decide +kernel)) (va_eqt (hs (.eq (.length (.static "java/util/ArrayList" "DEFAULTCAPACITY_EMPTY_ELEMENTDATA" "[Ljava/lang/Object;")) (.int 0)) (by decide +kernel))) (fun j hj => absurd hj (Nat.not_lt_zero j)) hA
  have z3 := va_Zref (hts (.laysStatic "java/util/ArrayList" "DEFAULTCAPACITY_EMPTY_ELEMENTDATA" "[Ljava/lang/Object;") (by decide +kernel)) (hts (.initialized "java/util/ArrayList") (by decide +kernel)) ht hA
  have z4 := va_Zof (hts (.laysStatic "java/lang/String" "COMPACT_STRINGS" "Z") (by decide +kernel)) (hts (.initialized "java/lang/String") (by decide +kernel)) (va_eqt (hs (.eq (.static "java/lang/String" "COMPACT_STRINGS" "Z") (.int 1)) (by decide +kernel))) hA
  obtain ⟨mi, hmi⟩ := va_Mi.of (hs (.isRef (.mirror "[Ljava/lang/Object;")) (by decide +kernel))
  have z5 := va_Zqof (C := "jdk/internal/util/Preconditions") (n := "SIOOBE_FORMATTER") (d := "Ljava/util/function/BiFunction;") (hts _ (by decide +kernel)) (hts (.initialized "jdk/internal/util/Preconditions") (by decide +kernel)) (hs _ (by decide +kernel)) hA
  obtain ⟨k0, v0, S0, E0⟩ := S_one (own := "RiddlePress$Clue") (k := 25) (n := 7) (by0 := [112, 120, 98, 110, 108, 100, 109]) hs hA (by decide) (by decide +kernel) (by decide +kernel) (by decide +kernel) (by decide +kernel) (by decide +kernel)
  obtain ⟨k1, v1, S1, E1⟩ := S_one (own := "RiddlePress") (k := 153) (n := 4) (by0 := [98, 110, 108, 109]) hs hA (by decide) (by decide +kernel) (by decide +kernel) (by decide +kernel) (by decide +kernel) (by decide +kernel)
  obtain ⟨k2, v2, S2, E2⟩ := S_one (own := "RiddlePressLaw") (k := 126) (n := 4) (by0 := [98, 110, 108, 109]) hs hA (by decide) (by decide +kernel) (by decide +kernel) (by decide +kernel) (by decide +kernel) (by decide +kernel)
  obtain ⟨k3, v3, S3, E3⟩ := S_one (own := "RiddlePressLaw") (k := 137) (n := 3) (by0 := [97, 98, 99]) hs hA (by decide) (by decide +kernel) (by decide +kernel) (by decide +kernel) (by decide +kernel) (by decide +kernel)
  obtain ⟨k4, v4, S4, E4⟩ := S_one (own := "RiddlePressLaw") (k := 153) (n := 8) (by0 := [112, 120, 98, 110, 108, 100, 109, 110]) hs hA (by decide) (by decide +kernel) (by decide +kernel) (by decide +kernel) (by decide +kernel) (by decide +kernel)
  obtain ⟨k5, v5, S5, E5⟩ := S_one (own := "RiddlePressLaw") (k := 216) (n := 6) (by0 := [111, 119, 105, 115, 98, 104]) hs hA (by decide) (by decide +kernel) (by decide +kernel) (by decide +kernel) (by decide +kernel) (by decide +kernel)
  have hst : ∀ x ∈ ab_strs, Cond.stringRef x.1 x.2.1 x.2.2 ∈ lw_tbl ∧ Cond.exactly (.string x.1 x.2.1) "java/lang/String" ∈ nar := by decide +kernel
  have hca : ∀ x ∈ ab_casts, Cond.castable x.1 x.2 ∈ lw_tbl := by decide +kernel
  have hnc : ∀ x ∈ ab_ncasts, Cond.not (.castable x.1 x.2) ∈ nar := by decide +kernel
  have hde : ∀ x ∈ ab_decls, Cond.declares x ∈ lw_tbl := by decide +kernel
  have hfa : ∀ x ∈ ab_faces, Cond.declares x.1 ∈ lw_tbl ∧ Cond.interfaceMethod x.1.cls x.1.cls x.1.name x.1.desc ∈ lw_tbl ∧ Cond.publicMethod x.2 ∈ lw_tbl ∧ Cond.unhidden RJx4a65c x.1.name x.1.desc ∈ lw_tbl ∧ Cond.castable RJx4a65c x.1.cls ∈ lw_tbl := by decide +kernel
  refine ⟨gS t mi b Ls (fun i => if i = 0 then k0 else if i = 1 then k1 else if i = 2 then k2 else if i = 3 then k3 else if i = 4 then k4 else k5) (fun i => if i = 0 then v0 else if i = 1 then v1 else if i = 2 then v2 else if i = 3 then v3 else if i = 4 then v4 else v5) xs, ⟨z1, z2, z3, hT, fun i hi => ?_, fun x hx => ?_, fun i x hx => ?_, fun x hx => va_Nw.of rfl (hts _ (hca x hx)), fun x hx => va_Nc.of (hs _ (hnc x hx)), fun x hx => va_Nw.of rfl (hts _ (hde x hx)), fun x hx => va_Fw.of (hts _ (hfa x hx).1) (hts _ (hfa x hx).2.1) (hts _ (hfa x hx).2.2.1) (hts _ (hfa x hx).2.2.2.1) (hts _ (hfa x hx).2.2.2.2), hmi, va_Dc.of (hts (.declares ⟨"java/lang/Object", "getClass", "()Ljava/lang/Class;"⟩) (by decide +kernel)), va_AO.of (hts (.arrayOver (.object "java/lang/Object")) (by decide +kernel)), z4, ⟨?_, hbl, hA b hbl⟩, z5⟩, rfl, rfl⟩
  · rcases (show i = 0 ∨ i = 1 ∨ i = 2 ∨ i = 3 ∨ i = 4 ∨ i = 5 by omega) with rfl | rfl | rfl | rfl | rfl | rfl
    · exact ⟨fun i hi => by rw [show i = 0 by omega]; exact S0, fun i j hi hj _ => by omega⟩
    · exact ⟨fun i hi => by rw [show i = 0 by omega]; exact S1, fun i j hi hj _ => by omega⟩
    · exact ⟨fun i hi => by rw [show i = 0 by omega]; exact S2, fun i j hi hj _ => by omega⟩
    · exact ⟨fun i hi => by rw [show i = 0 by omega]; exact S3, fun i j hi hj _ => by omega⟩
    · exact ⟨fun i hi => by rw [show i = 0 by omega]; exact S4, fun i j hi hj _ => by omega⟩
    · exact ⟨fun i hi => by rw [show i = 0 by omega]; exact S5, fun i j hi hj _ => by omega⟩
  · obtain ⟨q1, q2⟩ := hst x hx
    obtain ⟨a, -, -, -, ha, -⟩ := Cond.exactly_spec (hs _ q2)
    exact ⟨a, vk_R.of (hts _ q1) ha⟩
  · match i, hx with
    | 0, hx => cases hx; exact vk_R.of (hts (.stringRef "RiddlePress$Clue" 25 "pxbnldm") (by decide +kernel)) E0
    | 1, hx => cases hx; exact vk_R.of (hts (.stringRef "RiddlePress" 153 "bnlm") (by decide +kernel)) E1
    | 2, hx => cases hx; exact vk_R.of (hts (.stringRef "RiddlePressLaw" 126 "bnlm") (by decide +kernel)) E2
    | 3, hx => cases hx; exact vk_R.of (hts (.stringRef "RiddlePressLaw" 137 "abc") (by decide +kernel)) E3
    | 4, hx => cases hx; exact vk_R.of (hts (.stringRef "RiddlePressLaw" 153 "pxbnldmn") (by decide +kernel)) E4
    | 5, hx => cases hx; exact vk_R.of (hts (.stringRef "RiddlePressLaw" 216 "owisbh") (by decide +kernel)) E5
    | i + 6, hx => cases hx
  · rw [gS_xs]
    exact hX
end
