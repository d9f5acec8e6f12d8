/-! clues -/
def clP (n : Nat) (k a b c : Int32) : Prop := (¬ a < 0 ∧ a < nI n) ∧ (¬ b < 0 ∧ b < nI n) ∧ (k = 112 ∨ k = 120 ∨ (¬ a = b ∧ (k = 98 ∨ k = 110 ∨ k = 108 ∨ (k = 100 ∧ ¬ c < 1 ∧ ¬ 5 < c) ∨ (k = 109 ∧ (¬ c < 0 ∧ c < nI n) ∧ ¬ c = a ∧ ¬ c = b))))
def kin (k : Int32) : Prop := k = 112 ∨ k = 120 ∨ k = 98 ∨ k = 110 ∨ k = 108 ∨ k = 100 ∨ k = 109
theorem ixF0 {q : Nat} (hq : q < 65536) : ixF 0 (nI q) < 0 ↔ ¬ kin (nI q) := by
  by_cases h : q < 256
  · have key : ∀ q, q < 256 → (ixF 0 (nI q) < 0 ↔ ¬ (nI q = 112 ∨ nI q = 120 ∨ nI q = 98 ∨ nI q = 110 ∨ nI q = 108 ∨ nI q = 100 ∨ nI q = 109)) := by decide +kernel
    exact key q h
  · have h1 : ixF 0 (nI q) = -1 := if_pos (nI_lt (a := 255) (by omega) (by omega))
    rw [h1]
    refine ⟨fun _ z => ?_, fun _ => by decide⟩
    have ne : ∀ b, b < 256 → nI q ≠ nI b := fun b hb z => by
      have := (nI_eq (by omega) (by omega)).mp z
      omega
    rcases z with z | z | z | z | z | z | z
    · exact ne 112 (by omega) z
    · exact ne 120 (by omega) z
    · exact ne 98 (by omega) z
    · exact ne 110 (by omega) z
    · exact ne 108 (by omega) z
    · exact ne 100 (by omega) z
    · exact ne 109 (by omega) z
theorem clP_kin {n : Nat} {k a b c : Int32} (h : clP n k a b c) : kin k := by
  unfold kin
  rcases h.2.2 with q | q | ⟨-, q | q | q | ⟨q, -⟩ | ⟨q, -⟩⟩
  · exact Or.inl q
  · exact Or.inr (Or.inl q)
  · exact Or.inr (Or.inr (Or.inl q))
  · exact Or.inr (Or.inr (Or.inr (Or.inl q)))
  · exact Or.inr (Or.inr (Or.inr (Or.inr (Or.inl q))))
  · exact Or.inr (Or.inr (Or.inr (Or.inr (Or.inr (Or.inl q)))))
  · exact Or.inr (Or.inr (Or.inr (Or.inr (Or.inr (Or.inr q)))))
theorem clP_Kv {n : Nat} {k a b c : Int32} (hn : n ≤ 6) (h : clP n k a b c) : Kv n k a b c := by
  obtain ⟨⟨a1, a2⟩, ⟨b1, b2⟩, hk⟩ := h
  obtain ⟨i, hi, rfl⟩ := ix_of (by omega) a1 a2
  obtain ⟨j, hj, rfl⟩ := ix_of (by omega) b1 b2
  refine ⟨⟨i, rfl, hi⟩, ⟨j, rfl, hj⟩, ?_⟩
  rcases hk with q | q | ⟨-, q | q | q | ⟨q, z1, z2⟩ | ⟨q, ⟨z1, z2⟩, -⟩⟩
  · exact Or.inl q
  · exact Or.inr (Or.inl q)
  · exact Or.inr (Or.inr (Or.inl q))
  · exact Or.inr (Or.inr (Or.inr (Or.inl q)))
  · exact Or.inr (Or.inr (Or.inr (Or.inr (Or.inl q))))
  · obtain ⟨l, hl, hl1, rfl⟩ := pos_of z1
    have : ¬ 5 < l := fun z => z2 (nI_lt (a := 5) z hl)
    exact Or.inr (Or.inr (Or.inr (Or.inr (Or.inr (Or.inl ⟨q, l, rfl, hl1, by omega⟩)))))
  · obtain ⟨l, hl, rfl⟩ := ix_of (by omega) z1 z2
    exact Or.inr (Or.inr (Or.inr (Or.inr (Or.inr (Or.inr ⟨q, l, rfl, hl⟩)))))
def addK (x : cc_Rd) (k a b c : Int32) : cc_Rd := ((rdN x, rdC x + 1, fun e => if e = rdC x then (k, a, b, c) else rdK x e), x.2)
noncomputable def spClue (M : cc_M) (x k a b c : Int32) : cc_Sp := ixm (ixo (mR M) x) M fun r => @ite _ (clP (rdN (mX M r)) k a b c) (Classical.propDecidable _) (if rdO (mX M r) = 0 then (if rdC (mX M r) = 8 then (4, 0, M) else (0, nI (rdC (mX M r) + 1), sX M (mR M) (upF (mX M) r (addK (mX M r) k a b c)))) else (3, 0, M)) (2, 0, M)
def xIAUS : List String := ["java/lang/IndexOutOfBoundsException", "java/lang/IllegalArgumentException", "java/lang/UnsupportedOperationException", "java/lang/IllegalStateException"]
section
variable {g : Nat → Nat} {c : cc_C} {M : cc_M} {a e t : Nat} {x y : Int32} {X : String → cc_C → Prop}
theorem s_isFor {R : Option Value → cc_C → Prop} {i b q n : Nat} {y : Int32} (s : sl c 6 i 0 b) (hk : cS c 240 i 0 = nI q) (hq : q < 65536) (hy : y = nI n) (H0 : ¬ clP n (cS c 240 i 0) (cS c 241 i 0) (cS c 242 i 0) (cS c 243 i 0) → R (some (.int 0)) c) (H1 : clP n (cS c 240 i 0) (cS c 241 i 0) (cS c 242 i 0) (cS c 243 i 0) → R (some (.int 1)) c) : wc g (wp_X0_isFor g) c [.ref b, .int y] R X := by
  subst hy
  have hx := ixF0 hq
  rw [← hk] at hx
  refine mk_X0_isFor_0 s (mk_X0_ruleNumber_0 s (s_indexOf (t := 0) (by decide) (by rw [hk]; exact nI_pos (by omega)) ⟨_, rfl, ⟨_, rfl, fun z => H0 (fun h => hx.mp z (clP_kin h)), fun z => ?_⟩⟩))
  have hin : kin (cS c 240 i 0) := Classical.not_not.mp fun w => z (hx.mpr w)
  refine ⟨fun z1 => H0 (fun h => h.1.1 z1), fun a1 => ⟨fun z1 => H0 (fun h => Int32.not_lt.mpr z1 h.1.2), fun a2 => ⟨fun z1 => H0 (fun h => h.2.1.1 z1), fun b1 => ⟨fun b2 => ?_, fun z1 => H0 (fun h => z1 h.2.1.2)⟩⟩⟩⟩
  have a2' := Int32.not_le.mp a2
  refine ⟨fun k1 => ⟨fun z1 => H0 (fun h => ?_), fun ab => ⟨fun z1 => H0 (fun h => ?_), fun c1 => ⟨fun z1 => H0 (fun h => ?_), fun c2 => H1 ⟨⟨a1, a2'⟩, ⟨b1, b2⟩, Or.inr (Or.inr ⟨ab, Or.inr (Or.inr (Or.inr (Or.inl ⟨k1, c1, c2⟩)))⟩)⟩⟩⟩⟩, fun k1 => ⟨fun k2 => ⟨fun z1 => H0 (fun h => ?_), fun ab => ⟨fun z1 => H0 (fun h => ?_), fun c1 => ⟨fun z1 => H0 (fun h => ?_), fun c2 => ⟨fun z1 => H0 (fun h => ?_), fun ca => ⟨fun z1 => H0 (fun h => ?_), fun cb => H1 ⟨⟨a1, a2'⟩, ⟨b1, b2⟩, Or.inr (Or.inr ⟨ab, Or.inr (Or.inr (Or.inr (Or.inr ⟨k2, ⟨c1, Int32.not_le.mp c2⟩, ca, cb⟩)))⟩)⟩⟩⟩⟩⟩⟩, fun k2 => ⟨fun k3 => H1 ⟨⟨a1, a2'⟩, ⟨b1, b2⟩, Or.inl k3⟩, fun k3 => ⟨fun k4 => H1 ⟨⟨a1, a2'⟩, ⟨b1, b2⟩, Or.inr (Or.inl k4)⟩, fun k4 => ⟨fun z1 => H0 (fun h => ?_), fun ab => H1 ⟨⟨a1, a2'⟩, ⟨b1, b2⟩, Or.inr (Or.inr ⟨ab, ?_⟩)⟩⟩⟩⟩⟩⟩
  all_goals first
    | (rcases h.2.2 with w | w | ⟨w0, w | w | w | ⟨w, w1, w2⟩ | ⟨w, ⟨w1, w2⟩, w3, w4⟩⟩ <;> first
      | exact absurd (k1.symm.trans w) (by decide)
      | exact absurd (k2.symm.trans w) (by decide)
      | exact k1 w
      | exact k2 w
      | exact k3 w
      | exact k4 w
      | exact w0 z1
      | exact w1 z1
      | exact w2 z1
      | exact w3 z1
      | exact w4 z1
      | exact Int32.not_lt.mpr z1 w2)
    | (rcases hin with w | w | w | w | w | w | w
       · exact absurd w k3
       · exact absurd w k4
       · exact Or.inl w
       · exact Or.inr (Or.inl w)
       · exact Or.inr (Or.inr (Or.inl w))
       · exact absurd w k1
       · exact absurd w k2)
end
