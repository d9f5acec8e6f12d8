/-! the class is made -/
section
variable {g : Nat → Nat} {R2 : ab_R} {XP : ab_XP} {a : Nat} {L : List Nat} {h : ab_H}
theorem x8_init (hm : a ∈ L) (ha : h a = .inr (11, [.null, .null, .null, .null, .long 0])) (K : ∀ (L' : List Nat) (h' : ab_H) (r : Nat → Nat), (∀ x, x ∈ L → x ∈ L' ∧ (x ≠ a → h' x = h x)) → (∀ i, i < 4 → r i ∈ L' ∧ r i ∉ L ∧ h' (r i) = .inr (2, [.int 0, .ref (g 0), .int 0])) → (∀ i i', i < 4 → i' < 4 → r i = r i' → i = i') → h' a = .inr (11, [.ref (r 0), .ref (r 1), .ref (r 2), .ref (r 3), .long 0]) → R2 none L' h') : wp_X8_init g [.ref a] L h R2 XP := by
  have hl : ∀ {n m : Nat}, Nat.ble (n + 1) m = true → n < m := fun h => Nat.le_of_ble_eq_true h
  have ia : ∀ {L : List Nat} {x y : Nat}, x ∈ L → x ∈ L ++ [y] := fun h => List.mem_append_left _ h
  have na : ∀ {L : List Nat} {x y : Nat}, x ∉ L ++ [y] → x ∉ L := fun h q => h (List.mem_append_left _ q)
  refine bk_X8_init_0 ⟨by decide, by decide, fun p0 f0 => ⟨⟨by decide, by decide⟩, r_alInit (last_in _ _) (up_at _ _ _) (fun h1 hb1 hp1 => ?_)⟩⟩
  have d0 : a ≠ p0 := ne_of_in f0 hm
  have e1 : h1 a = .inr (11, [.null, .null, .null, .null, .long 0]) := (hb1 a d0).trans ((up_ne d0).trans ha)
  refine ⟨rfl, ia hm, _, e1, hl rfl, by decide, by decide, fun p1 f1 => ⟨⟨by decide, by decide⟩, r_alInit (last_in _ _) (up_at _ _ _) (fun h2 hb2 hp2 => ?_)⟩⟩
  have d1 : a ≠ p1 := ne_of_in f1 (ia hm)
  have d01 : p0 ≠ p1 := ne_of_in f1 (last_in _ _)
  have e2 : h2 a = .inr (11, [.ref p0, .null, .null, .null, .long 0]) := (hb2 a d1).trans ((up_ne d1).trans (up_at _ _ _))
  refine ⟨rfl, ia (ia hm), _, e2, hl rfl, by decide, by decide, fun p2 f2 => ⟨⟨by decide, by decide⟩, r_alInit (last_in _ _) (up_at _ _ _) (fun h3 hb3 hp3 => ?_)⟩⟩
  have d2 : a ≠ p2 := ne_of_in f2 (ia (ia hm))
  have d02 : p0 ≠ p2 := ne_of_in f2 (ia (last_in _ _))
  have d12 : p1 ≠ p2 := ne_of_in f2 (last_in _ _)
  have e3 : h3 a = .inr (11, [.ref p0, .ref p1, .null, .null, .long 0]) := (hb3 a d2).trans ((up_ne d2).trans (up_at _ _ _))
  refine ⟨rfl, ia (ia (ia hm)), _, e3, hl rfl, by decide, by decide, fun p3 f3 => ⟨⟨by decide, by decide⟩, r_alInit (last_in _ _) (up_at _ _ _) (fun h4 hb4 hp4 => ?_)⟩⟩
  have d3 : a ≠ p3 := ne_of_in f3 (ia (ia (ia hm)))
  have d03 : p0 ≠ p3 := ne_of_in f3 (ia (ia (last_in _ _)))
  have d13 : p1 ≠ p3 := ne_of_in f3 (ia (last_in _ _))
  have d23 : p2 ≠ p3 := ne_of_in f3 (last_in _ _)
  have e4 : h4 a = .inr (11, [.ref p0, .ref p1, .ref p2, .null, .long 0]) := (hb4 a d3).trans ((up_ne d3).trans (up_at _ _ _))
  refine ⟨rfl, ia (ia (ia (ia hm))), _, e4, hl rfl, ia (ia (ia (ia hm))), _, up_at _ _ _, hl rfl, ⟨by decide, by decide⟩, ?_⟩
  have U : ∀ {z : ab_H} {w1 w2 : ab_E} {b : Nat}, b ≠ a → va_up (va_up z a w1) a w2 b = z b := fun hb => by rw [up_ne hb, up_ne hb]
  have g0 : h4 p0 = .inr (2, [.int 0, .ref (g 0), .int 0]) := by
    rw [hb4 p0 d03, up_ne d03, up_ne d0.symm, hb3 p0 d02, up_ne d02, up_ne d0.symm, hb2 p0 d01, up_ne d01, up_ne d0.symm, hp1]
  have g1 : h4 p1 = .inr (2, [.int 0, .ref (g 0), .int 0]) := by
    rw [hb4 p1 d13, up_ne d13, up_ne d1.symm, hb3 p1 d12, up_ne d12, up_ne d1.symm, hp2]
  have g2 : h4 p2 = .inr (2, [.int 0, .ref (g 0), .int 0]) := by
    rw [hb4 p2 d23, up_ne d23, up_ne d2.symm, hp3]
  refine K _ _ (fun i => if i = 0 then p0 else if i = 1 then p1 else if i = 2 then p2 else p3) (fun x hx => ⟨ia (ia (ia (ia hx))), fun hxa => ?_⟩) (fun i hi => ?_) (fun i i' hi hi' z => ?_) ?_
  · have x0 := ne_of_in f0 hx
    have x1 := ne_of_in f1 (ia hx)
    have x2 := ne_of_in f2 (ia (ia hx))
    have x3 := ne_of_in f3 (ia (ia (ia hx)))
    rw [U hxa, hb4 x x3, up_ne x3, up_ne hxa, hb3 x x2, up_ne x2, up_ne hxa, hb2 x x1, up_ne x1, up_ne hxa, hb1 x x0, up_ne x0]
  · rcases (show i = 0 ∨ i = 1 ∨ i = 2 ∨ i = 3 by omega) with rfl | rfl | rfl | rfl
    · exact ⟨ia (ia (ia (last_in _ _))), f0, (U d0.symm).trans g0⟩
    · exact ⟨ia (ia (last_in _ _)), na f1, (U d1.symm).trans g1⟩
    · exact ⟨ia (last_in _ _), na (na f2), (U d2.symm).trans g2⟩
    · exact ⟨last_in _ _, na (na (na f3)), (U d3.symm).trans hp4⟩
  · rcases (show i = 0 ∨ i = 1 ∨ i = 2 ∨ i = 3 by omega) with rfl | rfl | rfl | rfl <;> rcases (show i' = 0 ∨ i' = 1 ∨ i' = 2 ∨ i' = 3 by omega) with rfl | rfl | rfl | rfl
    all_goals first | rfl | exact absurd z d01 | exact absurd z d02 | exact absurd z d03 | exact absurd z d12 | exact absurd z d13 | exact absurd z d23 | exact absurd z.symm d01 | exact absurd z.symm d02 | exact absurd z.symm d03 | exact absurd z.symm d12 | exact absurd z.symm d13 | exact absurd z.symm d23
  · rw [up_at]
    rfl
end
