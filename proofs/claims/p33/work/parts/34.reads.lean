/-! calls that only ask: the reference -/
theorem ixo_0 {y : Int32} : ixo 0 y = none := by
  refine ixo_no ?_
  by_cases h : y < 0
  · exact Or.inl h
  · exact Or.inr (Int32.not_lt.mp h)
theorem let_is {z : Int32} (h : z = 111 ∨ z = 119 ∨ z = 105 ∨ z = 115 ∨ z = 98 ∨ z = 104) : ((z).toUInt32 % 65536).toInt32 = z := by
  rcases h with rfl | rfl | rfl | rfl | rfl | rfl <;> decide
theorem let_is2 {z : Int32} (h : z = 109 ∨ z = 115 ∨ z = 114) : ((z).toUInt32 % 65536).toInt32 = z := by
  rcases h with rfl | rfl | rfl <;> decide
theorem nch0 : narrow .char (.int 0) = .int 0 := (pk_charN (q := 0) (by decide)).1
section
variable {g : Nat → Nat} {c : cc_C} {M : cc_M} {e t : Nat} {x y : Int32} {X : String → cc_C → Prop}
theorem kM_AM {d : cc_C} (h : fr pAM c d) : kM c d := kM_fr h (fun f i q => by unfold pAM at q; omega)
end
