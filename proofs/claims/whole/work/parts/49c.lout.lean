/-! writes of the law's rows -/
theorem vp_in0 : vp_in (0 : Int32) 1 := by
  unfold vp_in
  decide
section
variable {g : Nat → Nat} {c : cc_C} {L : List Nat} {h : ab_H} {a : Nat}
theorem aw23 {x : Int64} (cc : CC g c L h) (s : sl c 23 0 0 a) : CC g (cpset c 1 0 x) L (va_up h a (.inl (2, 1, .inr (.inl (vp_updL (cP c 1) ((0 : Int32)).toNatClampNeg x))))) := by
  refine CC_pset cc s (Or.inr (Or.inr ⟨rfl, rfl⟩)) ?_
  show ct23 g (cpset c 1 0 x) 0 0 = _
  unfold ct23
  rw [show cP (cpset c 1 0 x) 1 = vp_updL (cP c 1) ((0 : Int32)).toNatClampNeg x from funext fun j => by
    by_cases hj : j = 0
    · subst hj
      exact (cP_at c 1 0 x).trans (if_pos rfl).symm
    · exact (cP_ne (fun e => hj e.2)).trans (if_neg (show ¬ j = ((0 : Int32)).toNatClampNeg from hj)).symm]
theorem aw24 {x : UInt64} (cc : CC g c L h) (s : sl c 24 0 0 a) : CC g (cdset c 0 x) L (va_up h a (.inl (3, 1, .inr (.inr (.inr (.inl (vf_upd (cD c) ((0 : Int32)).toNatClampNeg x))))))) := by
  refine CC_up cc s rfl rfl cc.2.2 rfl fun k' i' j' hv hn => ?_
  have hz := cc.2.2.1 k' i' j' hv
  have hk : k' ≠ 24 := fun e => hn ⟨e, hz.2.1 (by omega), hz.1⟩
  unfold ct
  split
  all_goals first | exact absurd rfl hk | rfl
end
