section
variable {g : Nat → Nat} {c : cc_C} {M : cc_M} {a e t q qp : Nat} {x k p : Int32} {b : Bool} {X : String → cc_C → Prop}
theorem w_rule (w : wfM M t) (ht : t < 512) : wfM (spRule M k p b x).2.2 (t + 1) := by
  by_cases h : ruP k p x
  · have e : spRule M k p b x = (if mW M = 6 then (2, 0, M) else (0, nI (10 + mW M), sO M (mW M + 1) (upF (mO M) (mW M) (newO k p x b)))) := if_pos h
    rw [e]
    split
    · exact wf_s w ht
    · rename_i hne
      obtain ⟨v1, v2, v3, v4, v5⟩ := wf_s w ht
      refine ⟨v1, ⟨by have := v2.1; show mW M + 1 ≤ 6; omega, fun u hu => ?_⟩, v3, v4, v5⟩
      have hu' : u < mW M + 1 := hu
      obtain ⟨ov, ex⟩ := ruP_Ov (b := b) h
      show (upF (mO M) (mW M) (newO k p x b) u).2.1 < 3 ∧ ((upF (mO M) (mW M) (newO k p x b) u).2.1 = 2 → (upF (mO M) (mW M) (newO k p x b) u).1 = 109)
      by_cases huu : u = mW M
      · rw [huu, upF_at]
        exact ⟨ov.2.2.1, ov.2.2.2.2.2.2.2⟩
      · rw [upF_ne huu]
        exact v2.2 u (by omega)
  · have e : spRule M k p b x = (1, 0, M) := if_neg h
    rw [e]
    exact wf_s w ht
end
