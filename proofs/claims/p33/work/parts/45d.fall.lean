section
variable {g : Nat → Nat} {c : cc_C} {M : cc_M} {a e t : Nat} {x y : Int32} {X : String → cc_C → Prop}
theorem RF_noI {r i : Nat} (hr : r < mR M) (hI : rdI (mX M r) = i + 1) (hJ : (mJ M i).1 = 114) (hR : RF c M) : RF c (mNoI M r) := by
  obtain ⟨a1, ⟨r1, r2, r3⟩, a3, ⟨b1, b2, b3⟩, a5, a6⟩ := hR
  refine ⟨a1, ⟨r1, fun k hk => ?_, r3⟩, a3, ⟨b1, fun k hk => ⟨(b2 k hk).1, (b2 k hk).2.1, fun z => ?_⟩, b3⟩, a5, a6⟩
  · show RFr c k (upF (mX M) r (noI (mX M r)) k)
    by_cases hkr : k = r
    · rw [hkr, upF_at]
      obtain ⟨z1, z2, z3, z4, z5, z6, z7⟩ := r2 r hr
      exact ⟨z1, z2, z3, z4, z5, z6, fun o => absurd rfl o⟩
    · rw [upF_ne hkr]
      exact r2 k hk
  · refine RFl_X (n := mR M) (n' := mR M) (X := mX M) (X' := upF (mX M) r (noI (mX M r))) (Nat.le_refl _) (fun q hq => ?_) (fun q h1 h2 => absurd h1 (by omega)) ((b2 k hk).2.2 z)
    by_cases hqr : q = r
    · rw [hqr, upF_at]
      refine ⟨fun z2 => ?_, fun z2 => ?_⟩
      · have : (0 : Nat) = k + 1 := z2
        omega
      · have hki : k = i := by omega
        have z' : (mJ M k).1 ≠ 114 := z
        rw [hki] at z'
        exact absurd hJ z'
    · rw [upF_ne hqr]
theorem sdG_at {F : cc_Rd → cc_Rd} {Y : Nat → cc_Rd} {p : Nat → Nat} {k m : Nat} (hk : k < m) (inj : ∀ k k', k < m → k' < m → p k = p k' → k = k') : sdG F Y p k (p k) = Y (p k) := by
  refine if_neg fun z => ?_
  obtain ⟨j, hj, e⟩ := inP_iff.mp z
  have := inj j k (by omega) hk e
  omega
end
