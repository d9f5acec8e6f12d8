section
variable {g : Nat → Nat} {c : cc_C} {M : cc_M} {a e t q qp : Nat} {x k p : Int32} {b : Bool} {X : String → cc_C → Prop}
theorem m_rule48 {o5 : Option Value} (s : sl c 21 0 0 e) (hR : RF c M) (w : wfM M t) (hk : k = 98 ∨ k = 110 ∨ k = 108 ∨ k = 109) (hp : p = 97 ∨ p = 98 ∨ (p = 99 ∧ k = 109)) : ec g tb_X9_rule 48 [some (.ref e), some (.int k), some (.int p), some (.int (bI b)), some (.int x), o5] [] 0 0 c (okN (spRule M k p b x) c) X := by
  have b6 := w.2.1.1
  have hR' := hR
  obtain ⟨d1, d2, ⟨⟨r1, r2, r3⟩, r4⟩, d4, d5, d6⟩ := hR'
  refine mk_X9_rule_48 s (m_in (fun z => ⟨_, rfl, fun _ => mk_X9_rule_62 s (mk_X9_fails_0 s ⟨_, rfl, lF (M := M) (y := 0) (if_neg fun h => z.elim h.2.2.1 (fun z => Int32.not_lt.mpr h.2.2.2 z)) rfl kM_rfl hR⟩), fun q => absurd rfl q⟩) (fun z1 z2 => ⟨_, rfl, fun q => absurd q (by decide), fun _ => ?_⟩))
  have good : ruP k p x := ⟨hk, hp, z1, Int32.not_lt.mp z2⟩
  repeat rw [c880_f (f := 871)]
  rw [r1]
  refine ⟨fun z => mk_X9_fails_0 s ⟨_, rfl, lF (M := M) (y := 0) ((if_pos good).trans (if_pos ((nI_eq (b := 6) (by omega) (by omega)).mp z))) rfl kM_rfl hR⟩, fun z => ?_⟩
  have hne : mW M ≠ 6 := fun q => z (by rw [q]; rfl)
  have e1 : spRule M k p b x = (0, nI (10 + mW M), sO M (mW M + 1) (upF (mO M) (mW M) (newO k p x b))) := (if_pos good).trans (if_neg hne)
  have v6 := vp_in_nI (show mW M < 6 by omega) (by omega)
  obtain ⟨ov, ex⟩ := ruP_Ov (b := b) good
  rw [nI_clamp (by omega), cS_at, cS_at]
  have fin : ∀ f : Int32, f = bI b → wc g (wp_X9_tell g) (cset (cset (cset (cset (cset c 880 13 (mW M) k) 880 14 (mW M) p) 880 15 (mW M) f) 880 16 (mW M) x) 871 0 0 (nI (mW M) + 1)) [.ref e, .int (9 + (nI (mW M) + 1))] (fun v c' => ∃ z : Int32, v = some (.int z) ∧ okN (spRule M k p b x) c (some (.int z)) c') X := by
    intro f hf
    subst hf
    refine mk_X9_tell_0 s ⟨_, rfl, ?_⟩
    have hf : fm (fun f i j => f = 871 ∨ (f = 880 ∧ j = mW M ∧ 13 ≤ i ∧ i ≤ 16)) c (cset (cset (cset (cset (cset c 880 13 (mW M) k) 880 14 (mW M) p) 880 15 (mW M) (bI b)) 880 16 (mW M) x) 871 0 0 (nI (mW M) + 1)) := ((((fm_rfl.set (by omega)).set (by omega)).set (by omega)).set (by omega)).set (by omega)
    refine lT e1 ?_ (kM_fm hf (fun f i j q => by omega)) ⟨d1, RFR_fm (M := M) hf (w36 w) (fun f i j q => by omega) d2, ⟨⟨(cS_at _ _ _ _ _).trans (nI_1 _), by show mW M + 1 ≤ 6; omega, fun u hu => ?_⟩, fun u h1 h2 => ?_⟩, RFI_fm (M := M) hf (fun f i j q => by omega) d4, RFU_fm (M := M) hf (fun f i j q => by omega) d5, d6⟩
    · rw [nI_1, show (9 : Int32) + nI (mW M + 1) = nI (9 + (mW M + 1)) from nI_add 9 _, show 9 + (mW M + 1) = 10 + mW M by omega]
    · have hu' : u < mW M + 1 := hu
      show OvM _ u (upF (mO M) (mW M) (newO k p x b) u).1 (upF (mO M) (mW M) (newO k p x b) u).2.2.1 (upF (mO M) (mW M) (newO k p x b) u).2.1 (upF (mO M) (mW M) (newO k p x b) u).2.2.2.1 ∧ _ = (if (upF (mO M) (mW M) (newO k p x b) u).2.2.2.2 then 0 else 1)
      by_cases huu : u = mW M
      · rw [huu, upF_at]
        have e14 : cS (cset (cset (cset (cset (cset c 880 13 (mW M) k) 880 14 (mW M) p) 880 15 (mW M) (bI b)) 880 16 (mW M) x) 871 0 0 (nI (mW M) + 1)) 880 14 (mW M) = p := by
          rw [cS_f (by decide), cS_ne (by omega), cS_ne (by omega), cS_at]
        refine ⟨⟨by omega, ?_, ?_, ?_, ?_⟩, (hf.2.2.2.2 880 17 _ (by omega)).trans (r4 (mW M) (Nat.le_refl _) (by omega))⟩
        · rw [cS_f (by decide), cS_ne (by omega), cS_ne (by omega), cS_ne (by omega), cS_at]
          rfl
        · rw [cS_f (by decide), cS_ne (by omega), cS_at]
          rfl
        · rw [cS_f (by decide), cS_at]
          exact ex
        · rw [e14, ← ex]
          exact ov
      · rw [upF_ne huu]
        have := r3 u (by omega)
        unfold OvM at this ⊢
        have hh := hf.2.2.2.2
        rw [hh 880 13 u (by omega), hh 880 14 u (by omega), hh 880 15 u (by omega), hh 880 16 u (by omega), hh 880 17 u (by omega)]
        exact this
    · have h1' : mW M + 1 ≤ u := h1
      rw [hf.2.2.2.2 880 17 u (by omega)]
      exact r4 u (by omega) h2
  cases b with
  | true => exact ⟨v6, v6, fun q => absurd q (by decide), fun _ => ⟨v6, v6, fin 1 rfl⟩⟩
  | false => exact ⟨v6, v6, fun _ => ⟨v6, v6, fin 0 rfl⟩, fun q => absurd rfl q⟩
theorem m_rule (s : sl c 21 0 0 e) (hR : RF c M) (w : wfM M t) : wc g (wp_X9_rule g) c [.ref e, .int k, .int p, .int (bI b), .int x] (okN (spRule M k p b x) c) X := by
  have bad : ∀ o5, ¬ ruP k p x → ec g tb_X9_rule 62 [some (.ref e), some (.int k), some (.int p), some (.int (bI b)), some (.int x), o5] [] 0 0 c (okN (spRule M k p b x) c) X := fun o5 h => mk_X9_rule_62 s (mk_X9_fails_0 s ⟨_, rfl, lF (M := M) (y := 0) (if_neg h) rfl kM_rfl hR⟩)
  have b24 : ∀ o5, (k = 98 ∨ k = 110 ∨ k = 108 ∨ k = 109) → ec g tb_X9_rule 24 [some (.ref e), some (.int k), some (.int p), some (.int (bI b)), some (.int x), o5] [] 0 0 c (okN (spRule M k p b x) c) X := by
    intro o5 hk
    refine mk_X9_rule_24 s ⟨fun z => m_rule48 s hR w hk (Or.inl z), fun z1 => ⟨fun z => m_rule48 s hR w hk (Or.inr (Or.inl z)), fun z2 => ⟨fun z3 => ⟨fun z => m_rule48 s hR w hk (Or.inr (Or.inr ⟨z3, z⟩)), fun z => bad _ (fun h => ?_)⟩, fun z3 => bad _ (fun h => ?_)⟩⟩⟩
    · rcases h.2.1 with h | h | h
      · exact z1 h
      · exact z2 h
      · exact z h.2
    · rcases h.2.1 with h | h | h
      · exact z1 h
      · exact z2 h
      · exact z3 h.1
  refine mk_X9_rule_0 s ⟨fun z => b24 _ (Or.inl z), fun z1 => ⟨fun z => b24 _ (Or.inr (Or.inl z)), fun z2 => ⟨fun z => b24 _ (Or.inr (Or.inr (Or.inl z))), fun z3 => ⟨fun z => b24 _ (Or.inr (Or.inr (Or.inr z))), fun z4 => bad _ (fun h => ?_)⟩⟩⟩⟩
  rcases h.1 with h | h | h | h
  · exact z1 h
  · exact z2 h
  · exact z3 h
  · exact z4 h
theorem w_rule (w : wfM M t) (ht : t < 512) : wfM (spRule M k p b x).2.2 (t + 1) := by
  by_cases h : ruP k p x
  · have e : spRule M k p b x = (if mW M = 6 then (2, 0, M) else (0, nI (10 + mW M), sO M (mW M + 1) (upF (mO M) (mW M) (newO k p x b)))) := if_pos h
    rw [e]
    split
    · exact wf_s w ht
    · rename_i hne
      obtain ⟨v1, v2, v3, v4, v5⟩ := wf_s w ht
      refine ⟨v1, ⟨by have := v2.1; show mW M + 1 ≤ 6; omega, fun u hu => ?_⟩, v3, v4, v5⟩
      have hu' : u < mW M + 1 := hu
      obtain ⟨ov, ex⟩ := ruP_Ov (b := b) h
      show (upF (mO M) (mW M) (newO k p x b) u).2.1 < 3 ∧ ((upF (mO M) (mW M) (newO k p x b) u).2.1 = 2 → (upF (mO M) (mW M) (newO k p x b) u).1 = 109)
      by_cases huu : u = mW M
      · rw [huu, upF_at]
        exact ⟨ov.2.2.1, ov.2.2.2.2.2.2.2⟩
      · rw [upF_ne huu]
        exact v2.2 u (by omega)
  · have e : spRule M k p b x = (1, 0, M) := if_neg h
    rw [e]
    exact wf_s w ht
end
