/-! own rules are told -/
def ruP (k p x : Int32) : Prop := (k = 98 ∨ k = 110 ∨ k = 108 ∨ k = 109) ∧ (p = 97 ∨ p = 98 ∨ (p = 99 ∧ k = 109)) ∧ ¬ x < 1 ∧ x ≤ 5
theorem ixF1 {q : Nat} (hq : q < 65536) : ixF 1 (nI q) < 0 ↔ ¬ (nI q = 98 ∨ nI q = 110 ∨ nI q = 108 ∨ nI q = 109) := by
  by_cases h : q < 256
  · have key : ∀ q, q < 256 → (ixF 1 (nI q) < 0 ↔ ¬ (nI q = 98 ∨ nI q = 110 ∨ nI q = 108 ∨ nI q = 109)) := by decide +kernel
    exact key q h
  · have h1 : ixF 1 (nI q) = -1 := if_pos (nI_lt (a := 255) (by omega) (by omega))
    rw [h1]
    refine ⟨fun _ z => ?_, fun _ => by decide⟩
    have ne : ∀ b, b < 256 → nI q ≠ nI b := fun b hb z => by
      have := (nI_eq (by omega) (by omega)).mp z
      omega
    rcases z with z | z | z | z
    · exact ne 98 (by omega) z
    · exact ne 110 (by omega) z
    · exact ne 108 (by omega) z
    · exact ne 109 (by omega) z
def newO (k p x : Int32) (b : Bool) : Int32 × Nat × Int32 × Nat × Bool := (k, p.toNatClampNeg - 97, bI b, x.toNatClampNeg, true)
noncomputable def spRule (M : cc_M) (k p : Int32) (b : Bool) (x : Int32) : cc_Sp := @ite _ (ruP k p x) (Classical.propDecidable _) (if mW M = 6 then (2, 0, M) else (0, nI (10 + mW M), sO M (mW M + 1) (upF (mO M) (mW M) (newO k p x b)))) (1, 0, M)
theorem ruP_Ov {k p x : Int32} {b : Bool} (h : ruP k p x) : Ov k p (bI b) x (newO k p x b).2.1 (newO k p x b).2.2.2.1 ∧ x = nI (newO k p x b).2.2.2.1 := by
  obtain ⟨h1, h2, h3, h4⟩ := h
  obtain ⟨n, hn, hn1, rfl⟩ := pos_of h3
  have h5 := (nI_leI (b := 5) hn (by omega)).mp h4
  have e : (newO k p (nI n) b).2.2.2.1 = n := nI_clamp hn
  have hb : bI b = 0 ∨ bI b = 1 := by cases b; exact Or.inl rfl; exact Or.inr rfl
  rw [e]
  refine ⟨⟨h1, ?_, ?_, hb, rfl, hn1, h5, fun hj => ?_⟩, rfl⟩
  · show p = nI (97 + (p.toNatClampNeg - 97))
    rcases h2 with rfl | rfl | ⟨rfl, -⟩ <;> decide
  · show p.toNatClampNeg - 97 < 3
    rcases h2 with rfl | rfl | ⟨rfl, -⟩ <;> decide
  · have hj' : p.toNatClampNeg - 97 = 2 := hj
    rcases h2 with rfl | rfl | ⟨-, z⟩
    · exact absurd hj' (by decide)
    · exact absurd hj' (by decide)
    · exact z
section
variable {g : Nat → Nat} {c : cc_C} {M : cc_M} {a e t q qp : Nat} {x y : Int32} {b : Bool} {X : String → cc_C → Prop}
theorem s_isPersonOf {R : Option Value → cc_C → Prop} {k p : Int32} (H0 : ¬ (p = 97 ∨ p = 98 ∨ (p = 99 ∧ k = 109)) → R (some (.int 0)) c) (H1 : (p = 97 ∨ p = 98 ∨ (p = 99 ∧ k = 109)) → R (some (.int 1)) c) : wc g (wp_X8_isPersonOf g) c [.int k, .int p] R X := by
  refine mk_X8_isPersonOf_0 ⟨fun z => H1 (Or.inl z), fun z1 => ⟨fun z => H1 (Or.inr (Or.inl z)), fun z2 => ⟨fun z3 => ⟨fun z => H1 (Or.inr (Or.inr ⟨z3, z⟩)), fun z => H0 (fun h => ?_)⟩, fun z3 => H0 (fun h => ?_)⟩⟩⟩
  · rcases h with h | h | h
    · exact z1 h
    · exact z2 h
    · exact z h.2
  · rcases h with h | h | h
    · exact z1 h
    · exact z2 h
    · exact z3 h.1
theorem c_rule (hq : q < 65536) (hp : qp < 65536) (s : sl c 0 0 0 a) (hC : CL c M) (w : wfM M t) : wc g (wp_X8_rule g) c [.ref a, .int (nI q), .int (nI qp), .int (bI b), .int x] (okC (spRule M (nI q) (nI qp) b x) c) (okX xAS (spRule M (nI q) (nI qp) b x) c) := by
  have b6 := w.2.1.1
  refine wc_cw fun hw => ?_
  have k := kd_ok hw s.1
  have bad : ¬ ruP (nI q) (nI qp) x → okX xAS (spRule M (nI q) (nI qp) b x) c "java/lang/IllegalArgumentException" c := fun h => lX (M := M) (y := 0) 0 (if_neg h) rfl kC_rfl hC
  refine mk_X8_rule_0 s (s_indexOf (t := 1) (by decide) (nI_pos (by omega)) ⟨_, rfl, fun z => bad (fun h => (ixF1 hq).mp z h.1), fun z1 => s_isPersonOf (fun h0 => ⟨_, rfl, fun _ => bad (fun h => h0 h.2.1), fun q => absurd rfl q⟩) (fun h1 => ⟨_, rfl, fun q => absurd q (by decide), fun _ => ⟨fun z => bad (fun h => h.2.2.1 z), fun z2 => ⟨fun z3 => ?_, fun z => bad (fun h => z h.2.2.2)⟩⟩⟩)⟩)
  have good : ruP (nI q) (nI qp) x := ⟨Classical.not_not.mp fun h => z1 ((ixF1 hq).mpr h), h1, z2, z3⟩
  have hC' := hC
  obtain ⟨d1, d2, ⟨r1, r2, r3, r4⟩, d4, d5, d6⟩ := hC'
  refine s_size ⟨k.2.1, rfl⟩ ⟨_, rfl, fun z4 => ?_, fun z4 => ?_⟩
  · rw [r1.1] at z4
    have hlt := (nI_ltI (b := 6) (by omega) (by omega)).mp z4
    have e1 : spRule M (nI q) (nI qp) b x = (0, nI (10 + mW M), sO M (mW M + 1) (upF (mO M) (mW M) (newO (nI q) (nI qp) x b))) := (if_pos good).trans (if_neg (by omega))
    obtain ⟨ov, ex⟩ := ruP_Ov (b := b) good
    have nb : narrow .boolean (.int (bI b)) = .int (bI b) ∧ fits .boolean (.int (bI b)) = true := ⟨nb_bI b, by cases b <;> rfl⟩
    refine s_newOwn (m := mW M) (r4 (mW M) (Nat.le_refl _)) (pk_charN hq) (pk_charN hp) nb (fun o => ⟨mW M, ⟨Or.inr ⟨rfl, rfl, rfl⟩, dW_a14⟩, ?_⟩)
    have hfe := fe_dW (c := c) (m := mW M) (a := o) (kd := nI q) (p := nI qp) (fst := bI b) (x := x)
    have v14 : cV (dW c (mW M) o (nI q) (nI qp) (bI b) x) 14 (mW M) 0 := Or.inr ⟨rfl, rfl, rfl⟩
    have a14 : cA (dW c (mW M) o (nI q) (nI qp) (bI b) x) 14 (mW M) 0 = o := dW_a14
    have e560 : cS (dW c (mW M) o (nI q) (nI qp) (bI b) x) 560 (mW M) 0 = nI q := dW_s560
    have e561 : cS (dW c (mW M) o (nI q) (nI qp) (bI b) x) 561 (mW M) 0 = 1 := dW_s561
    have e562 : cS (dW c (mW M) o (nI q) (nI qp) (bI b) x) 562 (mW M) 0 = 0 := dW_s562
    have e563 : cS (dW c (mW M) o (nI q) (nI qp) (bI b) x) 563 (mW M) 0 = nI qp := dW_s563
    have e564 : cS (dW c (mW M) o (nI q) (nI qp) (bI b) x) 564 (mW M) 0 = bI b := dW_s564
    have e565 : cS (dW c (mW M) o (nI q) (nI qp) (bI b) x) 565 (mW M) 0 = x := dW_s565
    have hA1 : cA (dW c (mW M) o (nI q) (nI qp) (bI b) x) 1 1 0 = cA c 1 1 0 := dW_A (by omega)
    refine wc_cw fun hw1 => ?_
    generalize dW c (mW M) o (nI q) (nI qp) (bI b) x = c1 at *
    refine s_findCex (j := (newO (nI q) (nI qp) x b).2.1) (w := (newO (nI q) (nI qp) x b).2.2.2.1) (fz := bI b) ⟨v14, a14⟩ (by rw [e560, e563, ← ex]; exact ov) e562 e564 (e565.trans ex) (fun d hd hcex => ⟨rfl, ?_⟩)
    rw [e560] at hcex
    have no : ∀ f i, f ≠ 562 → ¬ pO (mW M) f i := fun f i h z => h z.1
    have v11 : cV d 1 1 0 := by
      rw [hd.v (by omega)]
      exact (hfe.1 1 1 (by omega)).mpr k.2.1
    have row1 : ∀ f i, ¬ (i = mW M ∧ 560 ≤ f ∧ f ≤ 565) → f ≠ 720 → f ≠ 760 → ¬ (240 ≤ f ∧ f ≤ 243) → cS d f i = cS c f i := fun f i h1 h2 h3 h4 => (hd.r0 (fun z => h1 (by have z1 : f = 562 ∧ i = mW M := z; omega)) ⟨h2, h3, h4⟩).trans (hfe.2.2.2.2 f i (by omega))
    have n42 : cN d 42 1 = mW M := cN_nI (by rw [row1 42 1 (by omega) (by omega) (by omega) (by omega)]; exact r1.1) (by omega)
    have n80 : cN d 80 1 < 100 := by
      unfold cN at r2 ⊢
      rw [row1 80 1 (by omega) (by omega) (by omega) (by omega)]
      exact r2
    have ho : sl d 14 (mW M) 0 o := hd.slo ⟨v14, a14⟩
    have hel : elx d 1 o = mW M := (if_pos (by omega)).trans n42
    refine s_add (i := 1) ⟨v11, rfl⟩ (by rw [hel]; exact ho) (by rw [n42]; omega) n80 (fun p z hz => ⟨_, rfl, s_size ⟨Or.inl v11, rfl⟩ ⟨_, rfl, ?_⟩⟩)
    have hL := fe_dL (c := d) (i := 1) (b := o) (q := p) (z := z) (by omega)
    have e42 : cS (dL d 1 o p z) 42 1 0 = nI (mW M + 1) := by
      rw [dL_s42, row1 42 1 (by omega) (by omega) (by omega) (by omega), r1.1, nI_1]
    have row2 : ∀ f i j, 560 ≤ f ∧ f ≤ 565 → i ≠ mW M → cS (dL d 1 o p z) f i j = cS c f i j := fun f i j hf hi => (dL_S (by omega)).trans (by rw [row1 f i (by omega) (by omega) (by omega) (by omega)])
    have row3 : ∀ f, 560 ≤ f ∧ f ≤ 565 → f ≠ 562 → cS (dL d 1 o p z) f (mW M) 0 = cS c1 f (mW M) 0 := fun f hf hi => (dL_S (by omega)).trans (by rw [hd.r0 (no f _ hi) (by omega)])
    have vv : ∀ u, cV (dL d 1 o p z) 14 u 0 ↔ cV c 14 u 0 ∨ u = mW M := fun u => by
      rw [hL.1 14 u (by omega), hd.v (by omega)]
      by_cases hu : u = mW M
      · rw [hu]
        exact ⟨fun _ => Or.inr rfl, fun _ => v14⟩
      · rw [hfe.1 14 u (by omega)]
        exact ⟨Or.inl, fun h => h.elim id (fun h => absurd h hu)⟩
    refine lC e1 ?_ ((kC_fe hfe (fun f i z => by omega)).trans ((kC_frx hd (fun f i z => by have z1 : f = 562 ∧ i = mW M := z; omega)).trans (kC_fe hL (fun f i z => by omega)))) ⟨?_, ?_, ⟨⟨e42, by show mW M + 1 ≤ 6; omega, fun u hu => ?_⟩, ?_, fun u hu => ?_, fun u hu => ?_⟩, ?_, ?_, ?_⟩
    · rw [e42, show (10 : Int32) + nI (mW M + 1) = nI (10 + (mW M + 1)) from nI_add 10 _]
      exact pk_sub (b := 1) (by omega)
    · exact (hL.1 0 0 (by omega)).mpr (by rw [hd.v (by omega)]; exact (hfe.1 0 0 (by omega)).mpr d1)
    · have := CLR_fe hfe (fun k i z => by omega) (fun f i z => by unfold cdR; omega) d2
      have := CLR_x (X' := mX M) hd hw1 (w8 w) (fun f i hf z => no f i (by omega) z) (fun r hr hx hk => CRd_x hd hw1 (w8 w r hr) (fun f hf z => no f r (by unfold cdR at hf; omega) z) (fun z => no _ _ (by omega) z) (fun z => no _ _ (by omega) z) hx) this
      exact CLR_fe (M := sX M (mR M) (mX M)) hL (fun k i z => by omega) (fun f i z => by unfold cdR; omega) this
    · show Ov _ _ (upF (mO M) (mW M) (newO (nI q) (nI qp) x b) u).2.2.1 (nI (upF (mO M) (mW M) (newO (nI q) (nI qp) x b) u).2.2.2.1) (upF (mO M) (mW M) (newO (nI q) (nI qp) x b) u).2.1 (upF (mO M) (mW M) (newO (nI q) (nI qp) x b) u).2.2.2.1 ∧ _ = (upF (mO M) (mW M) (newO (nI q) (nI qp) x b) u).1 ∧ _ = (upF (mO M) (mW M) (newO (nI q) (nI qp) x b) u).2.2.1 ∧ _ = nI (upF (mO M) (mW M) (newO (nI q) (nI qp) x b) u).2.2.2.1 ∧ _ = bI (upF (mO M) (mW M) (newO (nI q) (nI qp) x b) u).2.2.2.2
      by_cases huu : u = mW M
      · rw [huu, upF_at, row3 560 (by omega) (by omega), row3 561 (by omega) (by omega), row3 563 (by omega) (by omega), row3 564 (by omega) (by omega), row3 565 (by omega) (by omega), e560, e561, e563, e564, e565, ← ex]
        exact ⟨ov, rfl, rfl, rfl, rfl⟩
      · have hu' : u < mW M + 1 := hu
        rw [upF_ne huu, row2 560 u 0 (by omega) huu, row2 561 u 0 (by omega) huu, row2 563 u 0 (by omega) huu, row2 564 u 0 (by omega) huu, row2 565 u 0 (by omega) huu]
        exact r1.2.2 u (by omega)
    · unfold cN
      rw [dL_s80, nI_clamp (by omega)]
      exact hz
    · show cV _ 14 u 0 ∧ _ = nI (cexO (upF (mO M) (mW M) (newO (nI q) (nI qp) x b) u))
      by_cases huu : u = mW M
      · rw [huu, upF_at, dL_S (by omega), hcex]
        exact ⟨(vv _).mpr (Or.inr rfl), rfl⟩
      · have hu' : u < mW M + 1 := hu
        rw [upF_ne huu, row2 562 u 0 (by omega) huu]
        exact ⟨(vv u).mpr (Or.inl (r3 u (by omega)).1), (r3 u (by omega)).2⟩
    · have hu' : mW M + 1 ≤ u := hu
      exact fun z => ((vv u).mp z).elim (r4 u (by omega)) (fun z => by omega)
    · exact CLI_fe hL (fun u z => by omega) (fun f i z => by omega) (CLI_x hd (fun f i hf z => no f i (by omega) z) (CLI_fe hfe (fun u z => by omega) (fun f i z => by omega) d4))
    · exact CLU_fe hL (fun u => ⟨fun z => by omega, fun z => by omega⟩) (fun f i z => by omega) (CLU_x hd (fun f i hf z => no f i (by omega) z) (CLU_fe hfe (fun u => ⟨fun z => by omega, fun z => by omega⟩) (fun f i z => by omega) d5))
    · show cP d 0 0 = _
      rw [hd.2.2.2.1, hfe.2.2.1]
      exact d6
  · rw [r1.1] at z4
    have : ¬ mW M < 6 := fun z => z4 (nI_lt (b := 6) z (by omega))
    exact lX (M := M) (y := 0) 1 ((if_pos good).trans (if_pos (by omega))) rfl kC_rfl hC
end
