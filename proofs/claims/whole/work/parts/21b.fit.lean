section
variable {g : Nat → Nat} {c : cc_C} {R : Option Value → cc_C → Prop} {X : String → cc_C → Prop}
theorem m_fits54 {a t n pa pb : Nat} {l : List Nat} {o3 : Option Value} (s : sl c 21 0 0 a) (ht : t < 160) (hn : n ≤ 6) (hr : Rp n (ofL l) (cS c 880 26)) (hp : ∀ k, k < n → ofL l k < n) (hpa : pa < 6) (hpb : pb < 6) (hk : cS c 880 6 t = 98 ∨ cS c 880 6 t = 110 ∨ cS c 880 6 t = 108 ∨ (cS c 880 6 t = 100 ∧ ∃ cc, cS c 880 9 t = nI cc ∧ 1 ≤ cc ∧ cc ≤ 5) ∨ (cS c 880 6 t = 109 ∧ ∃ cc, cS c 880 9 t = nI cc ∧ cc < n) ∨ cS c 880 6 t = 112 ∨ cS c 880 6 t = 120) (H : R (some (.int (bI (fitZ (cS c 880 6 t) pa pb (ofL l (cS c 880 9 t).toNatClampNeg) pb (cS c 880 9 t).toNatClampNeg)))) c) : ec g tb_X9_fits 54 [some (.ref a), some (.int (nI t)), some (.int (nI pa)), o3] [.int (nI pb)] 0 0 c R X := by
  have vt := vp_in_nI ht (by omega)
  refine mk_X9_fits_54 s ⟨vt, ?_⟩
  rw [nI_clamp (by omega)]
  generalize hkk : cS c 880 6 t = k at *
  rcases hk with rfl | rfl | rfl | ⟨rfl, cc, exc, hc1, hc2⟩ | ⟨rfl, cc, exc, hc⟩ | rfl | rfl
  · refine ⟨fun _ => ?_, fun e => absurd rfl e⟩
    exact bI_n (P := fun x => R (some (.int x)) c) ((nI_leI (by omega) (by omega)).trans (dec_f (by omega))) H
  · refine ⟨fun e => absurd e (by decide), fun _ => ⟨fun e => absurd e (by decide), fun _ => ⟨fun e => absurd e (by decide), fun _ => ⟨fun _ => ?_, fun e => absurd rfl e⟩⟩⟩⟩
    have H' : R (some (.int (bI (decide (pa = pb + 1 ∨ pb = pa + 1))))) c := H
    refine ⟨fun e => ?_, fun e => ?_⟩
    · have := (sub_is (c := 1) hpa hpb (by omega)).mp e
      rw [decide_eq_true (by omega)] at H'
      exact H'
    · have h1 : ¬ pa = pb + 1 := fun q => e ((sub_is (c := 1) hpa hpb (by omega)).mpr q)
      exact bI_c (P := fun x => R (some (.int x)) c) ((sub_is (c := 1) hpb hpa (by omega)).trans (Iff.trans (by omega) dec_t)) H'
  · refine ⟨fun e => absurd e (by decide), fun _ => ⟨fun e => absurd e (by decide), fun _ => ⟨fun _ => ?_, fun e => absurd rfl e⟩⟩⟩
    have H' : R (some (.int (bI (decide (pa + 1 = pb))))) c := H
    exact bI_c (P := fun x => R (some (.int x)) c) ((sub_is (c := 1) hpb hpa (by omega)).trans (Iff.trans (by omega) dec_t)) H'
  · refine ⟨fun e => absurd e (by decide), fun _ => ⟨fun _ => ⟨vt, ?_⟩, fun e => absurd rfl e⟩⟩
    rw [exc, nI_clamp (by omega)] at H
    rw [exc]
    have H' : R (some (.int (bI (decide (pa = pb + cc ∨ pb = pa + cc))))) c := H
    refine ⟨fun e => ?_, fun e => ⟨vt, ?_⟩⟩
    · have := (sub_is hpa hpb (by omega)).mp e
      rw [decide_eq_true (by omega)] at H'
      exact H'
    · have h1 : ¬ pa = pb + cc := fun q => e ((sub_is hpa hpb (by omega)).mpr q)
      exact bI_c (P := fun x => R (some (.int x)) c) ((sub_is hpb hpa (by omega)).trans (Iff.trans (by omega) dec_t)) H'
  · refine ⟨fun e => absurd e (by decide), fun _ => ⟨fun e => absurd e (by decide), fun _ => ⟨fun e => absurd e (by decide), fun _ => ⟨fun e => absurd e (by decide), fun _ => ⟨fun e => absurd e (by decide), fun _ => ⟨fun e => absurd e (by decide), fun _ => ⟨vt, ?_⟩⟩⟩⟩⟩⟩⟩
    rw [exc, nI_clamp (by omega)] at H
    have vc : vp_in (cS c 880 9 t) 6 := by
      rw [exc]
      exact vp_in_nI (by omega) (by omega)
    have h3 := hp cc hc
    have e3 : cS c 880 26 (cS c 880 9 t).toNatClampNeg = nI (ofL l cc) := by
      rw [exc, nI_clamp (by omega), hr cc hc]
    rw [e3]
    generalize hpc : ofL l cc = pc at *
    have H' : R (some (.int (bI (decide ((pa < pc ∧ pc < pb) ∨ (pb < pc ∧ pc < pa)))))) c := H
    have fin : ¬ (pa < pc ∧ pc < pb) → ec g tb_X9_fits 246 [some (.ref a), some (.int (nI t)), some (.int (nI pa)), some (.int (nI pb))] [] 0 0 c R X := by
      intro hno
      refine mk_X9_fits_246 s ⟨vt, ?_⟩
      rw [nI_clamp (by omega), e3]
      refine ⟨vc, fun e => ?_, fun e => ⟨vt, vc, ?_⟩⟩
      · have := (nI_leI (by omega) (by omega)).mp e
        rw [decide_eq_false (by omega)] at H'
        exact H'
      · have h1 : ¬ pc ≤ pb := fun q => e ((nI_leI (by omega) (by omega)).mpr q)
        exact bI_n (P := fun x => R (some (.int x)) c) ((nI_leI (by omega) (by omega)).trans (dec_f (by omega))) H'
    refine ⟨vc, fun e => fin ?_, fun e => ⟨vt, vc, fun e2 => ?_, fun e2 => fin ?_⟩⟩
    · have := (nI_leI (by omega) (by omega)).mp e
      omega
    · have h1 : ¬ pc ≤ pa := fun q => e ((nI_leI (by omega) (by omega)).mpr q)
      have := (nI_ltI (by omega) (by omega)).mp e2
      rw [decide_eq_true (by omega)] at H'
      exact H'
    · have h1 : ¬ pc < pb := fun q => e2 ((nI_ltI (by omega) (by omega)).mpr q)
      omega
  · refine ⟨fun e => absurd e (by decide), fun _ => ⟨fun e => absurd e (by decide), fun _ => ⟨fun e => absurd e (by decide), fun _ => ⟨fun e => absurd e (by decide), fun _ => ⟨fun _ => ?_, fun e => absurd rfl e⟩⟩⟩⟩⟩
    exact bI_c (P := fun x => R (some (.int x)) c) ((nI_eq (by omega) (by omega)).trans dec_t) H
  · refine ⟨fun e => absurd e (by decide), fun _ => ⟨fun e => absurd e (by decide), fun _ => ⟨fun e => absurd e (by decide), fun _ => ⟨fun e => absurd e (by decide), fun _ => ⟨fun e => absurd e (by decide), fun _ => ⟨fun _ => ?_, fun e => absurd rfl e⟩⟩⟩⟩⟩⟩
    exact bI_n (P := fun x => R (some (.int x)) c) ((nI_eq (by omega) (by omega)).trans (dec_f (by omega))) H
theorem m_fits {a t n : Nat} {x : Int32} {l : List Nat} (s : sl c 21 0 0 a) (hx : x = nI t) (ht : t < 160) (hn : n ≤ 6) (hr : Rp n (ofL l) (cS c 880 26)) (hp : ∀ k, k < n → ofL l k < n) (hk : Kv n (cS c 880 6 t) (cS c 880 7 t) (cS c 880 8 t) (cS c 880 9 t)) (H : R (some (.int (bI (fitI (cS c 880 6 t) (cS c 880 7 t) (cS c 880 8 t) (cS c 880 9 t) l)))) c) : wc g (wp_X9_fits g) c [.ref a, .int x] R X := by
  subst hx
  obtain ⟨⟨ia, ea, la⟩, ⟨ib, eb, lb⟩, hk⟩ := hk
  have vt := vp_in_nI ht (by omega)
  have h1 := hp ia la
  have h2 := hp ib lb
  unfold fitI at H
  rw [ea, eb, nI_clamp (by omega), nI_clamp (by omega)] at H
  refine mk_X9_fits_0 s ⟨vt, ?_⟩
  rw [nI_clamp (by omega), ea, eb, nI_clamp (by omega), nI_clamp (by omega), hr ia la, hr ib lb]
  have va := vp_in_nI (show ia < 6 by omega) (by omega)
  have vb := vp_in_nI (show ib < 6 by omega) (by omega)
  refine ⟨va, vt, fun e => mk_X9_fits_34 s ⟨vt, ?_⟩, fun e => ⟨vt, fun e2 => mk_X9_fits_34 s ⟨vt, ?_⟩, fun e2 => ⟨vt, vb, ?_⟩⟩⟩
  · rw [nI_clamp (by omega), eb]
    refine m_fits54 s ht hn hr hp (by omega) (by omega) (by rw [e]; exact Or.inr (Or.inr (Or.inr (Or.inr (Or.inr (Or.inl rfl)))))) ?_
    rw [e] at H ⊢
    exact H
  · rw [nI_clamp (by omega), eb]
    refine m_fits54 s ht hn hr hp (by omega) (by omega) (by rw [e2]; exact Or.inr (Or.inr (Or.inr (Or.inr (Or.inr (Or.inr rfl)))))) ?_
    rw [e2] at H ⊢
    exact H
  · have e1 : fitZ (cS c 880 6 t) (ofL l ia) (ofL l ib) (ofL l (cS c 880 9 t).toNatClampNeg) ib (cS c 880 9 t).toNatClampNeg = fitZ (cS c 880 6 t) (ofL l ia) (ofL l ib) (ofL l (cS c 880 9 t).toNatClampNeg) (ofL l ib) (cS c 880 9 t).toNatClampNeg := by
      unfold fitZ
      rw [if_neg e, if_neg e2, if_neg e, if_neg e2]
    rw [e1] at H
    refine m_fits54 s ht hn hr hp (by omega) (by omega) ?_ H
    rcases hk with q | q | q | q | q | q | q
    · exact absurd q e
    · exact absurd q e2
    · exact Or.inl q
    · exact Or.inr (Or.inl q)
    · exact Or.inr (Or.inr (Or.inl q))
    · exact Or.inr (Or.inr (Or.inr (Or.inl q)))
    · exact Or.inr (Or.inr (Or.inr (Or.inr (Or.inl q))))
end
