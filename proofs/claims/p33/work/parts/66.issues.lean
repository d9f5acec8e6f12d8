/-! the law looks at the issues -/
theorem ixC_le1 {M : cc_M} {ru : Nat} : ∀ k, ixC M ru k ≤ k
  | 0 => Nat.le_refl _
  | k + 1 => by
    have := ixC_le1 (M := M) (ru := ru) k
    show ixC M ru k + (if onS M ru k = true then 1 else 0) ≤ k + 1
    split <;> omega
section
variable {g : Nat → Nat} {c : cc_C} {M : cc_M} {R : Option Value → cc_C → Prop} {X : String → cc_C → Prop} {a t : Nat}
theorem is_144 (h : lI M t) (H : ∀ d, pS a M d → R (some (.int 1)) d) {a2 : Int32} {o4 o5 : Option Value} : ∀ (m j : Nat) (d : cc_C) (k n : Nat), j + m = 10 → pS a M d → k ≤ 28 + 3 * j → n ≤ 168 + 18 * j → ec g tb_L_areIssues 144 [some (.ref a), some (.int 1), some (.int a2), some (.int (nI j)), o4, o5] [] k n d R X := by
  obtain ⟨w, gg, h5, hU, hW⟩ := h
  have h12 := w.2.2.1.1
  intro m
  induction m with
  | zero =>
    intro j d k n hj pd hk hn
    have ej : j = 10 := by omega
    subst ej
    have hx := ixC_le1 (M := M) (ru := 0) (mI M)
    exact mk_L_areIssues_144 pd.1 ⟨fun _ => ⟨fun q => absurd q (by decide), fun _ => ⟨fun _ => ⟨⟨by omega, by omega⟩, H d pd⟩, fun _ => ⟨⟨by omega, by omega⟩, q_indexed (u := 0) pd.1 pd.2 w (by omega) (fun d1 p1 => ⟨_, rfl, fun q => absurd q (nI_nlt (a := 12) (by omega) (by omega)), fun _ => ⟨⟨by omega, by omega⟩, H d1 p1⟩⟩)⟩⟩⟩, fun q => absurd (by decide) q⟩
  | succ m ih =>
    intro j d k n hj pd hk hn
    have hx := ixC_le1 (M := M) (ru := j) (mI M)
    refine mk_L_areIssues_144 pd.1 ⟨fun q => absurd q (nI_ge (a := j) (b := 10) (by omega) (by omega)), fun _ => ⟨⟨by omega, by omega⟩, q_indexed pd.1 pd.2 w (by omega) (fun d1 p1 => ⟨_, rfl, fun q => absurd q (nI_pos (by omega)), fun _ => ⟨⟨by omega, by omega⟩, q_stands p1.1 p1.2 w (by omega) (fun d2 p2 => ⟨_, rfl, fun _ => ?_, fun q => absurd ?_ q⟩)⟩⟩)⟩⟩
    · rw [and11, nI_1]
      exact ih (j + 1) d2 _ _ (by omega) p2 (by omega) (by omega)
    · rw [decide_eq_true (by omega : j < 10)]
      rfl
theorem is_72 (h : lI M t) {i : Nat} (hi : i < 4) {a2 : Int32} (nx : ∀ (d : cc_C) (o4 o5 : Option Value) (k n : Nat), pS a M d → k ≤ 7 * (i + 1) → n ≤ 42 * (i + 1) → ec g tb_L_areIssues 6 [some (.ref a), some (.int 1), some (.int a2), some (.int (nI (i + 1))), o4, o5] [] k n d R X) : ∀ (m q : Nat) (d : cc_C) (k n : Nat), q + m = 3 → pS a M d → k ≤ 7 * i + 1 + 2 * q → n ≤ 42 * i + 6 + 12 * q → ec g tb_L_areIssues 72 [some (.ref a), some (.int 1), some (.int a2), some (.int (nI i)), some (.int (isV M i)), some (.int (nI q))] [] k n d R X := by
  obtain ⟨w, gg, h5, hU, hW⟩ := h
  intro m
  induction m with
  | zero =>
    intro q d k n hq pd hk hn
    have eq : q = 3 := by omega
    subst eq
    refine mk_L_areIssues_72 pd.1 ⟨fun _ => ?_, fun q => absurd (by decide) q⟩
    rw [nI_1]
    exact nx d _ _ _ _ pd (by omega) (by omega)
  | succ m ih =>
    intro q d k n hq pd hk hn
    refine mk_L_areIssues_72 pd.1 ⟨fun z => absurd z (nI_ge (a := q) (b := 3) (by omega) (by omega)), fun _ => ⟨fun q0 => ⟨⟨by omega, by omega⟩, q_has pd.1 pd.2 w (by omega) (by omega) (fun d1 p1 => ⟨_, rfl, fun _ => ?_, fun q2 => absurd ?_ q2⟩)⟩, fun q0 => ⟨⟨by omega, by omega⟩, q_has pd.1 pd.2 w (by omega) (by omega) (fun d1 p1 => ⟨_, rfl, fun _ => ?_, fun q2 => ⟨fun q3 => absurd q3 ?_, fun _ => ?_⟩⟩)⟩⟩⟩
    · rw [and11, nI_1]
      exact ih (q + 1) d1 _ _ (by omega) p1 (by omega) (by omega)
    · unfold isV at q0
      unfold haV
      by_cases e : i < mI M
      · rw [if_pos e] at q0
        rcases (w.2.2.1.2 i e).1 with z | z | z <;> rw [z] at q0 <;> exact absurd q0 (by decide)
      · rw [if_neg e]
    · rw [and11, nI_1]
      exact ih (q + 1) d1 _ _ (by omega) p1 (by omega) (by omega)
    · unfold isV at q0 ⊢
      unfold haV at q2
      by_cases e : i < mI M
      · rw [if_pos e] at q2 ⊢
        have : (mV M q).2.2 i = true := by
          cases b : (mV M q).2.2 i with
          | true => rfl
          | false => rw [b] at q2; exact absurd rfl q2
        exact (gg.2 q (by omega) i this).2
      · rw [if_neg e] at q0
        exact absurd rfl q0
    · rw [and11, nI_1]
      exact ih (q + 1) d1 _ _ (by omega) p1 (by omega) (by omega)
theorem is_6 (h : lI M t) (H : ∀ d, pS a M d → R (some (.int 1)) d) : ∀ (m i : Nat) (a2 : Int32) (o4 o5 : Option Value) (d : cc_C) (k n : Nat), i + m = 4 → pS a M d → k ≤ 7 * i → n ≤ 42 * i → ec g tb_L_areIssues 6 [some (.ref a), some (.int 1), some (.int a2), some (.int (nI i)), o4, o5] [] k n d R X := by
  have hh := h
  obtain ⟨w, gg, h5, hU, hW⟩ := h
  intro m
  induction m with
  | zero =>
    intro i a2 o4 o5 d k n hi pd hk hn
    have ei : i = 4 := by omega
    subst ei
    exact mk_L_areIssues_6 pd.1 ⟨fun _ => is_144 hh H 10 0 d k n (by omega) pd (by omega) (by omega), fun q => absurd (by decide) q⟩
  | succ m ih =>
    intro i a2 o4 o5 d k n hi pd hk hn
    have L72 : ∀ (z : Int32) (d : cc_C) (k n : Nat), pS a M d → k ≤ 7 * i + 1 → n ≤ 42 * i + 6 → ec g tb_L_areIssues 72 [some (.ref a), some (.int ((1 : Int32) &&& 1)), some (.int z), some (.int (nI i)), some (.int (isV M i)), some (.int 0)] [] k n d R X := fun z d k n p hk hn => by
      rw [and11]
      exact is_72 hh (by omega) (fun d o4 o5 k n p hk hn => ih (i + 1) z o4 o5 d k n (by omega) p hk hn) 3 0 d k n (by omega) p (by omega) (by omega)
    refine mk_L_areIssues_6 pd.1 ⟨fun z => absurd z (nI_ge (a := i) (b := 4) (by omega) (by omega)), fun _ => ⟨⟨by omega, by omega⟩, q_issueState pd.1 pd.2 w (by omega) (fun d1 p1 => ⟨_, rfl, ?_⟩)⟩⟩
    refine ⟨fun _ => ⟨fun _ => L72 _ d1 _ _ p1 (by omega) (by omega), fun _ => L72 _ d1 _ _ p1 (by omega) (by omega)⟩, fun z1 => ⟨fun _ => ⟨fun _ => L72 _ d1 _ _ p1 (by omega) (by omega), fun _ => L72 _ d1 _ _ p1 (by omega) (by omega)⟩, fun z2 => ⟨fun _ => ⟨fun _ => L72 _ d1 _ _ p1 (by omega) (by omega), fun _ => L72 _ d1 _ _ p1 (by omega) (by omega)⟩, fun z3 => ⟨fun _ => ⟨fun _ => L72 _ d1 _ _ p1 (by omega) (by omega), fun _ => L72 _ d1 _ _ p1 (by omega) (by omega)⟩, fun z4 => ?_⟩⟩⟩⟩
    exfalso
    unfold isV at z1 z2 z3 z4
    by_cases e : i < mI M
    · rw [if_pos e] at z2 z3 z4
      rcases (w.2.2.1.2 i e).1 with z | z | z
      · exact z2 z
      · exact z3 z
      · exact z4 z
    · rw [if_neg e] at z1
      exact z1 rfl
theorem l_areIssues (s : sl c 0 0 0 a) (hC : CL c M) (h : lI M t) (H : ∀ d, pS a M d → R (some (.int 1)) d) : wc g (wp_L_areIssues g) c [.ref a] R X :=
  mk_L_areIssues_0 s (is_6 h H 4 0 _ _ _ c 0 0 (by omega) ⟨s, hC⟩ (by omega) (by omega))
end
