/-! refused calls leave all as it was -/
section
variable {g : Nat → Nat} {c : cc_C} {M : cc_M} {R : Option Value → cc_C → Prop} {X : String → cc_C → Prop} {a t : Nat}
theorem ixo_n5 {n : Nat} {x : Int32} (h : nI n ≤ x) : ixo n x = none := ixo_no (Or.inr h)
theorem r_riddle (s : sl c 0 0 0 a) (hC : CL c M) (w : wfM M t) (H : ∀ d, pS a M d → R (some (.int (-78))) d) : wc g (wp_L_riddle g) c [.ref a, .int 9] R X := by
  have e : spRiddle M 9 = (1, 0, M) := if_pos (Or.inr (by decide))
  refine lX_riddle s hC w (fun d hd => ?_)
  rw [e] at hd ⊢
  exact H d hd
theorem r_clue (s : sl c 0 0 0 a) (hC : CL c M) (h : lI M t) (H : ∀ d, pS a M d → R (some (.int (-77))) d) : wc g (wp_L_clue g) c [.ref a, .int 9, .int 112, .int 0, .int 0, .int 0] R X := by
  have e : spClue M 9 (nI 112) 0 0 0 = (1, 0, M) := by
    unfold spClue
    rw [ixo_n5 (by rw [h.2.2.1]; decide)]
    rfl
  refine lX_clue (q := 112) (by decide) s hC h.1 (fun d hd => ?_)
  rw [e] at hd ⊢
  exact H d hd
theorem r_prove (s : sl c 0 0 0 a) (hC : CL c M) (h : lI M t) (H : ∀ d, pS a M d → R (some (.int (-77))) d) : wc g (wp_L_prove g) c [.ref a, .int (-1)] R X := by
  have e : spProve M (-1) = (1, 0, M) := by
    unfold spProve
    rw [ixo_no (Or.inl (by decide))]
    rfl
  refine lX_prove s hC h.1 (fun d hd => ?_)
  rw [e] at hd ⊢
  exact H d hd
theorem r_answer (s : sl c 0 0 0 a) (hC : CL c M) (h : lI M t) (H : ∀ d, pS a M d → R (some (.int (-77))) d) : wc g (wp_L_answer g) c [.ref a, .int 0, .int 6] R X := by
  have h6 := (h.1.1.2 0 (by rw [h.2.2.1]; decide)).1.2.1
  have e : spAns M (nI 0) 6 = (1, 0, M) := by
    unfold spAns
    rw [ixo_at (by rw [h.2.2.1]; decide) (by rw [h.2.2.1]; decide)]
    show ixm (ixo (rdN (mX M 0)) 6) M _ = _
    have e6 : ixo (rdN (mX M 0)) 6 = none := ixo_n5 (nI_le (b := 6) h6 (by omega))
    rw [e6]
    rfl
  refine lX_answer s hC h.1 (fun d hd => ?_)
  rw [show spAns M 0 6 = (1, 0, M) from e] at hd ⊢
  exact H d hd
theorem r_rule (s : sl c 0 0 0 a) (hC : CL c M) (w : wfM M t) (H : ∀ d, pS a M d → R (some (.int (-78))) d) : wc g (wp_L_rule g) c [.ref a, .int 113, .int 97, .int 1, .int 1] R X := by
  have e : spRule M (nI 113) (nI 97) true 1 = (1, 0, M) := by
    unfold spRule
    refine if_neg (fun q => ?_)
    rcases q.1 with z | z | z | z <;> exact absurd z (by decide)
  refine lX_rule (q := 113) (qp := 97) (b := true) (by decide) (by decide) s hC w (fun d hd => ?_)
  rw [e] at hd ⊢
  exact H d hd
theorem r_fall (s : sl c 0 0 0 a) (hC : CL c M) (w : wfM M t) (H : ∀ d, pS a M d → R (some (.int (-77))) d) : wc g (wp_L_fall g) c [.ref a, .int 9] R X := by
  have e : spFall M 9 = (1, 0, M) := by
    unfold spFall
    rw [ixw_no (Or.inl (by decide))]
    rfl
  refine lX_fall s hC w (fun d hd => ?_)
  rw [e] at hd ⊢
  exact H d hd
theorem ixo_12 (w : wfM M t) : ixo (mI M) 12 = none := ixo_n5 (nI_le (b := 12) w.2.2.1.1 (by omega))
theorem r_put (s : sl c 0 0 0 a) (hC : CL c M) (w : wfM M t) (H : ∀ d, pS a M d → R (some (.int (-77))) d) : wc g (wp_L_put g) c [.ref a, .int 12, .int 0] R X := by
  have e : spPut M 12 0 = (1, 0, M) := by
    unfold spPut
    rw [ixo_12 w]
    rfl
  refine lX_put s hC w (fun d hd => ?_)
  rw [e] at hd ⊢
  exact H d hd
theorem r_publish (s : sl c 0 0 0 a) (hC : CL c M) (w : wfM M t) (H : ∀ d, pS a M d → R (some (.int (-77))) d) : wc g (wp_L_publish g) c [.ref a, .int 12, .int 0] R X := by
  have e : spPub M 12 0 = (1, 0, M) := by
    unfold spPub
    rw [ixo_12 w]
    rfl
  refine lX_publish s hC w (fun d hd => ?_)
  rw [e] at hd ⊢
  exact H d hd
theorem r_deposit (s : sl c 0 0 0 a) (hC : CL c M) (h : lI M t) (H : ∀ d, pS a M d → R (some (.int (-78))) d) : wc g (wp_L_deposit g) c [.ref a, .int 0, .int 0] R X := by
  have e : spDep M (nI 0) 0 = (2, 0, M) := by
    unfold spDep
    rw [ixo_at (by rw [h.2.2.2.1]; decide) (by rw [h.2.2.2.1]; decide)]
    rfl
  refine lX_deposit s hC h.1 (fun d hd => ?_)
  rw [show spDep M 0 0 = (2, 0, M) from e] at hd ⊢
  exact H d hd
theorem r_subscribe (s : sl c 0 0 0 a) (hC : CL c M) (h : lI M t) (H : ∀ d, pS a M d → R (some (.int (-77))) d) : wc g (wp_L_subscribe g) c [.ref a, .int 3, .int 1] R X := by
  have e : spSub M 3 1 = (1, 0, M) := by
    unfold spSub
    rw [ixo_n5 (by rw [h.2.2.2.1]; decide)]
    rfl
  refine lX_subscribe s hC h.1 (fun d hd => ?_)
  rw [e] at hd ⊢
  exact H d hd
theorem r_buy (s : sl c 0 0 0 a) (hC : CL c M) (h : lI M t) (H : ∀ d, pS a M d → R (some (.int (-77))) d) : wc g (wp_L_buy g) c [.ref a, .int 0, .int 12] R X := by
  have e : spBuy M (nI 0) 12 = (1, 0, M) := by
    unfold spBuy
    rw [ixo_at (by rw [h.2.2.2.1]; decide) (by rw [h.2.2.2.1]; decide)]
    show ixm (ixo (mI M) 12) M _ = _
    rw [ixo_12 h.1]
    rfl
  refine lX_buy s hC h.1 (fun d hd => ?_)
  rw [show spBuy M 0 12 = (1, 0, M) from e] at hd ⊢
  exact H d hd
theorem lg_self (x : Int64) : lg_cmp x x = 0 := by
  unfold lg_cmp
  rw [if_neg (fun h => absurd h (Int64.lt_irrefl)), if_pos rfl]
theorem l_isThrown (s : sl c 0 0 0 a) (hC : CL c M) (h : lI M t) (H : ∀ d, pS a M d → R (some (.int 1)) d) : wc g (wp_L_isThrown g) c [.ref a] R X := by
  have hh := h
  obtain ⟨w, gg, h5, hU, hW⟩ := h
  have no : ∀ {P : Prop} {x : Int32}, ¬ x = x → P := fun q => absurd rfl q
  refine mk_L_isThrown_0 s (c_press s hC ⟨_, rfl, q_credits (q := 1) s hC w (by omega) (fun d1 p1 => ⟨_, rfl, q_state (r := 0) p1.1 p1.2 w (by omega) (fun d2 p2 => ⟨_, rfl, ?_⟩)⟩)⟩)
  refine r_riddle p2.1 p2.2 w (fun d p => ⟨_, rfl, fun _ => ?_, no⟩)
  refine r_clue p.1 p.2 hh (fun d p => ⟨_, rfl, fun _ => ?_, no⟩)
  refine r_prove p.1 p.2 hh (fun d p => ⟨_, rfl, fun _ => ?_, no⟩)
  refine r_answer p.1 p.2 hh (fun d p => ⟨_, rfl, fun _ => ?_, no⟩)
  refine r_rule p.1 p.2 w (fun d p => ⟨_, rfl, fun _ => ?_, no⟩)
  refine r_fall p.1 p.2 w (fun d p => ⟨_, rfl, fun _ => ?_, no⟩)
  refine r_put p.1 p.2 w (fun d p => ⟨_, rfl, fun _ => ?_, no⟩)
  refine r_publish p.1 p.2 w (fun d p => ⟨_, rfl, fun _ => ?_, no⟩)
  refine r_deposit p.1 p.2 hh (fun d p => ⟨_, rfl, fun _ => ?_, no⟩)
  refine r_subscribe p.1 p.2 hh (fun d p => ⟨_, rfl, fun _ => ?_, no⟩)
  refine r_buy p.1 p.2 hh (fun d p => ⟨_, rfl, fun _ => ?_, no⟩)
  exact c_press p.1 p.2 ⟨_, rfl, fun _ => q_credits (q := 1) p.1 p.2 w (by omega) (fun d1 p1 => ⟨_, rfl, fun _ => q_state (r := 0) p1.1 p1.2 w (by omega) (fun d2 p2 => ⟨_, rfl, fun _ => H d2 p2, no⟩), no⟩), fun q => absurd (lg_self _) q⟩
end
