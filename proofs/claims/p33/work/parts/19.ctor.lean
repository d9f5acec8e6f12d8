/-! constructors over states -/
section
variable {g : Nat → Nat} {c : cc_C} {R : Nat → cc_C → Prop}
theorem last_in (L : List Nat) (a : Nat) : a ∈ L ++ [a] := List.mem_append_right _ (List.mem_singleton.mpr rfl)
theorem ne_of_in {L : List Nat} {a b : Nat} (ha : a ∉ L) (hb : b ∈ L) : b ≠ a := fun e => ha (e ▸ hb)
theorem s_newClue {x0 x1 x2 x3 : Int32} (n0 : narrow .char (.int x0) = .int x0 ∧ fits .char (.int x0) = true) (H : ∀ a, ¬ cV c 6 a 0 → R a (dK c a x0 x1 x2 x3)) : wn g (wp_X0_init g) 3 [.int 0, .int 0, .int 0, .int 0] c [.int x0, .int x1, .int x2, .int x3] R := by
  intro L h R2 XP a cc ha hR
  have hm := last_in L a
  have hl : ∀ {n m : Nat}, Nat.ble (n + 1) m = true → n < m := fun h => Nat.le_of_ble_eq_true h
  refine bk_X0_init_0 ⟨n0, hm, _, up_at _ _ _, hl rfl, hm, _, up_at _ _ _, hl rfl, hm, _, up_at _ _ _, hl rfl, hm, _, up_at _ _ _, hl rfl, ⟨Nat.le_refl _, Nat.le_refl _⟩, ?_⟩
  have hc := CC_K (x0 := x0) (x1 := x1) (x2 := x2) (x3 := x3) cc ha (h' := va_up (va_up (va_up (va_up (va_up h a (.inr (3, [.int 0, .int 0, .int 0, .int 0]))) a (.inr (3, [.int x0, .int 0, .int 0, .int 0]))) a (.inr (3, [.int x0, .int x1, .int 0, .int 0]))) a (.inr (3, [.int x0, .int x1, .int x2, .int 0]))) a (.inr (3, [.int x0, .int x1, .int x2, .int x3]))) (fun b hb => by
    have := ne_of_in ha hb
    rw [up_ne this, up_ne this, up_ne this, up_ne this, up_ne this]) (up_at _ _ _)
  exact hR _ _ _ hc.1 (dK_le hc.2) (H a hc.2)
theorem s_newIssue {m : Nat} (w : ¬ cV c 15 m 0) (H : ∀ a, R a (dI c m a)) : wn g (wp_X2_init g) 5 [.int 0, .int 0] c [] R := by
  intro L h R2 XP a cc ha hR
  have hm := last_in L a
  have hl : ∀ {n m : Nat}, Nat.ble (n + 1) m = true → n < m := fun h => Nat.le_of_ble_eq_true h
  refine bk_X2_init_0 ⟨⟨rfl, rfl⟩, hm, _, up_at _ _ _, hl rfl, hm, _, up_at _ _ _, hl rfl, ⟨Nat.le_refl _, Nat.le_refl _⟩, ?_⟩
  have hc := CC_dI (m := m) (a := a) (h' := va_up (va_up (va_up h a (.inr (5, [.int 0, .int 0]))) a (.inr (5, [.int 109, .int 0]))) a (.inr (5, [.int 109, .int 0]))) cc (fun b hb => List.mem_append_left _ hb) (fun b hb => by
    have := ne_of_in ha hb
    rw [up_ne this, up_ne this, up_ne this]) ha hm (by
    rw [up_at]
    unfold ct15
    rw [dI_s600, dI_s601]) w
  exact hR _ _ _ hc (dI_le w) (H a)
theorem s_newCustomer {m : Nat} (w : ¬ cV c 16 m 0) (w2 : ¬ cV c 17 m 0) (H : ∀ a q, R a (dU c m a q)) : wn g (wp_X1_init g) 4 [.int 0, .int 0, .null] c [] R := by
  intro L h R2 XP a cc ha hR
  have hm := last_in L a
  have hl : ∀ {n m : Nat}, Nat.ble (n + 1) m = true → n < m := fun h => Nat.le_of_ble_eq_true h
  have h12 : ((12 : Int32)).toNatClampNeg = 12 := by decide
  refine bk_X1_init_0 ⟨hm, _, up_at _ _ _, hl rfl, hm, _, up_at _ _ _, hl rfl, by decide, by decide, by decide, by decide, fun q hq => ⟨List.mem_append_left _ hm, _, (up_ne (ne_of_in hq hm)).trans (up_at _ _ _), hl rfl, ⟨by decide, by decide⟩, ?_⟩⟩
  rw [h12]
  have hqa : q ≠ a := fun e => hq (e ▸ hm)
  have hqL : q ∉ L := fun e => hq (List.mem_append_left _ e)
  have hc := CC_dU (m := m) (a := a) (q := q) (h' := va_up (va_up (va_up (va_up (va_up h a (.inr (4, [.int 0, .int 0, .null]))) a (.inr (4, [.int 0, .int 0, .null]))) a (.inr (4, [.int 0, .int 0, .null]))) q (.inl (1, 12, .inl (fun _ => 0)))) a (.inr (4, [.int 0, .int 0, .ref q]))) (L' := L ++ [a] ++ [q]) cc (fun b hb => List.mem_append_left _ (List.mem_append_left _ hb)) (fun b hb => by
    have h1 := ne_of_in ha hb
    have h2 := ne_of_in hqL hb
    rw [up_ne h1, up_ne h2, up_ne h1, up_ne h1, up_ne h1]) ha (List.mem_append_left _ hm) (by
    rw [up_at]
    unfold ct16
    rw [dU_s640, dU_s641, dU_a17]) hqL (last_in _ _) (by
    rw [up_ne hqa, up_at]
    unfold ct17
    have : cS (dU c m a q) 680 m = fun _ => 0 := funext fun j => dU_s680
    rw [this]) hqa.symm w w2
  exact hR _ _ _ hc (dU_le w w2) (H a q)
theorem s_newOwn {m : Nat} {x0 x1 x2 x3 : Int32} (w : ¬ cV c 14 m 0) (n0 : narrow .char (.int x0) = .int x0 ∧ fits .char (.int x0) = true) (n1 : narrow .char (.int x1) = .int x1 ∧ fits .char (.int x1) = true) (n2 : narrow .boolean (.int x2) = .int x2 ∧ fits .boolean (.int x2) = true) (H : ∀ a, R a (dW c m a x0 x1 x2 x3)) : wn g (wp_X4_init g) 7 [.int 0, .int 0, .int 0, .int 0, .int 0, .int 0] c [.int x0, .int x1, .int x2, .int x3] R := by
  intro L h R2 XP a cc ha hR
  have hm := last_in L a
  have hl : ∀ {n m : Nat}, Nat.ble (n + 1) m = true → n < m := fun h => Nat.le_of_ble_eq_true h
  refine bk_X4_init_0 ⟨n0, hm, _, up_at _ _ _, hl rfl, n1, hm, _, up_at _ _ _, hl rfl, n2, hm, _, up_at _ _ _, hl rfl, hm, _, up_at _ _ _, hl rfl, ⟨rfl, rfl⟩, hm, _, up_at _ _ _, hl rfl, hm, _, up_at _ _ _, hl rfl, ⟨Nat.le_refl _, Nat.le_refl _⟩, ?_⟩
  refine hR _ _ _ (CC_dW (m := m) (a := a) (kd := x0) (p := x1) (fst := x2) (x := x3) cc (fun b hb => List.mem_append_left _ hb) (fun b hb => ?_) ha hm ?_ w) (dW_le w) (H a)
  · have := ne_of_in ha hb
    rw [up_ne this, up_ne this, up_ne this, up_ne this, up_ne this, up_ne this, up_ne this]
  · rw [up_at]
    unfold ct14
    rw [dW_s560, dW_s561, dW_s562, dW_s563, dW_s564, dW_s565]
    rfl
end
