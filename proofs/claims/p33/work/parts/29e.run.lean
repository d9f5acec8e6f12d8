section
variable {g : Nat → Nat} {R : Option Value → cc_C → Prop} {X : String → cc_C → Prop}
theorem s_lose {c : cc_C} {r e : Nat} (s : sl c 7 r 0 e) (H : ∀ d, fr (fun f i => i = r ∧ (f = 283 ∨ f = 284 ∨ f = 286)) c d → cS d 283 r 0 = 0 → cS d 284 r 0 = 45 → cS d 286 r 0 = 0 → R none d) : wc g (wp_X6_lose g) c [.ref e] R X := by
  refine mk_X6_lose_0 s (H _ (((fr_rfl.set ?_).set ?_).set ?_) ?_ ?_ ?_)
  · exact ⟨rfl, by omega⟩
  · exact ⟨rfl, by omega⟩
  · exact ⟨rfl, by omega⟩
  · rw [cS_f (by decide), cS_f (by decide), cS_at]
  · rw [cS_f (by decide), cS_at]
  · rw [cS_at]
/-- the end of a proof in the class: the outcome's sign -/
def outS (m : Nat → Nat) (n : Nat) : Int32 := if eE m n = true then 102 else if wE m n = true then 119 else 110
def pMk (r f i : Nat) : Prop := i = r ∧ (f = 480 ∨ f = 283 ∨ f = 284 ∨ f = 320 ∨ f = 360 ∨ f = 400 ∨ f = 286)
theorem s_outcome {c0 c : cc_C} {r n : Nat} {m : Nat → Nat} (hf : fr (pMk r) c0 c) (v : cV c 11 r 0) (hs : seR c r n m) (H : ∀ d, fr (pMk r) c0 d → cS d 284 r 0 = outS m n → (∀ f, f ≠ 284 → cS d f r = cS c f r) → R none d) : wc g (wp_X5_isSomeoneWithout g) c [.ref (cA c 11 r 0)] (fun v25 c2 => ∃ x7 : Int32, v25 = some (.int x7) ∧ ((x7 = 0 → wc g (wp_X5_hasEachOne g) c2 [.ref (cA c2 11 r 0)] (fun v20 c9 => ∃ x14 : Int32, v20 = some (.int x14) ∧ ((x14 = 0 → R none (cset c9 284 r 0 (110))) ∧ (¬ x14 = 0 → R none (cset c9 284 r 0 (119))))) X) ∧ (¬ x7 = 0 → R none (cset c2 284 r 0 (102))))) X := by
  have fin : ∀ x, x = outS m n → R none (cset c 284 r 0 x) := fun x hx => H _ (hf.set ⟨rfl, by omega⟩) ((cS_at _ _ _ _ _).trans hx) (fun f hne => cS_fn (fun q => hne q.1))
  refine s_isSomeoneWithout ⟨v, rfl⟩ hs ⟨_, rfl, fun q => ?_, fun q => fin _ ?_⟩
  · have he : eE m n = false := by
      cases h : eE m n with
      | false => rfl
      | true => rw [h] at q; exact absurd q (by decide)
    refine s_hasEachOne ⟨v, rfl⟩ hs ⟨_, rfl, fun q2 => fin _ ?_, fun q2 => fin _ ?_⟩
    · have hw : wE m n = false := by
        cases h : wE m n with
        | false => rfl
        | true => rw [h] at q2; exact absurd q2 (by decide)
      unfold outS
      rw [he, hw]
      rfl
    · have hw : wE m n = true := by
        cases h : wE m n with
        | true => rfl
        | false => rw [h] at q2; exact absurd rfl q2
      unfold outS
      rw [he, hw]
      rfl
  · have he : eE m n = true := by
      cases h : eE m n with
      | true => rfl
      | false => rw [h] at q; exact absurd rfl q
    unfold outS
    rw [he]
    rfl
end
