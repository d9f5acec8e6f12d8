/-! a proof made anew looks at its own clues alone; what holds of its steps -/
theorem scR_congr {f f' : Nat → cc_Ef} : ∀ {d i : Nat}, (∀ e, i ≤ e → e < i + d → f e = f' e) → scR f d i = scR f' d i
  | 0, _, _ => rfl
  | d + 1, i, h => by
    rw [scR_s, scR_s, h i (Nat.le_refl i) (by omega), scR_congr (f := f) (f' := f') (fun e h1 h2 => h e (by omega) (by omega))]
section
variable {K K' : cc_K} {O : cc_O} {n nc nO : Nat}
theorem clK_congr {e : Nat} (h : K e = K' e) (ru : Nat) (m : Nat → Nat) : clK K ru m e = clK K' ru m e := by
  unfold clK
  rw [h]
theorem owK_congr {e : Nat} (h : K e = K' e) (u : Nat) (m : Nat → Nat) : owK K O n u m e = owK K' O n u m e := by
  unfold owK
  rw [h]
theorem clS_congr (h : ∀ e, e < nc → K e = K' e) (m : Nat → Nat) : ∀ d ru, clS K nc m d ru = clS K' nc m d ru
  | 0, _ => rfl
  | d + 1, ru => by
    show orE (tag ru (scR (clK K ru m) nc 0)) (clS K nc m d (ru + 1)) = orE (tag ru (scR (clK K' ru m) nc 0)) (clS K' nc m d (ru + 1))
    rw [scR_congr (f := clK K ru m) (f' := clK K' ru m) (fun e _ h2 => clK_congr (h e (by omega)) ru m), clS_congr h m d (ru + 1)]
theorem owS_congr (h : ∀ e, e < nc → K e = K' e) (m : Nat → Nat) : ∀ d u, owS K O n nc m d u = owS K' O n nc m d u
  | 0, _ => rfl
  | d + 1, u => by
    show orE (if (O u).2.2.2.2 then tag (10 + u) (scR (owK K O n u m) nc 0) else none) (owS K O n nc m d (u + 1)) = orE (if (O u).2.2.2.2 then tag (10 + u) (scR (owK K' O n u m) nc 0) else none) (owS K' O n nc m d (u + 1))
    rw [scR_congr (f := owK K O n u m) (f' := owK K' O n u m) (fun e _ h2 => owK_congr (h e (by omega)) u m), owS_congr h m d (u + 1)]
theorem stpS_congr (h : ∀ e, e < nc → K e = K' e) (m : Nat → Nat) : stpS K O n nc nO m = stpS K' O n nc nO m := by
  unfold stpS
  rw [clS_congr h m 7 0, owS_congr h m nO 0]
theorem rnS_congr (h : ∀ e, e < nc → K e = K' e) : ∀ d m k S, rnS K O n nc nO d m k S = rnS K' O n nc nO d m k S
  | 0, _, _, _ => rfl
  | d + 1, m, k, S => by
    unfold rnS
    rw [stpS_congr h m]
    cases stpS K' O n nc nO m with
    | none => rfl
    | some t =>
      obtain ⟨ru, ca, x⟩ := t
      show (if eE x.1 n = true then _ else rnS K O n nc nO d x.1 (k + 1) _) = (if eE x.1 n = true then _ else rnS K' O n nc nO d x.1 (k + 1) _)
      rw [rnS_congr h d x.1 (k + 1)]
theorem prf_congr (h : ∀ e, e < nc → K e = K' e) : prf K O n nc nO = prf K' O n nc nO := rnS_congr h 36 _ _ _
theorem fitK_congr {e : Nat} (h : K e = K' e) (l : List Nat) : fitK K e l = fitK K' e l := by
  unfold fitK
  rw [h]
theorem aF_congr {l : List Nat} : ∀ {i : Nat}, (∀ e, e < i → K e = K' e) → aF K l i = aF K' l i
  | 0, _ => rfl
  | i + 1, h => by
    show (aF K l i && fitK K i l) = (aF K' l i && fitK K' i l)
    rw [aF_congr (i := i) (fun e he => h e (by omega)), fitK_congr (h i (by omega)) l]
theorem rnS_ok (hn : n ≤ 6) (hK : ∀ e, e < nc → KvK n K e) (hO : okO nO O) : ∀ d m k S, (∀ i, m i < 64) → (∀ i, i < k → (S i).1 < 16) → (∀ i, i < (rnS K O n nc nO d m k S).2.1 → ((rnS K O n nc nO d m k S).2.2 i).1 < 16) ∧ (rnS K O n nc nO d m k S).2.1 ≤ k + d
  | 0, m, k, S, _, hS => ⟨hS, Nat.le_refl k⟩
  | d + 1, m, k, S, hm, hS => by
    have er : rnS K O n nc nO (d + 1) m k S = match stpS K O n nc nO m with
      | none => (m, k, S)
      | some (ru, ca, x) => if eE x.1 n = true then (x.1, k + 1, puS S k (ru, ca, x.2)) else rnS K O n nc nO d x.1 (k + 1) (puS S k (ru, ca, x.2)) := rfl
    cases h : stpS K O n nc nO m with
    | none =>
      rw [h] at er
      rw [er]
      exact ⟨hS, Nat.le_add_right k _⟩
    | some t =>
      obtain ⟨ru, ca, x⟩ := t
      have hg := stpS_g hm hn hK hO h
      have h16 : ru < 16 := hg.2.2.1
      have hS' : ∀ i, i < k + 1 → (puS S k (ru, ca, x.2) i).1 < 16 := fun i hi => by
        unfold puS
        by_cases hik : i = k
        · rw [if_pos hik]
          exact h16
        · rw [if_neg hik]
          exact hS i (by omega)
      rw [h] at er
      by_cases he : eE x.1 n = true
      · rw [er.trans (if_pos he)]
        exact ⟨hS', by show k + 1 ≤ k + (d + 1); omega⟩
      · rw [er.trans (if_neg he)]
        have := rnS_ok hn hK hO d x.1 (k + 1) (puS S k (ru, ca, x.2)) hg.1.2.1 hS'
        exact ⟨this.1, by have := this.2; omega⟩
theorem prf_ok (h3 : 3 ≤ n) (hn : n ≤ 6) (hK : ∀ e, e < nc → KvK n K e) (hO : okO nO O) : (∀ i, i < (prf K O n nc nO).2.1 → ((prf K O n nc nO).2.2 i).1 < 16) ∧ (prf K O n nc nO).2.1 ≤ 36 := by
  have h64 : ∀ n, n < 7 → 2 ^ n - 1 < 64 := by decide
  have := rnS_ok (K := K) (O := O) (nO := nO) hn hK hO 36 (fullM n) 0 (fun _ => (0, 0, 0)) (fun _ => h64 n (by omega)) (fun i hi => absurd hi (Nat.not_lt_zero i))
  exact ⟨this.1, Nat.le_trans this.2 (by omega)⟩
theorem outN_in (m : Nat → Nat) (n : Nat) : outN m n = 1 ∨ outN m n = 2 ∨ outN m n = 3 := by
  unfold outN
  split
  · exact Or.inr (Or.inr rfl)
  · split
    · exact Or.inl rfl
    · exact Or.inr (Or.inl rfl)
end
