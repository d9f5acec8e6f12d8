/-- own rules as numbers: what a proof needs of them -/
def okO (nO : Nat) (O : cc_O) : Prop := nO ≤ 6 ∧ ∀ u, u < nO → (O u).2.1 < 3 ∧ ((O u).2.1 = 2 → (O u).1 = 109)
theorem owS_g {K : cc_K} {O : cc_O} {n nc nO : Nat} {m : Nat → Nat} (h : ∀ k, m k < 64) (hn : n ≤ 6) (hK : ∀ e, e < nc → KvK n K e) (hO : okO nO O) : ∀ (d u : Nat) (t : cc_T), u + d ≤ nO → owS K O n nc m d u = some t → good n m t
  | 0, _, _, _, q => by cases q
  | d + 1, u, t, hu, q => by
    have h6 := hO.1
    rcases orE_some q with q | ⟨-, q⟩
    · by_cases hb : (O u).2.2.2.2 = true
      · rw [if_pos hb] at q
        obtain ⟨e, x, q1, rfl⟩ := tag_some q
        obtain ⟨a, b, c, z⟩ := scR_some q1
        obtain ⟨j3, j2⟩ := hO.2 u (by omega)
        exact ⟨by rw [c]; exact ownE_f h hn j3 j2 (hK e (by omega)), z, by show 10 + u < 16; omega, by rw [c]; exact ownE_l⟩
      · rw [if_neg hb] at q
        cases q
    · exact owS_g h hn hK hO d (u + 1) t (by omega) q
theorem stpS_g {K : cc_K} {O : cc_O} {n nc nO : Nat} {m : Nat → Nat} (h : ∀ k, m k < 64) (hn : n ≤ 6) (hK : ∀ e, e < nc → KvK n K e) (hO : okO nO O) {t : cc_T} (q : stpS K O n nc nO m = some t) : good n m t := by
  rcases orE_some q with q | ⟨-, q⟩
  · exact clS_g h hn hK 7 0 t (by omega) q
  · rcases orE_some q with q | ⟨-, q⟩
    · exact plS_g h hn q
    · exact owS_g h hn hK hO nO 0 t (by omega) q
/-- the whole run: sets, steps so far, their rows; none left to do, or somebody is empty -/
def rnS (K : cc_K) (O : cc_O) (n nc nO : Nat) : Nat → (Nat → Nat) → Nat → cc_St → (Nat → Nat) × Nat × cc_St
  | 0, m, k, S => (m, k, S)
  | d + 1, m, k, S => match stpS K O n nc nO m with
    | none => (m, k, S)
    | some (ru, ca, x) => if eE x.1 n = true then (x.1, k + 1, puS S k (ru, ca, x.2)) else rnS K O n nc nO d x.1 (k + 1) (puS S k (ru, ca, x.2))
theorem smB_pos {m : Nat → Nat} (h : ∀ k, m k < 64) : ∀ {n : Nat}, eE m n = false → n ≤ smB m n
  | 0, _ => Nat.le_refl 0
  | n + 1, he => by
    have key : ∀ x, x < 64 → (x ≠ 0 → 1 ≤ pcN x) := by decide +kernel
    have h1 : (eE m n || decide (m n = 0)) = false := he
    rw [Bool.or_eq_false_iff] at h1
    have h2 := smB_pos h h1.1
    have h3 := key (m n) (h n) (of_decide_eq_false h1.2)
    show n + 1 ≤ smB m n + pcN (m n)
    omega
