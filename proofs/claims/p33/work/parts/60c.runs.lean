/-! the run of a proof -/
section
variable {K : cc_K} {O : cc_O} {n nc nO : Nat} {m : Nat → Nat}
theorem clS_some : ∀ (d ru : Nat) (t : cc_T), clS K nc m d ru = some t → ∃ r e, ru ≤ r ∧ r < ru + d ∧ e < nc ∧ t = (r, e, clK K r m e)
  | 0, _, _, q => by cases q
  | d + 1, ru, t, q => by
    rcases orE_some q with q | ⟨-, q⟩
    · obtain ⟨e, x, q1, rfl⟩ := tag_some q
      obtain ⟨a, b, c, z⟩ := scR_some q1
      exact ⟨ru, e, Nat.le_refl ru, by omega, by omega, by rw [c]⟩
    · obtain ⟨r, e, h1, h2, h3, h4⟩ := clS_some d (ru + 1) t q
      exact ⟨r, e, by omega, by omega, h3, h4⟩
theorem owS_some : ∀ (d u : Nat) (t : cc_T), owS K O n nc m d u = some t → ∃ v e, u ≤ v ∧ v < u + d ∧ e < nc ∧ (O v).2.2.2.2 = true ∧ t = (10 + v, e, owK K O n v m e)
  | 0, _, _, q => by cases q
  | d + 1, u, t, q => by
    rcases orE_some q with q | ⟨-, q⟩
    · by_cases hb : (O u).2.2.2.2 = true
      · rw [if_pos hb] at q
        obtain ⟨e, x, q1, rfl⟩ := tag_some q
        obtain ⟨a, b, c, z⟩ := scR_some q1
        exact ⟨u, e, Nat.le_refl u, by omega, by omega, hb, by rw [c]⟩
      · rw [if_neg hb] at q
        cases q
    · obtain ⟨r, e, h1, h2, h3, h4⟩ := owS_some d (u + 1) t q
      exact ⟨r, e, by omega, by omega, h3, h4⟩
theorem paS_some : ∀ (d p : Nat) (t : cc_T), p + d = n → paS m n d p = some t → ∃ a b, a < b ∧ b < n ∧ t = (9, 10 * a + b, pairE m n a b)
  | 0, _, _, _, q => by cases q
  | d + 1, p, t, hd, q => by
    rcases orE_some q with q | ⟨-, q⟩
    · cases h : scR (pairE m n p) (n - (p + 1)) (p + 1) with
      | none =>
        rw [h] at q
        cases q
      | some w =>
        obtain ⟨b, x⟩ := w
        rw [h] at q
        obtain ⟨h1, h2, h3, -⟩ := scR_some h
        cases q
        exact ⟨p, b, by omega, by omega, by rw [h3]⟩
    · exact paS_some d (p + 1) t (by omega) q
theorem stp_st (h4 : n ≤ 4) (hc8 : nc ≤ 8) (hm : ∀ k, m k < 16) (hK : ∀ e, e < nc → KvK n K e) {ru ca : Nat} {x : cc_Ef} (h : stpS K O n nc nO m = some (ru, ca, x)) : ca < 1000 ∧ (10 ≤ ru → ru - 10 < nO ∧ (O (ru - 10)).2.2.2.2 = true) ∧ (ru < 10 → ∀ l, pmG n l → aF K l nc = true → al n (ofL l) m → al n (ofL l) x.1) := by
  rcases orE_some h with q | ⟨-, q⟩
  · obtain ⟨r, e, h1, h2, h3, h5⟩ := clS_some 7 0 _ q
    cases h5
    refine ⟨by omega, fun z => absurd z (by omega), fun _ l hl hA ha => ?_⟩
    unfold clK clE
    split
    · exact efI_al h4 (fun p hp => Nat.lt_of_lt_of_le (hl.1 p hp) h4) hm ha (hK _ h3) (aF_at hA _ h3)
    · exact ha
  rcases orE_some q with q | ⟨-, q⟩
  · rcases orE_some q with q | ⟨-, q⟩
    · obtain ⟨e, y, q1, h5⟩ := tag_some q
      cases h5
      obtain ⟨a, b, c, z⟩ := scR_some q1
      refine ⟨by omega, fun z => absurd z (by omega), fun _ l hl hA ha => ?_⟩
      rw [c]
      exact perE_al (fun p hp => Nat.lt_of_lt_of_le (hl.1 p hp) h4) hl.2.1 hm (by omega) ha
    rcases orE_some q with q | ⟨-, q⟩
    · obtain ⟨e, y, q1, h5⟩ := tag_some q
      cases h5
      obtain ⟨a, b, c, z⟩ := scR_some q1
      refine ⟨by omega, fun z => absurd z (by omega), fun _ l hl hA ha => ?_⟩
      rw [c]
      exact placE_al (fun p hp => Nat.lt_of_lt_of_le (hl.1 p hp) h4) (hl.2.2.1 _ (by omega)) ha
    · obtain ⟨a, b, h1, h2, h5⟩ := paS_some n 0 _ (Nat.zero_add n) q
      cases h5
      refine ⟨by omega, fun z => absurd z (by omega), fun _ l hl hA ha => ?_⟩
      exact pairE_al (fun p hp => Nat.lt_of_lt_of_le (hl.1 p hp) h4) hl.2.1 hm (by omega) h2 (by omega) ha
  · obtain ⟨v, e, h1, h2, h3, h6, h5⟩ := owS_some nO 0 _ q
    cases h5
    refine ⟨by omega, fun _ => ⟨by omega, ?_⟩, fun z => absurd z (by omega)⟩
    rw [show 10 + v - 10 = v from by omega]
    exact h6
end
/-- a step, as it is to be; what steps take, together -/
def stG (nO : Nat) (O : cc_O) (x : Nat × Nat × Nat) : Prop := x.2.1 < 1000 ∧ 0 < x.2.2 ∧ x.2.2 < 1000 ∧ x.1 < 16 ∧ (10 ≤ x.1 → x.1 - 10 < nO ∧ (O (x.1 - 10)).2.2.2.2 = true)
def sumS (S : cc_St) : Nat → Nat
  | 0 => 0
  | k + 1 => sumS S k + (S k).2.2
theorem sumS_pu {S : cc_St} {k : Nat} {x : Nat × Nat × Nat} : ∀ i, i ≤ k → sumS (puS S k x) i = sumS S i
  | 0, _ => rfl
  | i + 1, h => by
    show sumS (puS S k x) i + (puS S k x i).2.2 = sumS S i + (S i).2.2
    rw [sumS_pu i (by omega)]
    unfold puS
    rw [if_neg (by omega)]
section
variable {K : cc_K} {O : cc_O} {n nc nO : Nat}
def rnG (K : cc_K) (O : cc_O) (n nc nO B : Nat) (m : Nat → Nat) (k : Nat) (S : cc_St) : Prop := (∀ j, m j < 2 ^ n) ∧ (∀ i, i < k → stG nO O (S i)) ∧ smB m n + sumS S k = B ∧ ((∀ i, i < k → (S i).1 < 10) → ∀ l ∈ pmA' n, aF K l nc = true → al n (ofL l) m)
theorem rn_run {B : Nat} (hn : n = 3 ∨ n = 4) (hc8 : nc ≤ 8) (hK : ∀ e, e < nc → KvK n K e) (hO : okO nO O) : ∀ d m k S, rnG K O n nc nO B m k S → rnG K O n nc nO B (rnS K O n nc nO d m k S).1 (rnS K O n nc nO d m k S).2.1 (rnS K O n nc nO d m k S).2.2 ∧ (eE m n = false → smB m n ≤ d → eE (rnS K O n nc nO d m k S).1 n = false → stpS K O n nc nO (rnS K O n nc nO d m k S).1 = none) := by
  have h4 : n ≤ 4 := by omega
  have p16 : ∀ {y}, y < 2 ^ n → y < 16 := fun {y} h => by
    rcases hn with rfl | rfl
    · exact Nat.lt_trans h (by decide)
    · exact h
  intro d
  induction d with
  | zero =>
    intro m k S h
    refine ⟨h, fun he hs _ => ?_⟩
    have := smB_pos (fun k => Nat.lt_trans (p16 (h.1 k)) (by decide)) he
    exfalso
    omega
  | succ d ih =>
    intro m k S h
    have hm16 : ∀ k, m k < 16 := fun k => p16 (h.1 k)
    have hm64 : ∀ k, m k < 64 := fun k => Nat.lt_trans (hm16 k) (by decide)
    have er : rnS K O n nc nO (d + 1) m k S = match stpS K O n nc nO m with
      | none => (m, k, S)
      | some (ru, ca, x) => if eE x.1 n = true then (x.1, k + 1, puS S k (ru, ca, x.2)) else rnS K O n nc nO d x.1 (k + 1) (puS S k (ru, ca, x.2)) := rfl
    cases hst : stpS K O n nc nO m with
    | none =>
      rw [hst] at er
      rw [er]
      exact ⟨h, fun _ _ _ => hst⟩
    | some t =>
      obtain ⟨ru, ca, x⟩ := t
      have hg := stpS_g hm64 (by omega : n ≤ 6) hK hO hst
      obtain ⟨s1, s2, s3⟩ := stp_st h4 hc8 hm16 hK hst
      have f1 : smB x.1 n + x.2 = smB m n := hg.1.1
      have f2 : x.2 ≠ 0 := hg.2.1
      have f3 : ru < 16 := hg.2.2.1
      have f4 : x.2 < 1000 := hg.2.2.2
      have h' : rnG K O n nc nO B x.1 (k + 1) (puS S k (ru, ca, x.2)) := by
        refine ⟨fun j => Nat.lt_of_le_of_lt (hg.1.2.2 j) (h.1 j), fun i hi => ?_, ?_, fun hu l hl hA => ?_⟩
        · unfold puS
          by_cases e : i = k
          · rw [if_pos e]
            exact ⟨s1, Nat.pos_of_ne_zero f2, f4, f3, s2⟩
          · rw [if_neg e]
            exact h.2.1 i (by omega)
        · show smB x.1 n + (sumS (puS S k (ru, ca, x.2)) k + (puS S k (ru, ca, x.2) k).2.2) = B
          rw [sumS_pu k (Nat.le_refl k)]
          have e : (puS S k (ru, ca, x.2) k) = (ru, ca, x.2) := if_pos rfl
          rw [e]
          have := h.2.2.1
          show smB x.1 n + (sumS S k + x.2) = B
          omega
        · have hk : ru < 10 := by
            have := hu k (Nat.lt_succ_self k)
            unfold puS at this
            rw [if_pos rfl] at this
            exact this
          refine s3 hk l ((pm_ok hn).1 l hl) hA (h.2.2.2 (fun i hi => ?_) l hl hA)
          have := hu i (by omega)
          unfold puS at this
          rw [if_neg (by omega)] at this
          exact this
      rw [hst] at er
      by_cases he : eE x.1 n = true
      · rw [er.trans (if_pos he)]
        refine ⟨h', fun _ _ z => ?_⟩
        rw [he] at z
        cases z
      · rw [er.trans (if_neg he)]
        have := ih x.1 (k + 1) (puS S k (ru, ca, x.2)) h'
        exact ⟨this.1, fun _ hs => this.2 (Bool.eq_false_iff.mpr he) (by omega)⟩
theorem smB_full : ∀ n, n = 3 ∨ n = 4 → smB (fullM n) n = n * n ∧ (∀ j, fullM n j < 2 ^ n) := by
  intro n hn
  rcases hn with rfl | rfl
  · exact ⟨by decide, fun j => by show 2 ^ 3 - 1 < 2 ^ 3; decide⟩
  · exact ⟨by decide, fun j => by show 2 ^ 4 - 1 < 2 ^ 4; decide⟩
theorem full_bt : ∀ n, n = 3 ∨ n = 4 → ∀ t, t < n → (2 ^ n - 1) / 2 ^ t % 2 = 1 := by
  intro n hn
  rcases hn with rfl | rfl
  · decide
  · decide
/-- what is to be known of a proof -/
theorem prf_run (hn : n = 3 ∨ n = 4) (hc8 : nc ≤ 8) (hK : ∀ e, e < nc → KvK n K e) (hO : okO nO O) : (∀ i, i < (prf K O n nc nO).2.1 → stG nO O ((prf K O n nc nO).2.2 i)) ∧ sumS (prf K O n nc nO).2.2 (prf K O n nc nO).2.1 ≤ 16 ∧ (outN (prf K O n nc nO).1 n = 1 → (∀ i, i < (prf K O n nc nO).2.1 → ((prf K O n nc nO).2.2 i).1 < 10) → cntL n (fun l => aF K l nc) (fuelN n) (List.range n) = 1) := by
  obtain ⟨f1, f2⟩ := smB_full n hn
  have g0 : rnG K O n nc nO (n * n) (fullM n) 0 (fun _ => (0, 0, 0)) := ⟨f2, fun i hi => absurd hi (Nat.not_lt_zero i), f1, fun _ l hl _ p hp => full_bt n hn _ (((pm_ok hn).1 l hl).1 p hp)⟩
  obtain ⟨r1, r2⟩ := rn_run hn hc8 hK hO 36 _ _ _ g0
  have e3 := full_ok (n := n) (by omega) (by omega)
  have nn : n * n ≤ 16 := by
    rcases hn with rfl | rfl <;> decide
  refine ⟨r1.2.1, ?_, fun ho hu => ?_⟩
  · have := r1.2.2.1
    show sumS (rnS K O n nc nO 36 (fullM n) 0 (fun _ => (0, 0, 0))).2.2 (rnS K O n nc nO 36 (fullM n) 0 (fun _ => (0, 0, 0))).2.1 ≤ 16
    omega
  · have hE : eE (prf K O n nc nO).1 n = false := by
      cases h : eE (prf K O n nc nO).1 n with
      | false => rfl
      | true =>
        unfold outN at ho
        rw [if_pos h] at ho
        cases ho
    have hW : wE (prf K O n nc nO).1 n = true := by
      cases h : wE (prf K O n nc nO).1 n with
      | true => rfl
      | false =>
        unfold outN at ho
        rw [hE, h] at ho
        cases ho
    exact one_ans hn hK r1.1 hW (r2 e3.1 e3.2.1 hE) (r1.2.2.2 hu)
end
