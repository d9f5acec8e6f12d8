/-! none left to do: single places answer every clue -/
theorem thn_z {e : cc_Ef} {f : (Nat → Nat) → cc_Ef} (h : (thn e f).2 = 0) : e.2 = 0 := by
  have h1 : e.2 + (f e.1).2 = 0 := h
  omega
theorem efI_z {n : Nat} {σ m : Nat → Nat} {k xa xb xc : Int32} {l : List Nat} (h4 : n ≤ 4) (hσ : ∀ p, p < n → σ p < 4) (hm : ∀ p, p < n → m p = 2 ^ σ p) (hl : ∀ p, p < n → ofL l p = σ p) (hk : Kv n k xa xb xc) (h0 : (efI k xa xb xc m).2 = 0) : fitI k xa xb xc l = true := by
  obtain ⟨⟨a, ea, la⟩, ⟨b, eb, lb⟩, hk⟩ := hk
  unfold efI at h0
  unfold fitI
  rw [ea, eb, nI_clamp (by omega), nI_clamp (by omega)] at h0 ⊢
  have sa := hσ a la
  have sb := hσ b lb
  have ma := hm a la
  have mb := hm b lb
  rw [hl a la, hl b lb]
  rcases hk with rfl | rfl | rfl | rfl | rfl | ⟨rfl, cc, exc, hc1, hc2⟩ | ⟨rfl, cc, exc, hc⟩
  · have h1 : pcN (m a &&& (63 - 2 ^ b)) = 0 := h0
    rw [ma] at h1
    exact decide_eq_true (z_p _ sa _ (by omega) h1)
  · have h1 : pcN (m a &&& (63 - (63 - 2 ^ b))) = 0 := h0
    rw [ma] at h1
    exact decide_eq_true (z_x _ sa _ (by omega) h1)
  · have h1 : pcN (m a &&& (63 - loN (m b))) = 0 := thn_z (e := kpE m a (loN (m b))) (f := fun m1 => kpE m1 b (riN (m1 a))) h0
    rw [ma, mb] at h1
    exact decide_eq_true (z_b _ sa _ sb h1)
  · have h1 : pcN (m a &&& (63 - dsN 1 (m b))) = 0 := thn_z (e := kpE m a (dsN 1 (m b))) (f := fun m1 => kpE m1 b (dsN 1 (m1 a))) h0
    rw [ma, mb] at h1
    exact decide_eq_true (z_d 1 (by omega) _ sa _ sb h1)
  · have h1 : pcN (m a &&& (63 - lsN (m b))) = 0 := thn_z (e := kpE m a (lsN (m b))) (f := fun m1 => kpE m1 b (l2N (m1 a))) h0
    rw [ma, mb] at h1
    exact decide_eq_true (z_l _ sa _ sb h1)
  · rw [exc, nI_clamp (by omega)] at h0 ⊢
    have h1 : pcN (m a &&& (63 - dsN cc (m b))) = 0 := thn_z (e := kpE m a (dsN cc (m b))) (f := fun m1 => kpE m1 b (dsN cc (m1 a))) h0
    rw [ma, mb] at h1
    exact decide_eq_true (z_d cc (by omega) _ sa _ sb h1)
  · rw [exc, nI_clamp (by omega)] at h0 ⊢
    have h1 : pcN (m cc &&& (63 - btN (m a) (m b))) = 0 := h0
    rw [ma, mb, hm cc hc] at h1
    rw [hl cc hc]
    exact decide_eq_true (z_m _ sa _ sb _ (hσ cc hc) h1)
theorem othE_hi {m : Nat → Nat} {p q σ : Nat} : ∀ i j, i ≤ j → (othE m p q σ i).1 j = m j
  | 0, _, _ => rfl
  | i + 1, j, h => by
    unfold othE
    by_cases hc : i = p ∨ i = q
    · rw [if_pos hc]
      exact othE_hi i j (by omega)
    · rw [if_neg hc]
      show kp (othE m p q σ i).1 i (63 - σ) j = m j
      unfold kp
      rw [if_neg (by omega)]
      exact othE_hi i j (by omega)
theorem othE_z {m : Nat → Nat} {p q σ : Nat} : ∀ i, (othE m p q σ i).2 = 0 → ∀ k, k < i → k ≠ p → k ≠ q → pcN (m k &&& (63 - (63 - σ))) = 0
  | 0, _, k, hk, _, _ => absurd hk (Nat.not_lt_zero k)
  | i + 1, h, k, hk, h1, h2 => by
    unfold othE at h
    by_cases hc : i = p ∨ i = q
    · rw [if_pos hc] at h
      exact othE_z i h k (by rcases hc with e | e <;> omega) h1 h2
    · rw [if_neg hc] at h
      have e2 : (othE m p q σ i).2 + pcN ((othE m p q σ i).1 i &&& (63 - (63 - σ))) = 0 := h
      rw [othE_hi i i (Nat.le_refl i)] at e2
      by_cases hki : k = i
      · rw [hki]
        omega
      · exact othE_z i (by omega) k (by omega) h1 h2
theorem scR_none {f : Nat → cc_Ef} : ∀ {d i : Nat}, scR f d i = none → ∀ e, i ≤ e → e < i + d → (f e).2 = 0
  | 0, i, _, e, h1, h2 => absurd h2 (by omega)
  | d + 1, i, h, e, h1, h2 => by
    unfold scR at h
    by_cases h0 : (f i).2 = 0
    · rw [if_pos h0] at h
      by_cases hei : e = i
      · rw [hei]
        exact h0
      · exact scR_none h e (by omega) (by omega)
    · rw [if_neg h0] at h
      cases h
theorem orE_none {o z : Option cc_T} (h : orE o z = none) : o = none ∧ z = none := by
  cases o with
  | none => exact ⟨rfl, h⟩
  | some x => cases h
theorem tag_none {ru : Nat} {o : Option (Nat × cc_Ef)} (h : tag ru o = none) : o = none := by
  cases o with
  | none => rfl
  | some x =>
    obtain ⟨e, x⟩ := x
    cases h
theorem clS_none {K : cc_K} {nc : Nat} {m : Nat → Nat} : ∀ d ru, clS K nc m d ru = none → ∀ r, ru ≤ r → r < ru + d → ∀ e, e < nc → (clK K r m e).2 = 0
  | 0, ru, _, r, h1, h2, _, _ => absurd h2 (by omega)
  | d + 1, ru, h, r, h1, h2, e, he => by
    obtain ⟨a, b⟩ := orE_none h
    by_cases hr : r = ru
    · rw [hr]
      exact scR_none (tag_none a) e (Nat.zero_le e) (by omega)
    · exact clS_none d (ru + 1) b r (by omega) (by omega) e he
theorem kd_of {n : Nat} {k xa xb xc : Int32} (hk : Kv n k xa xb xc) : ∃ ru, ru < 7 ∧ k = kd ru := by
  obtain ⟨-, -, q⟩ := hk
  rcases q with q | q | q | q | q | ⟨q, -⟩ | ⟨q, -⟩
  · exact ⟨0, by decide, q⟩
  · exact ⟨1, by decide, q⟩
  · exact ⟨2, by decide, q⟩
  · exact ⟨3, by decide, q⟩
  · exact ⟨4, by decide, q⟩
  · exact ⟨5, by decide, q⟩
  · exact ⟨6, by decide, q⟩
theorem aF_all {K : cc_K} {l : List Nat} : ∀ {i : Nat}, (∀ e, e < i → fitK K e l = true) → aF K l i = true
  | 0, _ => rfl
  | i + 1, h => by
    show (aF K l i && fitK K i l) = true
    rw [aF_all (fun e he => h e (by omega)), h i (by omega)]
    rfl
theorem aF_at {K : cc_K} {l : List Nat} : ∀ {i : Nat}, aF K l i = true → ∀ e, e < i → fitK K e l = true
  | 0, _, e, he => absurd he (Nat.not_lt_zero e)
  | i + 1, h, e, he => by
    have h1 : (aF K l i && fitK K i l) = true := h
    rw [Bool.and_eq_true] at h1
    by_cases hei : e = i
    · rw [hei]
      exact h1.2
    · exact aF_at h1.1 e (by omega)
section
variable {K : cc_K} {O : cc_O} {n nc nO : Nat} {σ m : Nat → Nat} {l : List Nat}
theorem end_fit (h4 : n ≤ 4) (hσ : ∀ p, p < n → σ p < 4) (hm : ∀ p, p < n → m p = 2 ^ σ p) (hl : ∀ p, p < n → ofL l p = σ p) (hK : ∀ e, e < nc → KvK n K e) (h : stpS K O n nc nO m = none) : aF K l nc = true := by
  refine aF_all (fun e he => ?_)
  obtain ⟨ru, h7, hk⟩ := kd_of (hK e he)
  have h0 := clS_none 7 0 (orE_none h).1 ru (Nat.zero_le ru) (by omega) e he
  have e1 : clK K ru m e = efI (K e).1 (K e).2.1 (K e).2.2.1 (K e).2.2.2 m := if_pos hk
  rw [e1] at h0
  exact efI_z h4 hσ hm hl (hK e he) h0
theorem end_inj (hσ : ∀ p, p < n → σ p < 4) (hm : ∀ p, p < n → m p = 2 ^ σ p) (h1 : ∀ p, p < n → pcN (m p) = 1) (h : stpS K O n nc nO m = none) : ∀ p, p < n → ∀ q, q < n → σ p = σ q → p = q := by
  intro p hp q hq e
  refine Classical.byContradiction fun hne => ?_
  have h7 := scR_none (tag_none (orE_none (orE_none (orE_none h).2).1).1) p (Nat.zero_le p) (by omega)
  have e1 : perE m n p = othE m p p (m p) n := if_pos (h1 p hp)
  rw [e1] at h7
  have h8 := othE_z n h7 q hq (fun z => hne z.symm) (fun z => hne z.symm)
  rw [hm q hq, hm p hp] at h8
  exact z_x _ (hσ q hq) _ (hσ p hp) h8 e.symm
end
/-! the orders of three and four persons -/
def pmL (n : Nat) : Nat → List Nat → List (List Nat)
  | 0, l => [l]
  | m + 1, l => l :: match goL n l with
    | none => []
    | some l' => pmL n m l'
theorem cnt_pm {n : Nat} {P : List Nat → Bool} : ∀ (m : Nat) (l : List Nat), cntL n P m l = (pmL n m l).countP P
  | 0, l => by
    unfold cntL pmL
    rw [List.countP_cons, List.countP_nil, Nat.zero_add]
  | m + 1, l => by
    unfold cntL pmL
    rw [List.countP_cons]
    cases goL n l with
    | none => exact Nat.add_comm _ _
    | some l' =>
      show _ + cntL n P m l' = (pmL n m l').countP P + _
      rw [cnt_pm m l']
      exact Nat.add_comm _ _
def pmG (n : Nat) (l : List Nat) : Prop := (∀ p, p < n → ofL l p < n) ∧ (∀ p, p < n → ∀ q, q < n → ofL l p = ofL l q → p = q) ∧ (∀ t, t < n → ∃ p, p < n ∧ ofL l p = t) ∧ lsP n (ofL l) = l
theorem pm30 : ((pmL 3 5 [0, 1, 2]).all fun l => (allB 3 fun p => decide (ofL l p < 3)) && (allB 3 fun p => allB 3 fun q => decide (ofL l p = ofL l q → p = q)) && (allB 3 fun t => !(allB 3 fun p => decide (¬ ofL l p = t))) && decide (lsP 3 (ofL l) = l)) = true := by decide +kernel
theorem pm3 : ∀ l ∈ pmL 3 5 [0, 1, 2], (∀ p, p < 3 → ofL l p < 3) ∧ (∀ p, p < 3 → ∀ q, q < 3 → ofL l p = ofL l q → p = q) ∧ (∀ t, t < 3 → ¬ ∀ p, p < 3 → ¬ ofL l p = t) ∧ lsP 3 (ofL l) = l := by
  intro l hl
  have h := List.all_eq_true.mp pm30 l hl
  rw [Bool.and_eq_true, Bool.and_eq_true, Bool.and_eq_true] at h
  obtain ⟨⟨⟨h1, h2⟩, h3⟩, h4⟩ := h
  refine ⟨fun p hp => of_decide_eq_true (allB_at h1 p hp), fun p hp q hq => of_decide_eq_true (allB_at (allB_at h2 p hp) q hq), fun t ht hn => ?_, of_decide_eq_true h4⟩
  have h5 := allB_at h3 t ht
  rw [Bool.not_eq_true'] at h5
  have h6 : (allB 3 fun p => decide (¬ ofL l p = t)) = true := List.all_eq_true.mpr (fun p hp => decide_eq_true (hn p (List.mem_range.mp hp)))
  rw [h6] at h5
  cases h5
theorem pm40 : ((pmL 4 23 [0, 1, 2, 3]).all fun l => (allB 4 fun p => decide (ofL l p < 4)) && (allB 4 fun p => allB 4 fun q => decide (ofL l p = ofL l q → p = q)) && (allB 4 fun t => !(allB 4 fun p => decide (¬ ofL l p = t))) && decide (lsP 4 (ofL l) = l)) = true := by decide +kernel
theorem pm4 : ∀ l ∈ pmL 4 23 [0, 1, 2, 3], (∀ p, p < 4 → ofL l p < 4) ∧ (∀ p, p < 4 → ∀ q, q < 4 → ofL l p = ofL l q → p = q) ∧ (∀ t, t < 4 → ¬ ∀ p, p < 4 → ¬ ofL l p = t) ∧ lsP 4 (ofL l) = l := by
  intro l hl
  have h := List.all_eq_true.mp pm40 l hl
  rw [Bool.and_eq_true, Bool.and_eq_true, Bool.and_eq_true] at h
  obtain ⟨⟨⟨h1, h2⟩, h3⟩, h4⟩ := h
  refine ⟨fun p hp => of_decide_eq_true (allB_at h1 p hp), fun p hp q hq => of_decide_eq_true (allB_at (allB_at h2 p hp) q hq), fun t ht hn => ?_, of_decide_eq_true h4⟩
  have h5 := allB_at h3 t ht
  rw [Bool.not_eq_true'] at h5
  have h6 : (allB 4 fun p => decide (¬ ofL l p = t)) = true := List.all_eq_true.mpr (fun p hp => decide_eq_true (hn p (List.mem_range.mp hp)))
  rw [h6] at h5
  cases h5
theorem pc30 : (allB 3 fun a => allB 3 fun b => allB 3 fun c => decide (a ≠ b → a ≠ c → b ≠ c → (pmL 3 5 [0, 1, 2]).countP (fun l => decide (l = [a, b, c])) = 1)) = true := by decide +kernel
theorem pc3 : ∀ a, a < 3 → ∀ b, b < 3 → ∀ c, c < 3 → a ≠ b → a ≠ c → b ≠ c → (pmL 3 5 [0, 1, 2]).countP (fun l => decide (l = [a, b, c])) = 1 := fun a ha b hb c hc => of_decide_eq_true (allB_at (allB_at (allB_at pc30 a ha) b hb) c hc)
theorem pc40 : (allB 4 fun a => allB 4 fun b => allB 4 fun c => allB 4 fun d => decide (a ≠ b → a ≠ c → b ≠ c → a ≠ d → b ≠ d → c ≠ d → (pmL 4 23 [0, 1, 2, 3]).countP (fun l => decide (l = [a, b, c, d])) = 1)) = true := by decide +kernel
theorem pc4 : ∀ a, a < 4 → ∀ b, b < 4 → ∀ c, c < 4 → ∀ d, d < 4 → a ≠ b → a ≠ c → b ≠ c → a ≠ d → b ≠ d → c ≠ d → (pmL 4 23 [0, 1, 2, 3]).countP (fun l => decide (l = [a, b, c, d])) = 1 := fun a ha b hb c hc d hd => of_decide_eq_true (allB_at (allB_at (allB_at (allB_at pc40 a ha) b hb) c hc) d hd)
abbrev pmA' (n : Nat) : List (List Nat) := pmL n (fuelN n) (List.range n)
theorem pm_ex {n t : Nat} {l : List Nat} (h : ¬ ∀ p, p < n → ¬ ofL l p = t) : ∃ p, p < n ∧ ofL l p = t := Classical.byContradiction fun z => h (fun p hp e => z ⟨p, hp, e⟩)
theorem pm_ok {n : Nat} (hn : n = 3 ∨ n = 4) : (∀ l ∈ pmA' n, pmG n l) ∧ ∀ σ : Nat → Nat, (∀ p, p < n → σ p < n) → (∀ p, p < n → ∀ q, q < n → σ p = σ q → p = q) → (pmA' n).countP (fun l => decide (l = lsP n σ)) = 1 := by
  rcases hn with rfl | rfl
  · refine ⟨fun l hl => ?_, fun σ h hi => ?_⟩
    · obtain ⟨a, b, c, d⟩ := pm3 l hl
      exact ⟨a, b, fun t ht => pm_ex (c t ht), d⟩
    · have ne : ∀ p q, p < 3 → q < 3 → p ≠ q → σ p ≠ σ q := fun p q hp hq hpq e => hpq (hi p hp q hq e)
      exact pc3 (σ 0) (h 0 (by decide)) (σ 1) (h 1 (by decide)) (σ 2) (h 2 (by decide)) (ne 0 1 (by decide) (by decide) (by decide)) (ne 0 2 (by decide) (by decide) (by decide)) (ne 1 2 (by decide) (by decide) (by decide))
  · refine ⟨fun l hl => ?_, fun σ h hi => ?_⟩
    · obtain ⟨a, b, c, d⟩ := pm4 l hl
      exact ⟨a, b, fun t ht => pm_ex (c t ht), d⟩
    · have ne : ∀ p q, p < 4 → q < 4 → p ≠ q → σ p ≠ σ q := fun p q hp hq hpq e => hpq (hi p hp q hq e)
      exact pc4 (σ 0) (h 0 (by decide)) (σ 1) (h 1 (by decide)) (σ 2) (h 2 (by decide)) (σ 3) (h 3 (by decide)) (ne 0 1 (by decide) (by decide) (by decide)) (ne 0 2 (by decide) (by decide) (by decide)) (ne 1 2 (by decide) (by decide) (by decide)) (ne 0 3 (by decide) (by decide) (by decide)) (ne 1 3 (by decide) (by decide) (by decide)) (ne 2 3 (by decide) (by decide) (by decide))
theorem wE_at {m : Nat → Nat} : ∀ {n : Nat}, wE m n = true → ∀ p, p < n → pcN (m p) = 1
  | 0, _, p, hp => absurd hp (Nat.not_lt_zero p)
  | n + 1, h, p, hp => by
    have h1 : (wE m n && decide (pcN (m n) = 1)) = true := h
    rw [Bool.and_eq_true] at h1
    by_cases e : p = n
    · rw [e]
      exact of_decide_eq_true h1.2
    · exact wE_at h1.1 p (by omega)
section
variable {K : cc_K} {O : cc_O} {n nc nO : Nat} {m : Nat → Nat}
theorem one_ans (hn : n = 3 ∨ n = 4) (hK : ∀ e, e < nc → KvK n K e) (hm : ∀ k, m k < 2 ^ n) (hw : wE m n = true) (h : stpS K O n nc nO m = none) (ha : ∀ l ∈ pmA' n, aF K l nc = true → al n (ofL l) m) : cntL n (fun l => aF K l nc) (fuelN n) (List.range n) = 1 := by
  have h4 : n ≤ 4 := by omega
  have hm16 : ∀ k, m k < 16 := fun k => by
    have := hm k
    rcases hn with rfl | rfl
    · exact Nat.lt_trans this (by decide)
    · exact this
  have h1 := wE_at hw
  have hs : ∀ p, p < n → m p = 2 ^ sg (m p) ∧ sg (m p) < 4 ∧ sg (m p) < n := fun p hp => by
    obtain ⟨a, b, c⟩ := sg_ok _ (hm16 p) (h1 p hp)
    refine ⟨a, b, ?_⟩
    rcases hn with rfl | rfl
    · exact c (hm p)
    · exact b
  obtain ⟨P1, P2⟩ := pm_ok hn
  rw [cnt_pm, ← P2 (fun p => sg (m p)) (fun p hp => (hs p hp).2.2) (end_inj (fun p hp => (hs p hp).2.1) (fun p hp => (hs p hp).1) h1 h)]
  refine List.countP_congr (fun l hl => ⟨fun q => ?_, fun q => ?_⟩)
  · have hA := ha l hl q
    obtain ⟨g1, -, -, g4⟩ := P1 l hl
    refine decide_eq_true ?_
    rw [← g4]
    refine List.map_congr_left (fun p hp => ?_)
    have hp' := List.mem_range.mp hp
    exact sg_bt _ (hm16 p) (h1 p hp') _ (Nat.lt_of_lt_of_le (g1 p hp') h4) (hA p hp')
  · have e : l = lsP n (fun p => sg (m p)) := of_decide_eq_true q
    exact end_fit h4 (fun p hp => (hs p hp).2.1) (fun p hp => (hs p hp).1) (fun p hp => by rw [e]; exact ofL_lsP hp) hK h
end
