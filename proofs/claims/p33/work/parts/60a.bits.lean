/-! what a step by the rules 0 to 9 keeps: the bits of words, for three and four persons -/
def allB (n : Nat) (f : Nat → Bool) : Bool := (List.range n).all f
theorem allB_at {n : Nat} {f : Nat → Bool} (h : allB n f = true) : ∀ i, i < n → f i = true := fun i hi => List.all_eq_true.mp h i (List.mem_range.mpr hi)
theorem q_lo : ∀ y, y < 16 → ∀ s, s < 4 → ∀ t, t < 4 → t < s → y / 2 ^ s % 2 = 1 → loN y / 2 ^ t % 2 = 1 := by decide +kernel
theorem q_ri : ∀ y, y < 16 → ∀ s, s < 4 → ∀ t, t < 4 → s < t → y / 2 ^ s % 2 = 1 → riN y / 2 ^ t % 2 = 1 := by decide +kernel
theorem q_ds0 : (allB 6 fun k => allB 16 fun y => allB 4 fun s => allB 4 fun t => decide ((t = s + k ∨ s = t + k) → y / 2 ^ s % 2 = 1 → dsN k y / 2 ^ t % 2 = 1)) = true := by decide +kernel
theorem q_ds : ∀ k, k < 6 → ∀ y, y < 16 → ∀ s, s < 4 → ∀ t, t < 4 → ((t = s + k ∨ s = t + k) → y / 2 ^ s % 2 = 1 → dsN k y / 2 ^ t % 2 = 1) := fun k hk y hy s hs t ht => of_decide_eq_true (allB_at (allB_at (allB_at (allB_at q_ds0 k hk) y hy) s hs) t ht)
theorem q_ls : ∀ y, y < 16 → ∀ s, s < 4 → ∀ t, t < 4 → t + 1 = s → y / 2 ^ s % 2 = 1 → lsN y / 2 ^ t % 2 = 1 := by decide +kernel
theorem q_l2 : ∀ y, y < 16 → ∀ s, s < 4 → ∀ t, t < 4 → s + 1 = t → y / 2 ^ s % 2 = 1 → l2N y / 2 ^ t % 2 = 1 := by decide +kernel
theorem q_bt0 : (allB 4 fun s => allB 4 fun t => allB 4 fun u => allB 16 fun x => allB 16 fun y => decide (((s < u ∧ u < t) ∨ (t < u ∧ u < s)) → x / 2 ^ s % 2 = 1 → y / 2 ^ t % 2 = 1 → btN x y / 2 ^ u % 2 = 1)) = true := by decide +kernel
theorem q_bt : ∀ s, s < 4 → ∀ t, t < 4 → ∀ u, u < 4 → ∀ x, x < 16 → ∀ y, y < 16 → (((s < u ∧ u < t) ∨ (t < u ∧ u < s)) → x / 2 ^ s % 2 = 1 → y / 2 ^ t % 2 = 1 → btN x y / 2 ^ u % 2 = 1) := fun s hs t ht u hu x hx y hy => of_decide_eq_true (allB_at (allB_at (allB_at (allB_at (allB_at q_bt0 s hs) t ht) u hu) x hx) y hy)
theorem q_pw : ∀ t, t < 4 → 2 ^ t / 2 ^ t % 2 = 1 := by decide +kernel
theorem q_px : ∀ s, s < 4 → ∀ t, t < 4 → s ≠ t → (63 - 2 ^ t) / 2 ^ s % 2 = 1 := by decide +kernel
theorem q_10 : (allB 16 fun y => allB 4 fun s => allB 4 fun t => decide (pcN y = 1 → s ≠ t → y / 2 ^ s % 2 = 1 → (63 - y) / 2 ^ t % 2 = 1)) = true := by decide +kernel
theorem q_1 : ∀ y, y < 16 → ∀ s, s < 4 → ∀ t, t < 4 → (pcN y = 1 → s ≠ t → y / 2 ^ s % 2 = 1 → (63 - y) / 2 ^ t % 2 = 1) := fun y hy s hs t ht => of_decide_eq_true (allB_at (allB_at (allB_at q_10 y hy) s hs) t ht)
theorem q_20 : (allB 16 fun y => allB 4 fun s => allB 4 fun t => allB 4 fun u => decide (pcN y = 2 → y / 2 ^ s % 2 = 1 → y / 2 ^ t % 2 = 1 → s ≠ t → u ≠ s → u ≠ t → (63 - y) / 2 ^ u % 2 = 1)) = true := by decide +kernel
theorem q_2 : ∀ y, y < 16 → ∀ s, s < 4 → ∀ t, t < 4 → ∀ u, u < 4 → (pcN y = 2 → y / 2 ^ s % 2 = 1 → y / 2 ^ t % 2 = 1 → s ≠ t → u ≠ s → u ≠ t → (63 - y) / 2 ^ u % 2 = 1) := fun y hy s hs t ht u hu => of_decide_eq_true (allB_at (allB_at (allB_at (allB_at q_20 y hy) s hs) t ht) u hu)
/-! and what a rule that takes nothing says of single places -/
theorem z_p : ∀ s, s < 4 → ∀ b, b < 4 → pcN (2 ^ s &&& (63 - 2 ^ b)) = 0 → s = b := by decide +kernel
theorem z_x : ∀ s, s < 4 → ∀ b, b < 4 → pcN (2 ^ s &&& (63 - (63 - 2 ^ b))) = 0 → s ≠ b := by decide +kernel
theorem z_b : ∀ s, s < 4 → ∀ t, t < 4 → pcN (2 ^ s &&& (63 - loN (2 ^ t))) = 0 → s < t := by decide +kernel
theorem z_d : ∀ k, k < 6 → ∀ s, s < 4 → ∀ t, t < 4 → pcN (2 ^ s &&& (63 - dsN k (2 ^ t))) = 0 → s = t + k ∨ t = s + k := by decide +kernel
theorem z_l : ∀ s, s < 4 → ∀ t, t < 4 → pcN (2 ^ s &&& (63 - lsN (2 ^ t))) = 0 → s + 1 = t := by decide +kernel
theorem z_m0 : (allB 4 fun s => allB 4 fun t => allB 4 fun u => decide (pcN (2 ^ u &&& (63 - btN (2 ^ s) (2 ^ t))) = 0 → (s < u ∧ u < t) ∨ (t < u ∧ u < s))) = true := by decide +kernel
theorem z_m : ∀ s, s < 4 → ∀ t, t < 4 → ∀ u, u < 4 → (pcN (2 ^ u &&& (63 - btN (2 ^ s) (2 ^ t))) = 0 → (s < u ∧ u < t) ∨ (t < u ∧ u < s)) := fun s hs t ht u hu => of_decide_eq_true (allB_at (allB_at (allB_at z_m0 s hs) t ht) u hu)
def sg (y : Nat) : Nat := if y = 1 then 0 else if y = 2 then 1 else if y = 4 then 2 else 3
theorem sg_ok : ∀ y, y < 16 → pcN y = 1 → y = 2 ^ sg y ∧ sg y < 4 ∧ (y < 8 → sg y < 3) := by decide +kernel
theorem sg_bt : ∀ y, y < 16 → pcN y = 1 → ∀ t, t < 4 → y / 2 ^ t % 2 = 1 → t = sg y := by decide +kernel
theorem q_and {x y t : Nat} (hx : x / 2 ^ t % 2 = 1) (hy : y / 2 ^ t % 2 = 1) : (x &&& y) / 2 ^ t % 2 = 1 := by
  have h1 : x.testBit t = true := by rw [Nat.testBit_eq_decide_div_mod_eq]; exact decide_eq_true hx
  have h2 : y.testBit t = true := by rw [Nat.testBit_eq_decide_div_mod_eq]; exact decide_eq_true hy
  have h3 : (x &&& y).testBit t = true := by rw [Nat.testBit_and, h1, h2]; rfl
  rw [Nat.testBit_eq_decide_div_mod_eq] at h3
  exact of_decide_eq_true h3
/-- an order's places are all still open -/
def al (n : Nat) (l : Nat → Nat) (m : Nat → Nat) : Prop := ∀ p, p < n → m p / 2 ^ l p % 2 = 1
theorem al_kp {n a σ : Nat} {l m : Nat → Nat} (h : al n l m) (hs : a < n → σ / 2 ^ l a % 2 = 1) : al n l (kp m a σ) := by
  intro p hp
  unfold kp
  by_cases e : p = a
  · rw [if_pos e]
    subst e
    exact q_and (h p hp) (hs hp)
  · rw [if_neg e]
    exact h p hp
theorem kp_le {m : Nat → Nat} {a σ B : Nat} (h : ∀ k, m k < B) : ∀ k, kp m a σ k < B := by
  intro k
  unfold kp
  by_cases e : k = a
  · rw [if_pos e]
    exact Nat.lt_of_le_of_lt Nat.and_le_left (e ▸ h k)
  · rw [if_neg e]
    exact h k
theorem efI_al {n : Nat} {l : List Nat} {m : Nat → Nat} {k xa xb xc : Int32} (h4 : n ≤ 4) (hl : ∀ p, p < n → ofL l p < 4) (hm : ∀ k, m k < 16) (h : al n (ofL l) m) (hk : Kv n k xa xb xc) (hf : fitI k xa xb xc l = true) : al n (ofL l) (efI k xa xb xc m).1 := by
  obtain ⟨⟨a, ea, la⟩, ⟨b, eb, lb⟩, hk⟩ := hk
  unfold efI
  unfold fitI at hf
  rw [ea, eb, nI_clamp (by omega), nI_clamp (by omega)] at hf ⊢
  have pa := hl a la
  have pb := hl b lb
  have ha := h a la
  have hb := h b lb
  have two : ∀ (s1 : Nat) (f : Nat → Nat), s1 / 2 ^ ofL l a % 2 = 1 → (∀ y, y < 16 → y / 2 ^ ofL l a % 2 = 1 → f y / 2 ^ ofL l b % 2 = 1) → al n (ofL l) (kp (kp m a s1) b (f (kp m a s1 a))) := fun s1 f h1 h2 => by
    have h' := al_kp h (fun _ => h1) (a := a)
    exact al_kp h' (fun _ => h2 _ (kp_le hm a) (h' a la))
  rcases hk with rfl | rfl | rfl | rfl | rfl | ⟨rfl, cc, exc, hc1, hc2⟩ | ⟨rfl, cc, exc, hc⟩
  · have e : ofL l a = b := of_decide_eq_true hf
    have := q_pw _ pa
    rw [e] at this
    exact al_kp h (fun _ => by rw [e]; exact this)
  · have e : ¬ ofL l a = b := of_decide_eq_true hf
    exact al_kp h (fun _ => q_px _ pa _ (by omega) e)
  · have e : ofL l a < ofL l b := of_decide_eq_true hf
    exact two _ riN (q_lo _ (hm b) _ pb _ pa e hb) (fun y hy h1 => q_ri y hy _ pa _ pb e h1)
  · have e : ofL l a = ofL l b + 1 ∨ ofL l b = ofL l a + 1 := of_decide_eq_true hf
    exact two _ (dsN 1) (q_ds 1 (by omega) _ (hm b) _ pb _ pa e hb) (fun y hy h1 => q_ds 1 (by omega) y hy _ pa _ pb e.symm h1)
  · have e : ofL l a + 1 = ofL l b := of_decide_eq_true hf
    exact two _ l2N (q_ls _ (hm b) _ pb _ pa e hb) (fun y hy h1 => q_l2 y hy _ pa _ pb e h1)
  · rw [exc, nI_clamp (by omega)] at hf ⊢
    have e : ofL l a = ofL l b + cc ∨ ofL l b = ofL l a + cc := of_decide_eq_true hf
    exact two _ (dsN cc) (q_ds cc (by omega) _ (hm b) _ pb _ pa e hb) (fun y hy h1 => q_ds cc (by omega) y hy _ pa _ pb e.symm h1)
  · rw [exc, nI_clamp (by omega)] at hf ⊢
    have e : (ofL l a < ofL l cc ∧ ofL l cc < ofL l b) ∨ (ofL l b < ofL l cc ∧ ofL l cc < ofL l a) := of_decide_eq_true hf
    exact al_kp h (fun _ => q_bt _ pa _ pb _ (hl cc hc) _ (hm a) _ (hm b) e ha hb)
theorem othE_al {n p q σ : Nat} {l m : Nat → Nat} (h : al n l m) (hs : ∀ k, k < n → k ≠ p → k ≠ q → (63 - σ) / 2 ^ l k % 2 = 1) : ∀ i, al n l (othE m p q σ i).1
  | 0 => h
  | i + 1 => by
    unfold othE
    by_cases hc : i = p ∨ i = q
    · rw [if_pos hc]
      exact othE_al h hs i
    · rw [if_neg hc]
      exact al_kp (othE_al h hs i) (fun hi => hs i hi (fun e => hc (Or.inl e)) (fun e => hc (Or.inr e)))
theorem perE_al {n p : Nat} {l m : Nat → Nat} (hl : ∀ p, p < n → l p < 4) (hi : ∀ p, p < n → ∀ q, q < n → l p = l q → p = q) (hm : ∀ k, m k < 16) (hp : p < n) (h : al n l m) : al n l (perE m n p).1 := by
  unfold perE
  split
  · rename_i hc
    exact othE_al h (fun k hk h1 _ => q_1 _ (hm p) _ (hl p hp) _ (hl k hk) hc (fun e => h1 (hi p hp k hk e).symm) (h p hp)) n
  · exact h
theorem pairE_al {n p q : Nat} {l m : Nat → Nat} (hl : ∀ p, p < n → l p < 4) (hi : ∀ p, p < n → ∀ q, q < n → l p = l q → p = q) (hm : ∀ k, m k < 16) (hp : p < n) (hq : q < n) (hpq : p ≠ q) (h : al n l m) : al n l (pairE m n p q).1 := by
  unfold pairE
  split
  · rename_i hc
    refine othE_al h (fun k hk h1 h2 => q_2 _ (hm p) _ (hl p hp) _ (hl q hq) _ (hl k hk) hc.2 (h p hp) ?_ (fun e => hpq (hi p hp q hq e)) (fun e => h1 (hi k hk p hp e)) (fun e => h2 (hi k hk q hq e))) n
    rw [hc.1]
    exact h q hq
  · exact h
theorem hav_0 {m : Nat → Nat} {t : Nat} : ∀ n, (hav m t n).1 = 0 → ∀ p, p < n → ¬ m p / 2 ^ t % 2 = 1
  | 0, _, p, hp => absurd hp (Nat.not_lt_zero p)
  | n + 1, h, p, hp => by
    unfold hav at h
    by_cases e : m n / 2 ^ t % 2 = 1
    · rw [if_pos e] at h
      exact absurd h (Nat.succ_ne_zero _)
    · rw [if_neg e] at h
      by_cases hpn : p = n
      · rw [hpn]
        exact e
      · exact hav_0 n h p (by omega)
theorem hav_1 {m : Nat → Nat} {t : Nat} : ∀ n, (hav m t n).1 = 1 → ∀ p, p < n → m p / 2 ^ t % 2 = 1 → p = (hav m t n).2
  | 0, h, _, _, _ => absurd h (show ¬ (0 : Nat) = 1 by decide)
  | n + 1, h, p, hp, hb => by
    unfold hav at h ⊢
    by_cases e : m n / 2 ^ t % 2 = 1
    · rw [if_pos e] at h ⊢
      have h0 : (hav m t n).1 = 0 := Nat.succ.inj h
      by_cases hpn : p = n
      · exact hpn
      · exact absurd hb (hav_0 n h0 p (by omega))
    · rw [if_neg e] at h ⊢
      by_cases hpn : p = n
      · rw [hpn] at hb
        exact absurd hb e
      · exact hav_1 n h p (by omega) hb
theorem placE_al {n t : Nat} {l m : Nat → Nat} (hl : ∀ p, p < n → l p < 4) (hs : ∃ p, p < n ∧ l p = t) (h : al n l m) : al n l (placE m n t).1 := by
  unfold placE
  split
  · rename_i hc
    obtain ⟨p, hp, rfl⟩ := hs
    have e := hav_1 n hc p hp (h p hp)
    refine al_kp h (fun _ => ?_)
    rw [← e]
    exact q_pw _ (hl p hp)
  · exact h
