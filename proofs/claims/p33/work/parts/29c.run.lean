theorem ownE_f {n j w : Nat} {k fz k' xa xb xc : Int32} {m : Nat → Nat} (h : ∀ k, m k < 64) (hn : n ≤ 6) (j3 : j < 3) (hj : j = 2 → k = 109) (hk : Kv n k' xa xb xc) : fair n m (ownE k j fz w k' xa.toNatClampNeg xb.toNatClampNeg xc.toNatClampNeg n m) := by
  obtain ⟨⟨a, ea, la⟩, ⟨b, eb, lb⟩, hk⟩ := hk
  unfold ownE
  rw [ea, eb, nI_clamp (by omega), nI_clamp (by omega)]
  by_cases hc : k = k'
  · rw [if_pos hc]
    refine kpE_f h (Nat.lt_of_le_of_lt (Nat.sub_le 63 _) (by decide)) ?_
    by_cases j0 : j = 0
    · rw [if_pos j0]
      exact la
    · rw [if_neg j0]
      by_cases j1 : j = 1
      · rw [if_pos j1]
        exact lb
      · rw [if_neg j1]
        have k9 : k' = 109 := hc ▸ hj (by omega)
        rcases hk with q | q | q | q | q | ⟨q, -⟩ | ⟨q, cc, exc, hcc⟩
        · rw [q] at k9; exact absurd k9 (by decide)
        · rw [q] at k9; exact absurd k9 (by decide)
        · rw [q] at k9; exact absurd k9 (by decide)
        · rw [q] at k9; exact absurd k9 (by decide)
        · rw [q] at k9; exact absurd k9 (by decide)
        · rw [q] at k9; exact absurd k9 (by decide)
        · rw [exc, nI_clamp (by omega)]
          exact hcc
  · rw [if_neg hc]
    exact none_f h
theorem tag_some {ru : Nat} {o : Option (Nat × cc_Ef)} {t : cc_T} (h : tag ru o = some t) : ∃ e x, o = some (e, x) ∧ t = (ru, e, x) := by
  cases o with
  | none => cases h
  | some y => obtain ⟨e, x⟩ := y; cases h; exact ⟨e, x, rfl, rfl⟩
theorem orE_some {o z : Option cc_T} {t : cc_T} (h : orE o z = some t) : o = some t ∨ (o = none ∧ z = some t) := by
  cases o with
  | none => exact Or.inr ⟨rfl, h⟩
  | some y => exact Or.inl h
/-- a step is fair, takes something, is by a rule below 16 -/
def good (n : Nat) (m : Nat → Nat) (t : cc_T) : Prop := fair n m t.2.2 ∧ t.2.2.2 ≠ 0 ∧ t.1 < 16 ∧ t.2.2.2 < 1000
theorem clS_g {K : cc_K} {n nc : Nat} {m : Nat → Nat} (h : ∀ k, m k < 64) (hn : n ≤ 6) (hK : ∀ e, e < nc → KvK n K e) : ∀ (d ru : Nat) (t : cc_T), ru + d ≤ 7 → clS K nc m d ru = some t → good n m t
  | 0, _, _, _, q => by cases q
  | d + 1, ru, t, hr, q => by
    rcases orE_some q with q | ⟨-, q⟩
    · obtain ⟨e, x, q1, rfl⟩ := tag_some q
      obtain ⟨a, b, c, z⟩ := scR_some q1
      exact ⟨by rw [c]; exact clE_f h hn (hK e (by omega)), z, by show ru < 16; omega, by rw [c]; exact clE_le⟩
    · exact clS_g h hn hK d (ru + 1) t (by omega) q
theorem paS_g {n : Nat} {m : Nat → Nat} (h : ∀ k, m k < 64) (hn : n ≤ 6) : ∀ (d p : Nat) (t : cc_T), paS m n d p = some t → good n m t
  | 0, _, _, q => by cases q
  | d + 1, p, t, q => by
    rcases orE_some q with q | ⟨-, q⟩
    · cases hs : scR (pairE m n p) (n - (p + 1)) (p + 1) with
      | none => rw [hs] at q; cases q
      | some y =>
        obtain ⟨e, x⟩ := y
        rw [hs] at q
        cases q
        obtain ⟨a, b, c, z⟩ := scR_some hs
        exact ⟨by rw [c]; exact pairE_f h, z, by show 9 < 16; omega, by rw [c]; exact pairE_l hn⟩
    · exact paS_g h hn d (p + 1) t q
theorem plS_g {n : Nat} {m : Nat → Nat} (h : ∀ k, m k < 64) (hn : n ≤ 6) {t : cc_T} (q : plS m n = some t) : good n m t := by
  rcases orE_some q with q | ⟨-, q⟩
  · obtain ⟨e, x, q1, rfl⟩ := tag_some q
    obtain ⟨a, b, c, z⟩ := scR_some q1
    exact ⟨by rw [c]; exact perE_f h, z, by show 7 < 16; omega, by rw [c]; exact perE_l hn⟩
  · rcases orE_some q with q | ⟨-, q⟩
    · obtain ⟨e, x, q1, rfl⟩ := tag_some q
      obtain ⟨a, b, c, z⟩ := scR_some q1
      exact ⟨by rw [c]; exact placE_f h (by omega), z, by show 8 < 16; omega, by rw [c]; exact placE_l⟩
    · exact paS_g h hn n 0 t q
