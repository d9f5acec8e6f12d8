section
variable {g : Nat → Nat} {R : Option Value → cc_C → Prop} {X : String → cc_C → Prop}
def pmA (m : Nat → Nat) (n p q : Nat) : Option cc_T := orE (match scR (pairE m n p) (n - q) q with
    | none => none
    | some (q, x) => some (9, 10 * p + q, x)) (paS m n (n - (p + 1)) (p + 1))
theorem paS_s {m : Nat → Nat} {n p : Nat} (h : p < n) : paS m n (n - p) p = pmA m n p (p + 1) := by
  obtain ⟨d, hd⟩ : ∃ d, n - p = d + 1 := ⟨n - p - 1, by omega⟩
  rw [hd]
  unfold pmA
  rw [show n - (p + 1) = d by omega]
  show orE (match scR (pairE m n p) (n - (p + 1)) (p + 1) with | none => none | some (q, x) => some (9, 10 * p + q, x)) (paS m n d (p + 1)) = _
  rw [show n - (p + 1) = d by omega]
theorem pmA_end {m : Nat → Nat} {n p q : Nat} (h : n ≤ q) : pmA m n p q = paS m n (n - (p + 1)) (p + 1) := by
  unfold pmA
  rw [show n - q = 0 by omega]
  rfl
theorem m_done78 {c : cc_C} {r n e k : Nat} {m : Nat → Nat} {S : cc_St} (s : sl c 21 0 0 e) (nw : nwR c r n) (hn3 : 3 ≤ n) (hme : meR c n m) (st : stM c r k S) (hk : k < 36)
    (HN : paS m n n 0 = none → ∀ d, fr pPm c d → kpM r c d → meR d n m → stM d r k S → R (some (.int 0)) d)
    (HS : ∀ ru ca x, paS m n n 0 = some (ru, ca, x) → ∀ d, fr pPm c d → kpM r c d → meR d n x.1 → stM d r (k + 1) (puS S k (ru, ca, x.2)) → R (some (.int 1)) d) : ec g tb_X9_isDone 78 [some (.ref e), some (.int (nI 9)), some (.int (nI n)), some (.int (nI 0))] [] 0 0 c R X := by
  have hn := hme.1
  have h64 := hme.2.2
  have nn : n * n ≤ 36 := Nat.mul_le_mul hn hn
  have loop : ∀ (z p q : Nat) (c' : cc_C), p < n → q < n → (p * n + q) + z = n * n → fr pPm c c' → kpM r c c' → meR c' n m → stM c' r k S → pmA m n p (max q (p + 1)) = paS m n n 0 → ec g tb_X9_isDone 78 [some (.ref e), some (.int (nI 9)), some (.int (nI n)), some (.int (nI (p * n + q)))] [] 0 0 c' R X := by
    intro z
    induction z with
    | zero =>
      intro p q c' hp hq hz hf hkp hs hst hT
      exfalso
      have : (p + 1) * n ≤ n * n := Nat.mul_le_mul hp (Nat.le_refl n)
      rw [Nat.succ_mul] at this
      omega
    | succ z ih =>
      intro p q c' hp hq hz hf hkp hs hst hT
      have nwc := nwR_fr hf pPm_no1 pPm_no2 nw
      have sc := hf.sl s
      have hlt : p * n + q < n * n := by omega
      have n0 : ¬ nI n = 0 := nI_ne0 (by omega) (by omega)
      have ed : nI (p * n + q) / nI n = nI p := by
        rw [pk_div (by omega) (by omega) (by omega), Nat.mul_comm p n, Nat.mul_add_div (by omega), Nat.div_eq_of_lt hq]
        rfl
      have er : nI (p * n + q) - nI p * nI n = nI q := by
        have := pk_rem (a := p * n + q) (d := n) (by omega) (by omega) (by omega)
        rw [ed, Nat.mul_comm p n, Nat.mul_add_mod, Nat.mod_eq_of_lt hq] at this
        rw [Nat.mul_comm p n]
        exact this
      have ec9 : (10 : Int32) * nI p + nI q = nI (10 * p + q) := by
        show nI 10 * nI p + nI q = _
        rw [pk_mul, nI_add]
      -- on to the next one
      have next : ∀ d, fr pPm c d → kpM r c d → meR d n m → stM d r k S → pmA m n p (max (q + 1) (p + 1)) = paS m n n 0 → ec g tb_X9_isDone 78 [some (.ref e), some (.int (nI 9)), some (.int (nI n)), some (.int (nI (p * n + q + 1)))] [] 0 0 d R X := by
        intro d hd hk2 hs2 st2 hT2
        by_cases hq1 : q + 1 < n
        · exact ih p (q + 1) d hp hq1 (by omega) hd hk2 hs2 st2 hT2
        · rw [pmA_end (by omega)] at hT2
          by_cases hp1 : p + 1 < n
          · have := ih (p + 1) 0 d hp1 (by omega) (by rw [Nat.succ_mul]; omega) hd hk2 hs2 st2 (by rw [show max 0 (p + 1 + 1) = p + 1 + 1 by omega, ← paS_s hp1]; exact hT2)
            rw [show p * n + q + 1 = (p + 1) * n + 0 by rw [Nat.succ_mul]; omega]
            exact this
          · have hpn : p + 1 = n := by omega
            rw [show p * n + q + 1 = n * n by
              have : (p + 1) * n = n * n := by rw [hpn]
              rw [Nat.succ_mul] at this
              omega]
            refine mk_X9_isDone_78 (hd.sl s) ⟨fun _ => HN ?_ d hd hk2 hs2 st2, fun y => absurd (show nI n * nI n ≤ nI (n * n) by rw [pk_mul]; exact nI_le (Nat.le_refl _) (by omega)) y⟩
            rw [← hT2, hpn, Nat.sub_self]
            rfl
      refine mk_X9_isDone_78 sc ⟨fun y => absurd y ?_, fun _ => ⟨n0, n0, n0, n0, ?_⟩⟩
      · rw [pk_mul]
        exact nI_ge hlt (by omega)
      · rw [ed, er, ec9, nI_1]
        by_cases hpq : p < q
        · rw [show max q (p + 1) = q by omega] at hT
          refine m_byPair sc nwc hs rfl rfl hp hq hpq (fun d1 hd1 hs1 => ⟨_, rfl, ?_⟩)
          have hx : pmA m n p q = orE (if (pairE m n p q).2 = 0 then (match scR (pairE m n p) (n - (q + 1)) (q + 1) with | none => none | some (q, x) => some (9, 10 * p + q, x)) else some (9, 10 * p + q, pairE m n p q)) (paS m n (n - (p + 1)) (p + 1)) := by
            unfold pmA
            rw [show n - q = (n - (q + 1)) + 1 by omega, scR_s]
            by_cases h0 : (pairE m n p q).2 = 0
            · rw [if_pos h0, if_pos h0]
            · rw [if_neg h0, if_neg h0]
          rw [hx] at hT
          refine m_try (ru := 9) (ca := 10 * p + q) (hd1.sl sc) (hf.trans (hd1.mono may_Pm)) (hkp.trans (kpM_fr hd1 may_st)) (nwR_fr hd1 may_no1 may_no2 nwc) hs1 (fun h0 => pairE_0 h64 h0) (stM_fr hd1 may_st hst) hk (pairE_l hn) rfl rfl (fun h0 d2 hf2 hk2 hs2 st2 => ⟨_, rfl, fun _ => ?_, fun q => absurd rfl q⟩) (fun h0 d2 hf2 hk2 hs2 st2 => ⟨_, rfl, fun q => absurd q (by decide), fun _ => ?_⟩)
          · rw [if_pos h0] at hT
            refine next d2 hf2 hk2 hs2 st2 ?_
            rw [show max (q + 1) (p + 1) = q + 1 by omega]
            exact hT
          · rw [if_neg h0] at hT
            exact HS _ _ _ hT.symm d2 hf2 hk2 hs2 st2
        · refine mk_X9_byPair_0 sc ⟨fun _ => ⟨_, rfl, m_isStep (t := 0) sc nwc hst hk rfl rfl rfl (by decide) (fun _ => ⟨_, rfl, fun _ => next c' hf hkp hs hst ?_, fun q => absurd rfl q⟩) (fun y => absurd rfl y)⟩, fun y => absurd (nI_le (by omega) (by omega)) y⟩
          rw [show max q (p + 1) = p + 1 by omega] at hT
          rw [show max (q + 1) (p + 1) = p + 1 by omega]
          exact hT
  have := loop (n * n) 0 0 c (by omega) (by omega) (by omega) fr_rfl kpM_rfl hme st (by rw [show max 0 (0 + 1) = 0 + 1 by omega, ← paS_s (by omega)]; rfl)
  rw [Nat.zero_mul, Nat.zero_add] at this
  exact this
end
