/-! a list takes one more: the library's words -/
section
variable {g : Nat → Nat} {c : cc_C} {R : Option Value → cc_C → Prop} {X : String → cc_C → Prop}
def ecl (i : Nat) : Nat := match i with
  | 0 => 10
  | 1 => 7
  | 2 => 5
  | 3 => 4
  | _ => 3
theorem ecl_in (i : Nat) : 3 ≤ ecl i ∧ ecl i ≤ 10 := by
  unfold ecl
  split <;> omega
theorem r_elk {L : List Nat} {h : ab_H} {i x b : Nat} (cc : CC g c L h) (s : sl c (elk i) x 0 b) : b ∈ L ∧ ∃ vs : List Value, h b = .inr (ecl i, vs) := by
  match i, s with
  | 0, s => exact ⟨(rd3 cc s).1, _, (rd3 cc s).2⟩
  | 1, s => exact ⟨(rd14 cc s).1, _, (rd14 cc s).2⟩
  | 2, s => exact ⟨(rd15 cc s).1, _, (rd15 cc s).2⟩
  | 3, s => exact ⟨(rd16 cc s).1, _, (rd16 cc s).2⟩
  | r + 4, s => exact ⟨(rd6 cc s).1, _, (rd6 cc s).2⟩
theorem r_els {L : List Nat} {h : ab_H} {i a e : Nat} (cc : CC g c L h) (s : sl c 1 i 0 a) (he : e < cN c 42 i) : el c i e ∈ L ∧ ∃ vs : List Value, h (el c i e) = .inr (ecl i, vs) := by
  have hv := (cc.2.2.2.2.2.2.2.2.2.2.2.2 i s.1).2.2.2 e he
  match i, hv with
  | 0, hv => exact ⟨(rd3 cc ⟨hv, rfl⟩).1, _, (rd3 cc ⟨hv, rfl⟩).2⟩
  | 1, hv => exact ⟨(rd14 cc ⟨hv, rfl⟩).1, _, (rd14 cc ⟨hv, rfl⟩).2⟩
  | 2, hv => exact ⟨(rd15 cc ⟨hv, rfl⟩).1, _, (rd15 cc ⟨hv, rfl⟩).2⟩
  | 3, hv => exact ⟨(rd16 cc ⟨hv, rfl⟩).1, _, (rd16 cc ⟨hv, rfl⟩).2⟩
  | r + 4, hv =>
    have h6 := cc.2.2.2.2.2.2.2.2.2.1 _ hv
    have s6 : sl c 6 (cA c 5 r e) 0 (cA c 5 r e) := ⟨hv, h6⟩
    exact ⟨(rd6 cc s6).1, _, (rd6 cc s6).2⟩
theorem put_els {c : cc_C} {i b n : Nat} {f : Nat → Option Nat} (hn : cN c 42 i = n) (hf : ∀ e, f e = if e < n then some (el c i e) else none) : va_up f n (some b) = fun e => if e < cN c 42 i + 1 then (if e = cN c 42 i then some b else some (el c i e)) else none := by
  funext e
  rw [hn]
  by_cases h1 : e = n
  · subst h1
    rw [up_at, if_pos (by omega), if_pos rfl]
  · rw [up_ne h1, hf]
    by_cases h2 : e < n
    · rw [if_pos h2, if_pos (by omega), if_neg h1]
    · rw [if_neg h2, if_neg (by omega)]
theorem s_add {i b a : Nat} (s : sl c 1 i 0 a) (sb : sl c (elk i) (elx c i b) 0 b) (hsz : cN c 42 i < 20) (hcap : cN c 80 i < 100) (H : ∀ q z, z < 100 → R (some (.int 1)) (dL c i b q z)) : wc g (wp_Jx4a65c_add_9ea2d g) c [.ref a, .ref b] R X := by
  intro L h R2 XP cc hR hX
  have hl : ∀ {n m : Nat}, Nat.ble (n + 1) m = true → n < m := fun h => Nat.le_of_ble_eq_true h
  have r := rd1 cc s
  obtain ⟨w1, w2, w3, w4⟩ := cc.2.2.2.2.2.2.2.2.2.2.2.2 i s.1
  obtain ⟨n, hn, en⟩ := nI_of w1
  have hcn : cN c 42 i = n := by
    unfold cN
    rw [en, nI_clamp hn]
  have rb := r_elk cc sb
  obtain ⟨bL, vs, hb⟩ := rb
  have hba : b ≠ a := fun e => by
    rw [e, r.2] at hb
    have := congrArg (fun z : ab_E => match z with | .inr o => o.1 | .inl _ => 0) hb
    have h3 := ecl_in i
    have h2 : (2 : Nat) = ecl i := this
    omega
  have fin : ∀ (q z : Nat) (L' : List Nat) (h' : ab_H), z < 100 → cN c 42 i < z → (∀ b, b ∈ L → b ∈ L') → ((cV c 2 i 0 ∧ q = cA c 2 i 0 ∧ q ∈ L') ∨ (q ∉ L ∧ q ∈ L')) → (∀ b, b ∈ L → b ≠ a → b ≠ q → (¬ (cV c 2 i 0 ∧ b = cA c 2 i 0)) → h' b = h b) → h' a = .inr (2, [.int (cS c 40 i 0 + 1), .ref q, .int (cS c 42 i 0 + 1)]) → h' q = .inl (4, z, .inr (.inr (.inr (.inr (fun e => if e < cN c 42 i + 1 then (if e = cN c 42 i then some b else some (el c i e)) else none))))) → R2 (some (.int 1)) L' h' := fun q z L' h' hz hlt hL hq hh ha hqq => hR _ _ _ _ (CC_L cc s sb hz hlt hL hq hh ha hqq) dL_le (H q z hz)
  have hels : ∀ e, els c i e = if e < n then some (el c i e) else none := fun e => by
    unfold els
    rw [hcn]
  have hcl : (nI n).toNatClampNeg = n := nI_clamp hn
  have start : ∀ d, dat g c i = d → h a = .inr (2, [.int (cS c 40 i 0), .ref d, .int (nI n)]) := fun d hd => by
    rw [r.2]
    unfold ct1
    rw [hd, en]
  by_cases hc0 : cN c 80 i = 0
  · have hn0 : n = 0 := by omega
    subst hn0
    have ra := start (g 0) (if_pos hc0)
    refine bk_Jx4a65c_add_9ea2d_0 ⟨r.1, _, _, ra, rfl, r.1, _, ra, hl rfl, r.1, _, _, up_at _ _ _, rfl, r.1, _, _, up_at _ _ _, rfl, ⟨by decide, by decide⟩, ⟨r.1, _, up_at _ _ _⟩, ?_⟩
    refine bk_Jx4a65c_add_72be8_0 (Or.inl ⟨rfl, fun _ => ⟨⟨by decide, by decide⟩, ⟨r.1, _, up_at _ _ _⟩, bk_Jx4a65c_grow_d5877_0 ⟨r.1, _, _, up_at _ _ _, rfl, ⟨by decide, by decide⟩, ⟨r.1, _, up_at _ _ _⟩, bk_Jx4a65c_grow_92f84_0 ⟨r.1, _, _, up_at _ _ _, rfl, Or.inl ⟨rfl, fun q => absurd q (by decide), fun _ => ⟨r.1, _, _, up_at _ _ _, rfl, fun _ => ⟨⟨by decide, by decide⟩, by decide, by decide, by decide, by decide, fun q fq => ?_⟩, fun q => absurd rfl q⟩⟩⟩⟩⟩, fun q => absurd rfl q⟩)
    have h10 : ((if (10 : Int32) < nI 0 + 1 then nI 0 + 1 else (10 : Int32))).toNatClampNeg = 10 := by decide
    rw [h10]
    have aq : a ≠ q := ne_of_in fq r.1
    have bq : b ≠ q := ne_of_in fq bL
    refine ⟨List.mem_append_left _ r.1, _, (up_ne aq).trans (up_at _ _ _), hl rfl, ⟨by decide, by decide⟩, _, rfl, ⟨by decide, by decide⟩, _, rfl, last_in _ _, _, _, _, _, (up_ne aq.symm).trans (up_at _ _ _), vp_in_nI (by omega) (by omega), List.mem_append_left _ bL, (up_ne hba).trans ((up_ne bq).trans ((up_ne hba).trans hb)), ecl_in i, List.mem_append_left _ r.1, _, (up_ne aq).trans (up_at _ _ _), hl rfl, ⟨by decide, by decide⟩, rfl, ⟨by decide, by decide⟩, rfl, ?_⟩
    refine fin q 10 _ _ (by decide) (by omega) (fun b hb => List.mem_append_left _ hb) (Or.inr ⟨fq, last_in _ _⟩) (fun x hx hxa hxq _ => ?_) ?_ ?_
    · rw [up_ne hxa, up_ne hxq, up_ne hxa, up_ne hxq, up_ne hxa]
    · rw [up_at, en]
      rfl
    · rw [up_ne aq.symm, up_at, hcl, put_els hcn (fun e => (if_neg (Nat.not_lt_zero e)).symm)]
  · have hd : dat g c i = cA c 2 i 0 := if_neg hc0
    have ra := start _ hd
    have v2 := w3 hc0
    have r2 := rd2 cc (i := i) (j := 0) (a := cA c 2 i 0) ⟨v2, rfl⟩
    have h2 : h (cA c 2 i 0) = .inl (4, cN c 80 i, .inr (.inr (.inr (.inr (els c i))))) := r2.2
    have ad : a ≠ cA c 2 i 0 := fun e => by
      rw [← e, ra] at h2
      cases h2
    have bd : b ≠ cA c 2 i 0 := fun e => by
      rw [← e, hb] at h2
      cases h2
    have hcn2 : n ≤ cN c 80 i := by omega
    have hcap2 : Int32.ofNat (cN c 80 i) = nI (cN c 80 i) := rfl
    refine bk_Jx4a65c_add_9ea2d_0 ⟨r.1, _, _, ra, rfl, r.1, _, ra, hl rfl, r.1, _, _, up_at _ _ _, rfl, r.1, _, _, up_at _ _ _, rfl, ⟨by decide, by decide⟩, ⟨r.1, _, up_at _ _ _⟩, bk_Jx4a65c_add_72be8_0 (Or.inr ⟨r2.1, _, (up_ne ad.symm).trans h2, fun e => ?_, fun e => ?_⟩)⟩
    · have hnc : n = cN c 80 i := (nI_eq hn (by omega)).mp e
      refine ⟨⟨by decide, by decide⟩, ⟨r.1, _, up_at _ _ _⟩, bk_Jx4a65c_grow_d5877_0 ⟨r.1, _, _, up_at _ _ _, rfl, ⟨by decide, by decide⟩, ⟨r.1, _, up_at _ _ _⟩, bk_Jx4a65c_grow_92f84_0 ⟨r.1, _, _, up_at _ _ _, rfl, Or.inr ⟨r2.1, _, (up_ne ad.symm).trans h2, fun _ => ⟨⟨by decide, by decide⟩, ?_⟩, fun q => absurd (nI_lt (a := 0) (b := cN c 80 i) (by omega) (by omega)) q⟩⟩⟩⟩
      rw [hcap2, ← hnc]
      have hz : ∃ z, z < 40 ∧ n < z ∧ nI n + (if nI n + 1 - nI n < nI n >>> ((1 : Int32) &&& 31) then nI n >>> ((1 : Int32) &&& 31) else nI n + 1 - nI n) = nI z := by
        rw [nI_1, pk_sub (by omega), show n + 1 - n = 1 by omega, pk_shrN hn ((1 : Int32) &&& 31) 1 (by decide)]
        by_cases hq : nI 1 < nI (n / 2 ^ 1)
        · rw [if_pos hq, nI_add]
          have := (nI_ltI (by omega) (by omega)).mp hq
          exact ⟨_, by omega, by omega, rfl⟩
        · rw [if_neg hq, nI_add]
          exact ⟨_, by omega, by omega, rfl⟩
      obtain ⟨z, hz1, hz2, hz3⟩ := hz
      have hzc : (nI z).toNatClampNeg = z := nI_clamp (by omega)
      have hcnt : (if nI z < nI n then nI z else nI n) = nI n := if_neg (nI_nlt (by omega) (by omega))
      have h00 : (0 : Int32).toNatClampNeg = 0 := rfl
      refine bk_J8_newLength_cabcc_0 ⟨⟨Nat.le_refl _, Nat.le_refl _⟩, fun q => ?_, fun _ => ⟨fun q => ?_, fun _ => ⟨⟨Nat.le_refl _, Nat.le_refl _⟩, ?_⟩⟩⟩
      · rw [hz3] at q
        exact absurd q (nI_nle (by omega) (by omega))
      · rw [hz3] at q
        exact absurd q (nI_nlt (a := 2147483639) (b := z) (by omega) (by omega))
      · rw [hz3]
        refine ⟨_, rfl, r.1, _, _, up_at _ _ _, rfl, ⟨by decide, by decide⟩, bk_J7_copyOf_1904c_0 ⟨r2.1, ⟨_, (up_ne ad.symm).trans h2⟩, ⟨by decide, by decide⟩, bk_J7_copyOf_6403c_0 ⟨fun _ => ⟨nI_pos (by omega), by omega, by decide, by omega, fun q fq => Or.inr ?_⟩, fun q => absurd rfl q⟩⟩⟩
        have aq : a ≠ q := ne_of_in fq r.1
        have bq : b ≠ q := ne_of_in fq bL
        have dq : cA c 2 i 0 ≠ q := ne_of_in fq r2.1
        rw [hzc]
        refine ⟨List.mem_append_left _ r2.1, _, (up_ne dq).trans ((up_ne ad.symm).trans h2), ⟨by decide, by omega⟩, last_in _ _, List.mem_append_left _ r2.1, ?_⟩
        rw [hcap2, ← hnc, hcnt, hcl, h00]
        refine ⟨_, _, _, _, ecl i, (up_ne dq).trans ((up_ne ad.symm).trans h2), up_at _ _ _, by decide, by decide, nI_pos hn, by omega, by omega, ecl_in i, fun e he y hy => ?_, ⟨by decide, by omega⟩, ?_⟩
        · rw [Nat.zero_add, hels, if_pos he] at hy
          cases hy
          obtain ⟨m1, vs1, m2⟩ := r_els cc s (e := e) (by omega)
          refine ⟨List.mem_append_left _ m1, vs1, ?_⟩
          have n1 : el c i e ≠ q := ne_of_in fq m1
          have n2 : el c i e ≠ a := fun e' => by
            rw [e', ra] at m2
            have := congrArg (fun z : ab_E => match z with | .inr o => o.1 | .inl _ => 0) m2
            have h3 := ecl_in i
            have h2 : (2 : Nat) = ecl i := this
            omega
          rw [up_ne n1, up_ne n2]
          exact m2
        · refine ⟨_, rfl, ⟨by decide, by decide⟩, _, rfl, List.mem_append_left _ r.1, _, (up_ne aq).trans ((up_ne aq).trans (up_at _ _ _)), hl rfl, ⟨by decide, by decide⟩, _, rfl, ⟨by decide, by decide⟩, _, rfl, last_in _ _, _, _, _, _, (up_ne aq.symm).trans (up_at _ _ _), vp_in_nI hz2 (by omega), List.mem_append_left _ bL, (up_ne hba).trans ((up_ne bq).trans ((up_ne bq).trans ((up_ne hba).trans hb))), ecl_in i, List.mem_append_left _ r.1, _, (up_ne aq).trans (up_at _ _ _), hl rfl, ⟨by decide, by decide⟩, rfl, ⟨by decide, by decide⟩, rfl, ?_⟩
          refine fin q z _ _ (by omega) (by omega) (fun b hb => List.mem_append_left _ hb) (Or.inr ⟨fq, last_in _ _⟩) (fun x hx hxa hxq _ => ?_) ?_ ?_
          · rw [up_ne hxa, up_ne hxq, up_ne hxa, up_ne hxq, up_ne hxq, up_ne hxa]
          · rw [up_at, en]
            rfl
          · rw [up_ne aq.symm, up_at, put_els hcn (fun e => ?_)]
            unfold va_cpy
            by_cases he : e < n
            · rw [if_pos ⟨by omega, by omega⟩, if_pos he, hels, if_pos (by omega)]
              simp only [Nat.zero_add, Nat.sub_zero]
            · rw [if_neg (by omega), if_neg he]
    · have hnc : n < cN c 80 i := by
        exact Nat.lt_of_le_of_ne hcn2 (fun q => e ((nI_eq hn (show cN c 80 i < 2 ^ 31 by omega)).mpr q))
      refine ⟨r2.1, _, _, _, _, (up_ne ad.symm).trans h2, vp_in_nI hnc (by omega), bL, (up_ne hba).trans hb, ecl_in i, r.1, _, (up_ne ad).trans (up_at _ _ _), hl rfl, ⟨by decide, by decide⟩, rfl, ⟨by decide, by decide⟩, rfl, ?_⟩
      rw [hcl]
      refine fin (cA c 2 i 0) (cN c 80 i) _ _ (by omega) (by omega) (fun b hb => hb) (Or.inl ⟨v2, rfl, r2.1⟩) (fun x hx hxa hxq _ => ?_) ?_ ?_
      · rw [up_ne hxa, up_ne hxq, up_ne hxa]
      · rw [up_at, en]
        rfl
      · rw [up_ne ad.symm, up_at, put_els hcn hels]
end
