/-! orders, lists and riddles are made -/
section
variable {g : Nat → Nat} {c : cc_C}
theorem s_ordLoop {n a q : Nat} (hn : n ≤ 6) {x : Int32} {L L' : List Nat} {h : ab_H} {R2 : ab_R} {XP : ab_XP} {k m : Nat} (hk : k ≤ 1) (hm : m ≤ 6) (ma : a ∈ L') (mq : q ∈ L') (haq : a ≠ q) (ha : a ∉ L) (hq : q ∉ L) (H : ∀ h' : ab_H, (∀ b, b ∈ L → h' b = h b) → h' a = .inr (6, [.ref q]) → h' q = .inl (0, n, .inl (fun j => if j < n then nI j else 0)) → R2 none L' h') : ∀ (d i : Nat), i + d = n → ∀ h1 : ab_H, (∀ b, b ∈ L → h1 b = h b) → h1 a = .inr (6, [.ref q]) → h1 q = .inl (0, n, .inl (fun j => if j < i then nI j else 0)) → ab_Ev (tb_X3_init g R2 XP) 13 [some (.ref a), some (.int x), some (.int (nI i))] [] L' h1 k m := by
  intro d
  induction d with
  | zero =>
    intro i hi h1 hb h1a h1q
    obtain rfl : i = n := by omega
    exact bk_X3_init_13 ⟨ma, _, _, h1a, rfl, mq, _, h1q, fun _ => ⟨⟨hk, hm⟩, H h1 hb h1a h1q⟩, fun e => absurd (nI_le (Nat.le_refl i) (by omega)) e⟩
  | succ d ih =>
    intro i hi h1 hb h1a h1q
    refine bk_X3_init_13 ⟨ma, _, _, h1a, rfl, mq, _, h1q, fun e => absurd e (nI_ge (by omega) (by omega)), fun _ => ⟨ma, _, _, h1a, rfl, mq, _, _, h1q, vp_in_nI (by omega) (by omega), ?_⟩⟩
    rw [nI_1]
    refine ih (i + 1) (by omega) _ (fun b hb' => (up_ne (ne_of_in hq hb')).trans (hb b hb')) ((up_ne haq).trans h1a) ?_
    rw [up_at, nI_clamp (by omega)]
    have : upd (fun j => if j < i then nI j else 0) i (nI i) = fun j => if j < i + 1 then nI j else 0 := by
      funext j
      unfold upd
      by_cases h2 : j = i
      · rw [if_pos h2, if_pos (by omega), h2]
      · rw [if_neg h2]
        show (if j < i then nI j else 0) = _
        by_cases h3 : j < i
        · rw [if_pos h3, if_pos (by omega)]
        · rw [if_neg h3, if_neg (by omega)]
    rw [this]
theorem s_newOrder {R : Nat → cc_C → Prop} {n : Nat} {x : Int32} (hx : x = nI n) (hn : n ≤ 6) (H : ∀ a q, ¬ cV c 18 a 0 → ¬ cV c 19 a 0 → R a (dO c a q n)) : wn g (wp_X3_init g) 6 [.null] c [.int x] R := by
  intro L h R2 XP a cc ha hR
  subst hx
  have hm := last_in L a
  have hl : ∀ {n m : Nat}, Nat.ble (n + 1) m = true → n < m := fun h => Nat.le_of_ble_eq_true h
  have hc : (nI n).toNatClampNeg = n := nI_clamp (by omega)
  have w18 : ¬ cV c 18 a 0 := fun hv => by
    have h1 := (cc.1 _ _ _ hv).1
    rw [(cc.2.2.2.2.2.2.2.2.1 a hv).2] at h1
    exact ha h1
  have w19 : ¬ cV c 19 a 0 := fun hv => w18 ((cc.2.2.2.2.2.2.2.2.2.2.2.1 a).2 hv)
  have e0 : (0 : Int32) = nI 0 := rfl
  refine bk_X3_init_0 ⟨nI_pos (by omega), by omega, Nat.le_refl _, by omega, fun q hq => ⟨List.mem_append_left _ hm, _, (up_ne (ne_of_in hq hm)).trans (up_at _ _ _), hl rfl, ?_⟩⟩
  rw [e0, hc]
  have hqa : q ≠ a := fun e => hq (e ▸ hm)
  have hqL : q ∉ L := fun e => hq (List.mem_append_left _ e)
  refine s_ordLoop (n := n) (a := a) (q := q) (L := L) (L' := L ++ [a] ++ [q]) (h := h) hn (Nat.le_refl _) (by omega) (List.mem_append_left _ hm) (last_in _ _) hqa.symm ha hqL (fun h' hb hA hQ => ?_) n 0 (by omega) _ (fun b hb => ?_) ?_ ?_
  · refine hR _ _ _ (CC_dO (a := a) (q := q) (n := n) cc (fun b hb => List.mem_append_left _ (List.mem_append_left _ hb)) hb ha (List.mem_append_left _ hm) ?_ hqL (last_in _ _) ?_ hqa.symm w18 w19) (dO_le w18 w19) (H a q w18 w19)
    · rw [hA]
      unfold ct18
      rw [dO_a19]
    · rw [hQ]
      unfold ct19 cN
      rw [dO_s720, hc]
      have : cS (dO c a q n) 760 a = fun j => if j < n then nI j else 0 := funext fun j => dO_s760
      rw [this]
  · have h1 := ne_of_in ha hb
    have h2 := ne_of_in hqL hb
    rw [up_ne h1, up_ne h2, up_ne h1]
  · rw [up_at]
    rfl
  · rw [up_ne hqa, up_at]
    have : (fun _ => 0 : Nat → Int32) = fun j => if j < 0 then nI j else 0 := funext fun j => (if_neg (Nat.not_lt_zero j)).symm
    exact congrArg (fun f : Nat → Int32 => (Sum.inl (0, n, Sum.inl f) : ab_E)) this
theorem r_alInit {a : Nat} {L : List Nat} {h : ab_H} {R2 : ab_R} {XP : ab_XP} (ha : a ∈ L) (hh : h a = .inr (2, [.int 0, .null, .int 0])) (H : ∀ h' : ab_H, (∀ b, b ≠ a → h' b = h b) → h' a = .inr (2, [.int 0, .ref (g 0), .int 0]) → R2 none L h') : wp_Jx4a65c_init_da8c8 g [.ref a] L h R2 XP := by
  have hl : ∀ {n m : Nat}, Nat.ble (n + 1) m = true → n < m := fun h => Nat.le_of_ble_eq_true h
  refine bk_Jx4a65c_init_da8c8_0 ⟨⟨Nat.le_refl _, Nat.le_refl _⟩, bk_Jxc12de_init_da8c8_0 ⟨⟨Nat.le_refl _, Nat.le_refl _⟩, bk_Jxa1e45_init_da8c8_0 ⟨⟨Nat.le_refl _, Nat.le_refl _⟩, rfl, ha, _, hh, hl rfl, ⟨Nat.le_refl _, Nat.le_refl _⟩, rfl, ha, _, up_at _ _ _, hl rfl, ⟨Nat.le_refl _, Nat.le_refl _⟩, H _ (fun b hb => ?_) (up_at _ _ _)⟩⟩⟩
  rw [up_ne hb, up_ne hb]
theorem r_proofInit {a n : Nat} {L : List Nat} {h : ab_H} {R2 : ab_R} {XP : ab_XP} (hn : n ≤ 6) (ha : a ∈ L) (hh : h a = .inr (9, [.null, .null, .null, .int 0, .int 0, .null, .int 0])) (H : ∀ (q1 q2 q3 q4 q5 : Nat) (L' : List Nat) (h' : ab_H), (∀ b, b ∈ L → b ∈ L') → q1 ∉ L → q2 ∉ L → q3 ∉ L → q4 ∉ L → q5 ∉ L → q1 ∈ L' → q2 ∈ L' → q3 ∈ L' → q4 ∈ L' → q5 ∈ L' → q1 ≠ q2 → q1 ≠ q3 → q1 ≠ q4 → q1 ≠ q5 → q2 ≠ q3 → q2 ≠ q4 → q2 ≠ q5 → q3 ≠ q4 → q3 ≠ q5 → q4 ≠ q5 → (∀ b, b ∈ L → b ≠ a → h' b = h b) → h' a = .inr (9, [.ref q1, .ref q2, .ref q3, .int 0, .int 45, .ref q4, .int 0]) → h' q1 = .inl (0, 36, .inl (fun _ => 0)) → h' q2 = .inl (0, 36, .inl (fun _ => 0)) → h' q3 = .inl (0, 36, .inl (fun _ => 0)) → h' q4 = .inr (8, [.ref q5]) → h' q5 = .inl (0, n, .inl (fun _ => 0)) → R2 none L' h') : wp_X6_init g [.ref a, .int (nI n)] L h R2 XP := by
  have hl : ∀ {n m : Nat}, Nat.ble (n + 1) m = true → n < m := fun h => Nat.le_of_ble_eq_true h
  have h36 : ((36 : Int32)).toNatClampNeg = 36 := by decide
  have hc : (nI n).toNatClampNeg = n := nI_clamp (by omega)
  have ia : ∀ {L : List Nat} {x y : Nat}, x ∈ L → x ∈ L ++ [y] := fun h => List.mem_append_left _ h
  have na : ∀ {L : List Nat} {x y : Nat}, x ∉ L ++ [y] → x ∉ L := fun h q => h (List.mem_append_left _ q)
  have nl : ∀ {L : List Nat} {x y : Nat}, x ∉ L ++ [y] → y ≠ x := fun h q => h (q ▸ last_in _ _)
  refine bk_X6_init_0 ⟨by decide, by decide, by decide, by decide, fun q1 f1 => ⟨ia ha, _, (up_ne (ne_of_in f1 ha)).trans hh, hl rfl, by decide, by decide, by decide, by decide, fun q2 f2 => ⟨ia (ia ha), _, (up_ne (ne_of_in f2 (ia ha))).trans (up_at _ _ _), hl rfl, by decide, by decide, by decide, by decide, fun q3 f3 => ⟨ia (ia (ia ha)), _, (up_ne (ne_of_in f3 (ia (ia ha)))).trans (up_at _ _ _), hl rfl, by decide, by decide, fun q4 f4 => ⟨⟨by decide, by decide⟩, ?_⟩⟩⟩⟩⟩
  have a1 : a ≠ q1 := ne_of_in f1 ha
  have a2 : a ≠ q2 := ne_of_in f2 (ia ha)
  have a3 : a ≠ q3 := ne_of_in f3 (ia (ia ha))
  have a4 : a ≠ q4 := ne_of_in f4 (ia (ia (ia ha)))
  refine bk_X5_init_0 ⟨nI_pos (by omega), by omega, by decide, by omega, fun q5 f5 => ⟨ia (last_in _ _), _, (up_ne (nl f5)).trans (up_at _ _ _), hl rfl, ⟨by decide, by omega⟩, rfl, ?_⟩⟩
  have a5 : a ≠ q5 := ne_of_in f5 (ia (ia (ia (ia ha))))
  have x12 := nl f2
  have x23 := nl f3
  have x34 := nl f4
  have x45 := nl f5
  have x13 := nl (na f3)
  have x24 := nl (na f4)
  have x35 := nl (na f5)
  have x14 := nl (na (na f4))
  have x25 := nl (na (na f5))
  have x15 := nl (na (na (na f5)))
  rw [h36, hc]
  have A : ∀ (z : ab_H) (e1 e2 : ab_E), va_up (va_up z q5 e1) q4 e2 a = z a := fun z e1 e2 => (up_ne a4).trans (up_ne a5)
  refine ⟨ia (ia (ia (ia (ia ha)))), _, (A _ _ _).trans ((up_ne a4).trans (up_at _ _ _)), hl rfl, ia (ia (ia (ia (ia ha)))), _, up_at _ _ _, hl rfl, ⟨rfl, rfl⟩, ia (ia (ia (ia (ia ha)))), _, up_at _ _ _, hl rfl, ia (ia (ia (ia (ia ha)))), _, up_at _ _ _, hl rfl, ⟨by decide, by omega⟩, ?_⟩
  have U : ∀ {z : ab_H} {e1 e2 e3 e4 : ab_E} {b : Nat}, b ≠ a → va_up (va_up (va_up (va_up z a e1) a e2) a e3) a e4 b = z b := fun hb => by rw [up_ne hb, up_ne hb, up_ne hb, up_ne hb]
  refine H q1 q2 q3 q4 q5 _ _ (fun b hb => ia (ia (ia (ia (ia hb))))) f1 (na f2) (na (na f3)) (na (na (na f4))) (na (na (na (na f5)))) (ia (ia (ia (ia (last_in _ _))))) (ia (ia (ia (last_in _ _)))) (ia (ia (last_in _ _))) (ia (last_in _ _)) (last_in _ _) x12 x13 x14 x15 x23 x24 x25 x34 x35 x45 (fun b hb hba => ?_) (up_at _ _ _) ?_ ?_ ?_ ?_ ?_
  · have h1 := ne_of_in f1 hb
    have h2 := ne_of_in (na f2) hb
    have h3 := ne_of_in (na (na f3)) hb
    have h4 := ne_of_in (na (na (na f4))) hb
    have h5 := ne_of_in (na (na (na (na f5)))) hb
    rw [U hba, up_ne h4, up_ne h5, up_ne h4, up_ne hba, up_ne h3, up_ne hba, up_ne h2, up_ne hba, up_ne h1]
  · rw [U a1.symm, up_ne x14, up_ne x15, up_ne x14, up_ne a1.symm, up_ne x13, up_ne a1.symm, up_ne x12, up_ne a1.symm, up_at]
  · rw [U a2.symm, up_ne x24, up_ne x25, up_ne x24, up_ne a2.symm, up_ne x23, up_ne a2.symm, up_at]
  · rw [U a3.symm, up_ne x34, up_ne x35, up_ne x34, up_ne a3.symm, up_at]
  · rw [U a4.symm, up_at]
    rfl
  · rw [U a5.symm, up_ne x45.symm, up_at]
theorem s_newRiddle {R : Nat → cc_C → Prop} {n r : Nat} {x : Int32} (hx : x = nI n) (hn : n ≤ 6) (w3 : ¬ cV c 3 r 0) (w1 : ¬ cV c 1 (r + 4) 0) (w2 : ¬ cV c 2 (r + 4) 0) (w7 : ¬ cV c 7 r 0) (w8 : ¬ cV c 8 r 0) (w9 : ¬ cV c 9 r 0) (w10 : ¬ cV c 10 r 0) (w11 : ¬ cV c 11 r 0) (w12 : ¬ cV c 12 r 0) (w13 : ¬ cV c 13 r 0) (H : ∀ a a1 a7 a8 a9 a10 a11 a12 a13, R a (dR c r n a a1 a7 a8 a9 a10 a11 a12 a13)) : wn g (wp_X7_init g) 10 [.int 0, .null, .null, .null, .int 0, .int 0, .null] c [.int x] R := by
  intro L h R2 XP a cc ha hR
  subst hx
  have hm := last_in L a
  have hl : ∀ {n m : Nat}, Nat.ble (n + 1) m = true → n < m := fun h => Nat.le_of_ble_eq_true h
  have hc : (nI n).toNatClampNeg = n := nI_clamp (by omega)
  have ia : ∀ {L : List Nat} {x y : Nat}, x ∈ L → x ∈ L ++ [y] := fun h => List.mem_append_left _ h
  have na : ∀ {L : List Nat} {x y : Nat}, x ∉ L ++ [y] → x ∉ L := fun h q => h (List.mem_append_left _ q)
  refine bk_X7_init_0 ⟨hm, _, up_at _ _ _, hl rfl, by decide, by decide, fun p1 f1 => ⟨⟨by decide, by decide⟩, r_alInit (last_in _ _) (up_at _ _ _) (fun h1 hb1 hp1 => ⟨rfl, ia hm, _, ((hb1 _ (ne_of_in f1 hm)).trans ((up_ne (ne_of_in f1 hm)).trans (up_at _ _ _))), hl rfl, by decide, by decide, fun p7 f7 => ⟨⟨by decide, by decide⟩, r_proofInit hn (last_in _ _) (up_at _ _ _) (fun q1 q2 q3 q4 q5 L2 h2 hL2 n1 n2 n3 n4 n5 m1 m2 m3 m4 m5 x12 x13 x14 x15 x23 x24 x25 x34 x35 x45 hb2 ha2 hq1 hq2 hq3 hq4 hq5 => ?_)⟩⟩)⟩⟩
  have d01 : a ≠ p1 := ne_of_in f1 hm
  have d02 : a ≠ p7 := ne_of_in f7 (ia hm)
  have d12 : p1 ≠ p7 := ne_of_in f7 (last_in _ _)
  have h2a : h2 a = .inr (10, [.int (nI n), .ref p1, .null, .null, .int 0, .int 0, .null]) := (hb2 a (ia (ia hm)) d02).trans ((up_ne d02).trans (up_at _ _ _))
  have h2p : h2 p1 = .inr (2, [.int 0, .ref (g 0), .int 0]) := (hb2 p1 (ia (last_in _ _)) d12).trans ((up_ne d12).trans ((up_ne d01.symm).trans hp1))
  refine ⟨rfl, hL2 _ (ia (ia hm)), _, h2a, hl rfl, nI_pos (by omega), by omega, by decide, by omega, fun q12 f12 => ?_⟩
  have e12 : a ≠ q12 := ne_of_in f12 (hL2 _ (ia (ia hm)))
  refine ⟨ia (hL2 _ (ia (ia hm))), _, (up_ne e12).trans (up_at _ _ _), hl rfl, ia (hL2 _ (ia (ia hm))), _, up_at _ _ _, hl rfl, ⟨rfl, rfl⟩, ia (hL2 _ (ia (ia hm))), _, up_at _ _ _, hl rfl, ia (hL2 _ (ia (ia hm))), _, up_at _ _ _, hl rfl, ⟨by decide, by omega⟩, ?_⟩
  have U : ∀ {z : ab_H} {e1 e2 e3 e4 : ab_E} {b : Nat}, b ≠ a → va_up (va_up (va_up (va_up z a e1) a e2) a e3) a e4 b = z b := fun hb => by rw [up_ne hb, up_ne hb, up_ne hb, up_ne hb]
  refine hR _ _ _ (CC_dR (r := r) (n := n) (a3 := a) (a1 := p1) (a7 := p7) (a8 := q1) (a9 := q2) (a10 := q3) (a11 := q4) (a12 := q5) (a13 := q12) cc (fun b hb => ia (hL2 _ (ia (ia (ia hb))))) (fun b hb => ?_) ha (ia (hL2 _ (ia (ia hm)))) ?_ (na f1) (ia (hL2 _ (ia (last_in _ _)))) ?_ (na (na f7)) (ia (hL2 _ (last_in _ _))) ?_ (fun q => n1 (ia (ia (ia q)))) (ia m1) ?_ (fun q => n2 (ia (ia (ia q)))) (ia m2) ?_ (fun q => n3 (ia (ia (ia q)))) (ia m3) ?_ (fun q => n4 (ia (ia (ia q)))) (ia m4) ?_ (fun q => n5 (ia (ia (ia q)))) (ia m5) ?_ (fun q => f12 (hL2 _ (ia (ia (ia q))))) (last_in _ _) ?_ (ne_of_in f1 hm) (ne_of_in f7 (ia hm)) (ne_of_in n1 (ia (ia hm))) (ne_of_in n2 (ia (ia hm))) (ne_of_in n3 (ia (ia hm))) (ne_of_in n4 (ia (ia hm))) (ne_of_in n5 (ia (ia hm))) (ne_of_in f12 (hL2 _ (ia (ia hm)))) (ne_of_in f7 (last_in _ _)) (ne_of_in n1 (ia (last_in _ _))) (ne_of_in n2 (ia (last_in _ _))) (ne_of_in n3 (ia (last_in _ _))) (ne_of_in n4 (ia (last_in _ _))) (ne_of_in n5 (ia (last_in _ _))) (ne_of_in f12 (hL2 _ (ia (last_in _ _)))) (ne_of_in n1 (last_in _ _)) (ne_of_in n2 (last_in _ _)) (ne_of_in n3 (last_in _ _)) (ne_of_in n4 (last_in _ _)) (ne_of_in n5 (last_in _ _)) (ne_of_in f12 (hL2 _ (last_in _ _))) (x12) (x13) (x14) (x15) (ne_of_in f12 m1) (x23) (x24) (x25) (ne_of_in f12 m2) (x34) (x35) (ne_of_in f12 m3) (x45) (ne_of_in f12 m4) (ne_of_in f12 m5) w3 w1 w7 w8 w9 w10 w11 w12 w13 w2) (dR_le w3 w1 w7 w8 w9 w10 w11 w12 w13) (H _ _ _ _ _ _ _ _ _)
  · have b0 := ne_of_in ha hb
    have b1 := ne_of_in (na f1) hb
    have b7 := ne_of_in (na (na f7)) hb
    have b12 := ne_of_in (fun q => f12 (hL2 _ (ia (ia (ia q))))) hb
    rw [U b0, up_ne b12, up_ne b0, hb2 b (ia (ia (ia hb))) b7, up_ne b7, up_ne b0, hb1 b b1, up_ne b1, up_ne b0, up_ne b0]
  · rw [up_at]
    unfold ct3 ivo cN
    rw [dR_s120, dR_s124, dR_s125, dR_s126, dR_a1, dR_a7, dR_a13]
    rfl
  · rw [U d01.symm, up_ne (ne_of_in f12 (hL2 _ (ia (last_in _ _)))), up_ne d01.symm, h2p]
    unfold ct1 dat cN
    rw [dR_s40, dR_s42, dR_s80]
    rfl
  · rw [U d02.symm, up_ne (ne_of_in f12 (hL2 _ (last_in _ _))), up_ne d02.symm, ha2]
    unfold ct7
    rw [dR_a8, dR_a9, dR_a10, dR_a11, dR_s283, dR_s284, dR_s286]
  · rw [U (Ne.symm (ne_of_in n1 (ia (ia hm)))), up_ne (ne_of_in f12 m1), up_ne (Ne.symm (ne_of_in n1 (ia (ia hm)))), hq1]
    unfold ct8
    rw [show cS (dR c r n a p1 p7 q1 q2 q3 q4 q5 q12) 320 r = fun _ => 0 from funext fun j => dR_s320]
  · rw [U (Ne.symm (ne_of_in n2 (ia (ia hm)))), up_ne (ne_of_in f12 m2), up_ne (Ne.symm (ne_of_in n2 (ia (ia hm)))), hq2]
    unfold ct9
    rw [show cS (dR c r n a p1 p7 q1 q2 q3 q4 q5 q12) 360 r = fun _ => 0 from funext fun j => dR_s360]
  · rw [U (Ne.symm (ne_of_in n3 (ia (ia hm)))), up_ne (ne_of_in f12 m3), up_ne (Ne.symm (ne_of_in n3 (ia (ia hm)))), hq3]
    unfold ct10
    rw [show cS (dR c r n a p1 p7 q1 q2 q3 q4 q5 q12) 400 r = fun _ => 0 from funext fun j => dR_s400]
  · rw [U (Ne.symm (ne_of_in n4 (ia (ia hm)))), up_ne (ne_of_in f12 m4), up_ne (Ne.symm (ne_of_in n4 (ia (ia hm)))), hq4]
    unfold ct11
    rw [dR_a12]
  · rw [U (Ne.symm (ne_of_in n5 (ia (ia hm)))), up_ne (ne_of_in f12 m5), up_ne (Ne.symm (ne_of_in n5 (ia (ia hm)))), hq5]
    unfold ct12 cN
    rw [dR_s120, hc, show cS (dR c r n a p1 p7 q1 q2 q3 q4 q5 q12) 480 r = fun _ => 0 from funext fun j => dR_s480]
  · rw [U e12.symm, up_at]
    unfold ct13 cN
    rw [dR_s120, hc, show cS (dR c r n a p1 p7 q1 q2 q3 q4 q5 q12) 520 r = fun _ => 0 from funext fun j => dR_s520]
end
