section
variable {g : Nat → Nat} {R : Option Value → cc_C → Prop} {X : String → cc_C → Prop}
def pO (o f i : Nat) : Prop := f = 562 ∧ i = o
theorem cexN_31 {k fz : Int32} {j w n : Nat} (h3 : 3 ≤ n) (hn : n ≤ 6) : cexN k j fz w n < 2 ^ 31 := by
  unfold cexN
  cases h : exF n (agP k j fz w n) (fuelN n) (List.range n) with
  | none => exact (by decide : 0 < 2 ^ 31)
  | some l => exact dgt_31 hn (exF_lt (by omega) (chainN h3 hn).1 h) hn
theorem lcx_31 {k fz : Int32} {j w : Nat} : ∀ (m n : Nat), 3 ≤ n → n + m ≤ 7 → lcx k j fz w m n < 2 ^ 31
  | 0, _, _, _ => (by decide : 0 < 2 ^ 31)
  | m + 1, n, h3, hm => by
    unfold lcx
    by_cases h : cexN k j fz w n = 0
    · rw [if_pos h]
      exact lcx_31 m (n + 1) (by omega) (by omega)
    · rw [if_neg h]
      exact cexN_31 h3 (by omega)
theorem frx.slo {P : Nat → Nat → Prop} {c d : cc_C} (h : frx P c d) {k i j a : Nat} (s : sl c k i j a) (h1 : k ≠ 18 := by decide) (h2 : k ≠ 19 := by decide) (h3 : k ≠ 6 := by decide) : sl d k i j a := ⟨by rw [h.1 k i j h1 h2 h3]; exact s.1, by rw [h.2.1 k i j h1 h2 h3]; exact s.2⟩
theorem frx.row {P : Nat → Nat → Prop} {c d : cc_C} (h : frx P c d) {f i : Nat} (hp : ¬ P f i) (h1 : f ≠ 720 := by decide) (h2 : f ≠ 760 := by decide) (h3 : ¬ (240 ≤ f ∧ f ≤ 243) := by decide) : cS d f i = cS c f i := h.2.2.2.2.2.1 f i hp h1 h2 h3
theorem s_cexMain {c0 : cc_C} {o t a j w : Nat} {fz : Int32} (s0 : sl c0 14 o 0 a) (v0 : cV c0 6 t 0) (ov : Ov (cS c0 560 o 0) (cS c0 563 o 0) fz (nI w) j w) (h564 : cS c0 564 o 0 = fz) (h565 : cS c0 565 o 0 = nI w) (hk : cS c0 240 t 0 = cS c0 560 o 0) (h241 : cS c0 241 t 0 = 0) (h242 : cS c0 242 t 0 = 1) (h243 : cS c0 243 t 0 = 2) : ∀ (m p : Nat) (c : cc_C) (kk nn : Nat), p + m = 7 → 3 ≤ p → kk ≤ 1 + 2 * (p - 3) → nn ≤ 4 + 7 * (p - 3) → frx (pO o) c0 c → (∀ d, frx (pO o) c0 d → cS d 562 o 0 = (if cS c 562 o 0 = 0 then nI (lcx (cS c0 560 o 0) j fz w m p) else cS c 562 o 0) → R none d) → ec g tb_X4_findCounterexample 17 [some (.ref a), some (.ref t), some (.int (nI p))] [] kk nn c R X := by
  have nO : ∀ f i, f ≠ 562 → ¬ pO o f i := fun f i h q => h q.1
  intro m
  induction m with
  | zero =>
    intro p c kk nn hp h3 hkk hnn hf H
    obtain rfl : p = 7 := by omega
    refine ec_cw fun hw => mk_X4_findCounterexample_17 (hf.slo s0) ⟨hf.2.2.1 t v0, hw.2.2.2.2.2.2.2.1 t (hf.2.2.1 t v0)⟩ ⟨fun _ => ⟨⟨by omega, by omega⟩, H c hf ?_⟩, fun e => absurd (nI_lt (a := 6) (b := 7) (by omega) (by omega)) e⟩
    by_cases h : cS c 562 o 0 = 0
    · rw [if_pos h]
      exact h
    · rw [if_neg h]
  | succ m ih =>
    intro p c kk nn hp h3 hkk hnn hf H
    refine ec_cw fun hw => mk_X4_findCounterexample_17 (hf.slo s0) ⟨hf.2.2.1 t v0, hw.2.2.2.2.2.2.2.1 t (hf.2.2.1 t v0)⟩ ⟨fun e => absurd e (nI_nlt (a := 6) (b := p) (by omega) (by omega)), fun _ => ⟨fun e => ⟨⟨by omega, by omega⟩, ⟨by omega, by omega⟩, s_newOrder rfl (by omega) (fun b q w18 w19 => ⟨b, ⟨Or.inr (Or.inl ⟨rfl, rfl, rfl⟩), dO_a18⟩, ⟨by omega, by omega⟩, ?_⟩)⟩, fun e => ?_⟩⟩
    · generalize hd0 : dO c b q p = d0 at *
      have fx : frx (pO o) c0 d0 := hf.trans (hd0 ▸ frx_dO)
      have r564 : cS d0 564 o 0 = fz := by rw [fx.row (nO _ _ (by decide))]; exact h564
      have r565 : cS d0 565 o 0 = nI w := by rw [fx.row (nO _ _ (by decide))]; exact h565
      have go : wc g (wp_X4_findCounterexampleOf g) d0 [.ref a, .ref b, .ref t, .int (setW w p fz)] (fun v22 c17 => v22 = none ∧ ec g tb_X4_findCounterexample 17 [some (.ref a), some (.ref t), some (.int (nI p + 1))] [] (kk + 1 + 1) (nn + 1 + 6) c17 R X) X := by
        refine wc_cw fun hw0 => ?_
        have sd0 : sl d0 14 o 0 a := fx.slo s0
        have sb0 : sl d0 18 b 0 b := hd0 ▸ ⟨Or.inr (Or.inl ⟨rfl, rfl, rfl⟩), dO_a18⟩
        have st0 : sl d0 6 t 0 t := ⟨fx.2.2.1 t v0, hw0.2.2.2.2.2.2.2.1 t (fx.2.2.1 t v0)⟩
        have hl0 : cN d0 720 b = p := by
          unfold cN
          rw [← hd0, dO_s720, nI_clamp (by omega)]
        have r0 : Rp p (ofL (List.range p)) (cS d0 760 b) := by
          intro i hi
          rw [← hd0, dO_s760, if_pos hi, ofL_range hi]
        have x560 : cS d0 560 o = cS c0 560 o := fx.row (nO _ _ (by decide))
        have x563 : cS d0 563 o = cS c0 563 o := fx.row (nO _ _ (by decide))
        have x562 : cS d0 562 o 0 = 0 := by
          rw [← hd0, dO_S (by omega)]
          exact e
        have y : ∀ f, 240 ≤ f → f ≤ 243 → cS d0 f t = cS c0 f t := fun f h1 h2 => fx.2.2.2.2.2.2 t f v0 h1 h2
        have hch := chainN h3 (show p ≤ 6 by omega)
        refine mk_X4_findCounterexampleOf_0 sd0 sb0 st0 (s_cexLoop sd0 sb0 st0 hl0 h3 (by omega) (by rw [x560, x563]; exact ov) (by rw [y 240 (by decide) (by decide), x560]; exact hk) (by rw [y 241 (by decide) (by decide)]; exact h241) (by rw [y 242 (by decide) (by decide)]; exact h242) (by rw [y 243 (by decide) (by decide)]; exact h243) rfl (fuelN p) d0 (List.range p) 0 _ hch.1 (by omega) fr_rfl r0 (fun d hd hN hS => ⟨rfl, ?_⟩))
        rw [nI_1]
        have fxd : frx (pO o) c0 d := fx.trans (hd.x (fun f i h _ h76 _ => h.elim id (fun q => absurd q.1 h76)) (fun f i h => by unfold pCex at h; omega))
        have hv : cS d 562 o 0 = nI (cexN (cS c0 560 o 0) j fz w p) := by
          unfold cexN
          rw [x560] at hN hS
          cases hex : exF p (agP (cS c0 560 o 0) j fz w p) (fuelN p) (List.range p) with
          | none => rw [hN hex, x562]; rfl
          | some l => exact hS l hex
        refine ih (p + 1) d _ _ (by omega) (by omega) (by omega) (by omega) fxd (fun d' hd' he => H d' hd' ?_)
        rw [if_pos e, he, hv]
        have hlt := cexN_31 (k := cS c0 560 o 0) (fz := fz) (j := j) (w := w) h3 (show p ≤ 6 by omega)
        conv => rhs; unfold lcx
        by_cases hz : cexN (cS c0 560 o 0) j fz w p = 0
        · rw [if_pos hz, hz]
          rfl
        · rw [if_neg hz, if_neg (nI_ne0 (by omega) hlt)]
      refine mk_X4_placesOf_0 (fx.slo s0) ⟨fun h => ⟨_, rfl, ⟨by omega, by omega⟩, ?_⟩, fun h => ⟨_, rfl, ⟨by omega, by omega⟩, ?_⟩⟩
      · rw [r564] at h
        rw [r565]
        unfold setW at go
        rw [if_pos h] at go
        exact go
      · rw [r564] at h
        rw [r565]
        unfold setW at go
        rw [if_neg h] at go
        exact go
    · rw [nI_1]
      refine ih (p + 1) c kk nn (by omega) (by omega) (by omega) (by omega) hf (fun d hd he => H d hd ?_)
      rw [if_neg e] at he ⊢
      exact he
theorem frx_dK {P : Nat → Nat → Prop} {c : cc_C} {t : Nat} {x0 x1 x2 x3 : Int32} (wt : ¬ cV c 6 t 0) : frx P c (dK c t x0 x1 x2 x3) := ⟨fun k i j a b z => by
    show (cV c k i j ∨ (k = 6 ∧ i = t ∧ j = 0)) = _
    exact propext ⟨fun h => h.elim id (fun h => absurd h.1 z), Or.inl⟩, fun k i j a b z => dK_A (fun h => z h.1), fun i hv => Or.inl hv, rfl, rfl, fun f i _ a b z => funext fun j => dK_S (fun h => z h.2), fun i f hv a b => funext fun j => dK_S (fun h => wt (h.1 ▸ hv))⟩
theorem s_findCex {c : cc_C} {o a j w : Nat} {fz : Int32} (s : sl c 14 o 0 a) (ov : Ov (cS c 560 o 0) (cS c 563 o 0) fz (nI w) j w) (h562 : cS c 562 o 0 = 0) (h564 : cS c 564 o 0 = fz) (h565 : cS c 565 o 0 = nI w) (H : ∀ d, frx (pO o) c d → cS d 562 o 0 = nI (lcx (cS c 560 o 0) j fz w 4 3) → R none d) : wc g (wp_X4_findCounterexample g) c [.ref a] R X := by
  have nc : narrow .char (.int (cS c 560 o 0)) = .int (cS c 560 o 0) ∧ fits .char (.int (cS c 560 o 0)) = true := by
    rcases ov.1 with h | h | h | h <;> rw [h] <;> exact ⟨rfl, rfl⟩
  refine mk_X4_findCounterexample_0 s (s_newClue nc (fun t wt => ⟨t, ⟨Or.inr ⟨rfl, rfl, rfl⟩, if_pos ⟨rfl, rfl, rfl⟩⟩, ?_⟩))
  have fx : frx (pO o) c (dK c t (cS c 560 o 0) 0 1 2) := frx_dK wt
  have nO : ∀ f i, f ≠ 562 → ¬ pO o f i := fun f i h q => h q.1
  have r : ∀ f, f ≠ 562 → f ≠ 720 → f ≠ 760 → ¬ (240 ≤ f ∧ f ≤ 243) → cS (dK c t (cS c 560 o 0) 0 1 2) f o = cS c f o := fun f h1 h2 h3 h4 => fx.row (nO _ _ h1) h2 h3 h4
  have r560 := r 560 (by decide) (by decide) (by decide) (by decide)
  have r563 := r 563 (by decide) (by decide) (by decide) (by decide)
  have r564 := r 564 (by decide) (by decide) (by decide) (by decide)
  have r565 := r 565 (by decide) (by decide) (by decide) (by decide)
  have r562 : cS (dK c t (cS c 560 o 0) 0 1 2) 562 o 0 = 0 := (dK_S (by omega)).trans h562
  refine s_cexMain (j := j) (w := w) (fz := fz) (fx.slo s) (Or.inr ⟨rfl, rfl, rfl⟩) (by rw [r560, r563]; exact ov) (by rw [r564]; exact h564) (by rw [r565]; exact h565) (by rw [r560]; exact dK_at.1) dK_at.2.1 dK_at.2.2.1 dK_at.2.2.2 4 3 _ 1 4 (by omega) (by omega) (by omega) (by omega) ⟨fun _ _ _ _ _ _ => rfl, fun _ _ _ _ _ _ => rfl, fun _ h => h, rfl, rfl, fun _ _ _ _ _ _ => rfl, fun _ _ _ _ _ => rfl⟩ (fun d hd he => H d (fx.trans hd) ?_)
  rw [he, if_pos r562, r560]
end
