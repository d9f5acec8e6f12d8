section
variable {g : Nat → Nat} {R : Option Value → cc_C → Prop} {X : String → cc_C → Prop}
def pSt (f i : Nat) : Prop := f = 880 ∧ i = 26
theorem pSt_no : ∀ i, i < 20 → ¬ pSt 880 i := fun i h q => by
  have := q.2
  omega
theorem m_dig {c : cc_C} {a n : Nat} {x1 : Int32} {b : Bool} {l : List Nat} (s : sl c 21 0 0 a) (hn : n ≤ 6) (hr : Rp n (ofL l) (cS c 880 26)) (H : R (some (.int (if b then nI (dgt n l n) else 0))) c) : ∀ (m i : Nat), i + m = n → ec g tb_X9_against 35 [some (.ref a), some (.int x1), some (.int (nI n)), some (.int (bI b)), some (.int (nI (dgt n l i))), some (.int (nI i))] [] 0 0 c R X
  | 0, i, hi => by
    obtain rfl : i = n := by omega
    refine mk_X9_against_35 s ⟨fun _ => ?_, fun e => absurd (nI_le (Nat.le_refl i) (by omega)) e⟩
    cases b with
    | true => exact ⟨fun q => absurd q (by decide), fun _ => H⟩
    | false => exact ⟨fun _ => H, fun q => absurd rfl q⟩
  | m + 1, i, hi => by
    refine mk_X9_against_35 s ⟨fun e => absurd e (nI_ge (by omega) (by omega)), fun _ => ⟨vp_in_nI (by omega) (by omega), ?_⟩⟩
    rw [nI_clamp (by omega), hr i (by omega), nI_1]
    have : (10 : Int32) * nI (dgt n l i) + nI (ofL l i) = nI (dgt n l (i + 1)) := by
      show nI 10 * nI (dgt n l i) + nI (ofL l i) = _
      rw [pk_mul, nI_add]
      rfl
    rw [this]
    exact m_dig s hn hr H m (i + 1) (by omega)
theorem m_agLoop {c0 : cc_C} {a u n j w : Nat} {k fz : Int32} (s0 : sl c0 21 0 0 a) (o0 : OvM c0 u k fz j w) (hn3 : 3 ≤ n) (hn : n ≤ 6) : ∀ (m : Nat) (c : cc_C) (l : List Nat) (o4 o5 : Option Value), chain n m l = true → fr pSt c0 c → Rp n (ofL l) (cS c 880 26) → (∀ d, fr pSt c0 d → R (some (.int (nI (match exF n (agP k j fz w n) m l with | none => 0 | some l' => dgt n l' n)))) d) → ec g tb_X9_against 7 [some (.ref a), some (.int (nI u)), some (.int (nI n)), some (.int 1), o4, o5] [] 0 0 c R X := by
  intro m
  induction m with
  | zero =>
    intro c l o4 o5 hch hf hr H
    have hlt := chain_lt (show 0 < n by omega) hch
    have e0 := chain_0 hch
    refine mk_X9_against_7 (hf.sl s0) ⟨fun q => absurd q (by decide), fun _ => m_isAgainst (hf.sl s0) (OvM_fr hf pSt_no o0) hn3 hn hr hlt ⟨_, rfl, ?_⟩⟩
    cases hP : agP k j fz w n l with
    | false =>
      refine ⟨fun _ => m_goesOn (hf.sl s0) rfl (by omega) hn hr (fun k _ => by have := hlt k; omega) (fun _ => ⟨_, rfl, mk_X9_against_7 (hf.sl s0) ⟨fun _ => m_dig (b := false) (l := l) (hf.sl s0) hn hr ?_ n 0 (by omega), fun q => absurd rfl q⟩⟩) (fun p' hp' => ?_), fun q => absurd rfl q⟩
      · have := H c hf
        unfold exF at this
        rw [hP] at this
        exact this
      · rw [e0] at hp'
        cases hp'
    | true =>
      refine ⟨fun q => absurd q (by decide), fun _ => m_dig (b := true) (l := l) (hf.sl s0) hn hr ?_ n 0 (by omega)⟩
      have := H c hf
      unfold exF at this
      rw [hP] at this
      exact this
  | succ m ih =>
    intro c l o4 o5 hch hf hr H
    have hlt := chain_lt (show 0 < n by omega) hch
    obtain ⟨p', e0, e1, hch'⟩ := chain_s hch
    refine mk_X9_against_7 (hf.sl s0) ⟨fun q => absurd q (by decide), fun _ => m_isAgainst (hf.sl s0) (OvM_fr hf pSt_no o0) hn3 hn hr hlt ⟨_, rfl, ?_⟩⟩
    cases hP : agP k j fz w n l with
    | false =>
      refine ⟨fun _ => m_goesOn (hf.sl s0) rfl (by omega) hn hr (fun k _ => by have := hlt k; omega) (fun h => ?_) (fun p'' hp' d hd hrd => ⟨_, rfl, ?_⟩), fun q => absurd rfl q⟩
      · rw [e0] at h
        cases h
      · rw [e0] at hp'
        cases hp'
        have e2 : exF n (agP k j fz w n) (m + 1) l = exF n (agP k j fz w n) m (lsP n p') := by
          conv => lhs; unfold exF
          rw [hP, e1]
          rfl
        rw [e2] at H
        exact ih d (lsP n p') _ _ hch' (hf.trans hd) (Rp_ls hrd) H
    | true =>
      refine ⟨fun q => absurd q (by decide), fun _ => m_dig (b := true) (l := l) (hf.sl s0) hn hr ?_ n 0 (by omega)⟩
      have := H c hf
      unfold exF at this
      rw [hP] at this
      exact this
theorem m_against {c : cc_C} {a u n j w : Nat} {k fz : Int32} (s : sl c 21 0 0 a) (o : OvM c u k fz j w) (hn3 : 3 ≤ n) (hn : n ≤ 6) (H : ∀ d, fr pSt c d → R (some (.int (nI (cexN k j fz w n)))) d) : wc g (wp_X9_against g) c [.ref a, .int (nI u), .int (nI n)] R X := by
  have hch := chainN hn3 hn
  refine mk_X9_against_0 s (m_begins s rfl hn (fun d hd hid => ⟨rfl, m_agLoop s o hn3 hn (fuelN n) d (List.range n) _ _ hch.1 hd (fun i hi => ?_) H⟩))
  rw [ofL_range hi]
  exact hid i hi
theorem m_leastAgainst {c : cc_C} {a u j w : Nat} {x k fz : Int32} (s : sl c 21 0 0 a) (hx : x = nI u) (o : OvM c u k fz j w) (H : ∀ d, fr pSt c d → R (some (.int (nI (lcx k j fz w 4 3)))) d) : wc g (wp_X9_leastAgainst g) c [.ref a, .int x] R X := by
  subst hx
  have loop : ∀ (m p v : Nat) (d : cc_C), p + m = 7 → 3 ≤ p → v < 2 ^ 31 → fr pSt c d → (∀ d, fr pSt c d → R (some (.int (nI (if v = 0 then lcx k j fz w m p else v)))) d) → ec g tb_X9_leastAgainst 4 [some (.ref a), some (.int (nI u)), some (.int (nI v)), some (.int (nI p))] [] 0 0 d R X := by
    intro m
    induction m with
    | zero =>
      intro p v d hp h3 hv hf H
      obtain rfl : p = 7 := by omega
      refine mk_X9_leastAgainst_4 (hf.sl s) ⟨fun _ => ?_, fun e => absurd (nI_lt (a := 6) (b := 7) (by omega) (by omega)) e⟩
      have := H d hf
      by_cases hz : v = 0
      · rw [if_pos hz] at this
        rw [hz]
        exact this
      · rw [if_neg hz] at this
        exact this
    | succ m ih =>
      intro p v d hp h3 hv hf H
      refine mk_X9_leastAgainst_4 (hf.sl s) ⟨fun e => absurd e (nI_nlt (a := 6) (b := p) (by omega) (by omega)), fun _ => ⟨fun e => ?_, fun e => ?_⟩⟩
      · have hz : v = 0 := (nI_eq (a := v) (b := 0) hv (by omega)).mp e
        have h31 := cexN_31 (k := k) (fz := fz) (j := j) (w := w) h3 (show p ≤ 6 by omega)
        refine m_against (hf.sl s) (OvM_fr hf pSt_no o) h3 (by omega) (fun d' hd' => ⟨_, rfl, ?_⟩)
        rw [nI_1]
        refine ih (p + 1) _ d' (by omega) (by omega) h31 (hf.trans hd') (fun e he => ?_)
        have := H e he
        rw [if_pos hz] at this
        conv at this => unfold lcx
        exact this
      · have hz : ¬ v = 0 := fun q => e (by rw [q]; rfl)
        have := H d hf
        rw [if_neg hz] at this
        exact this
  exact mk_X9_leastAgainst_0 s (loop 4 3 0 c (by omega) (by omega) (by omega) fr_rfl H)
end
