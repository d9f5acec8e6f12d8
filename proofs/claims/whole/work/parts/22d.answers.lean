section
variable {g : Nat → Nat} {R : Option Value → cc_C → Prop} {X : String → cc_C → Prop}
def ansOkM (c : cc_C) (r n nc : Nat) : Prop := r < 20 ∧ cS c 880 0 r = nI n ∧ n ≤ 6 ∧ 3 ≤ n ∧ cS c 880 1 r = nI nc ∧ nc ≤ 8 ∧ ∀ e, e < nc → KvK n (clM c r) e
def pAM (f i : Nat) : Prop := ((f = 874 ∨ f = 875) ∧ i = 0) ∨ (f = 880 ∧ (i = 26 ∨ i = 27))
theorem clM_fr {P : Nat → Nat → Prop} {c d : cc_C} {r : Nat} (h : fr P c d) (hP : ∀ i, i < 20 → ¬ P 880 i) : clM d r = clM c r := by
  funext e
  unfold clM
  rw [h.row (hP 6 (by omega)), h.row (hP 7 (by omega)), h.row (hP 8 (by omega)), h.row (hP 9 (by omega))]
theorem ansOkM_fr {P : Nat → Nat → Prop} {c d : cc_C} {r n nc : Nat} (h : fr P c d) (hP : ∀ i, i < 20 → ¬ P 880 i) (o : ansOkM c r n nc) : ansOkM d r n nc := by
  obtain ⟨o1, o2, o3, o4, o5, o6, o7⟩ := o
  refine ⟨o1, by rw [h.row (hP 0 (by omega))]; exact o2, o3, o4, by rw [h.row (hP 1 (by omega))]; exact o5, o6, fun e he => ?_⟩
  rw [clM_fr h hP]
  exact o7 e he
theorem pAM_no : ∀ i, i < 20 → ¬ pAM 880 i := by
  intro i h hp
  unfold pAM at hp
  omega
theorem m_fitsAll {c : cc_C} {r a n nc : Nat} {l : List Nat} (s : sl c 21 0 0 a) (o : ansOkM c r n nc) (hnow : cS c 874 0 0 = nI r) (hr : Rp n (ofL l) (cS c 880 26)) (hp : ∀ k, ofL l k < n) (H : R (some (.int (bI (aF (clM c r) l nc)))) c) : wc g (wp_X9_fitsAll g) c [.ref a] R X := by
  obtain ⟨o1, o2, o3, o4, o5, o6, o7⟩ := o
  have loop : ∀ (m i : Nat), i + m = nc → ec g tb_X9_fitsAll 4 [some (.ref a), some (.int (bI (aF (clM c r) l i))), some (.int (nI i))] [] 0 0 c R X := by
    intro m
    induction m with
    | zero =>
      intro i hi
      obtain rfl : i = nc := by omega
      refine mk_X9_fitsAll_4 s ?_
      rw [hnow, nI_clamp (by omega), o5]
      exact ⟨vp_in_nI o1 (by omega), fun _ => ⟨nb_bI _, H⟩, fun e => absurd (nI_le (Nat.le_refl i) (by omega)) e⟩
    | succ m ih =>
      intro i hi
      refine mk_X9_fitsAll_4 s ?_
      rw [hnow, nI_clamp (by omega), o5]
      refine ⟨vp_in_nI o1 (by omega), fun e => absurd e (nI_ge (by omega) (by omega)), fun _ => ⟨fun e => ?_, fun e => m_fits (t := 8 * r + i) (l := l) s ?_ (by omega) o3 hr (fun k _ => hp k) (o7 i (by omega)) ⟨_, rfl, ?_⟩⟩⟩
      · have hF : aF (clM c r) l i = false := by
          cases h : aF (clM c r) l i with
          | false => rfl
          | true => rw [h] at e; exact absurd e (by decide)
        have := ih (i + 1) (by omega)
        rw [aF_mono hF 1] at this
        rw [nI_1]
        exact this
      · show nI 8 * nI r + nI i = _
        rw [pk_mul, nI_add]
      · have hT : aF (clM c r) l i = true := by
          cases h : aF (clM c r) l i with
          | true => rfl
          | false => rw [h] at e; exact absurd rfl e
        have := ih (i + 1) (by omega)
        have e1 : aF (clM c r) l (i + 1) = fitK (clM c r) i l := by
          show (aF (clM c r) l i && fitK (clM c r) i l) = _
          rw [hT]
          rfl
        rw [e1] at this
        rw [nI_1]
        show (bI (fitK (clM c r) i l) = 0 → _) ∧ (¬ bI (fitK (clM c r) i l) = 0 → _)
        cases hf : fitK (clM c r) i l with
        | false => rw [hf] at this; exact ⟨fun _ => this, fun e => absurd rfl e⟩
        | true => rw [hf] at this; exact ⟨fun e => absurd e (by decide), fun _ => this⟩
  exact mk_X9_fitsAll_0 s (loop nc 0 (by omega))
theorem m_found {c0 : cc_C} {r a n nc : Nat} {l : List Nat} {x1 x2 : Int32} : ∀ (m i : Nat) (c : cc_C), i + m = n → sl c 21 0 0 a → ansOkM c r n nc → cS c 874 0 0 = nI r → cS c 875 0 0 = 0 → Rp n (ofL l) (cS c 880 26) → Rp i (ofL l) (cS c 880 27) → fr pAM c0 c → (∀ d, fr pAM c0 d → cS d 875 0 0 = 0 → cS d 874 0 0 = nI r → Rp n (ofL l) (cS d 880 26) → Rp n (ofL l) (cS d 880 27) → ec g tb_X9_answersOf 82 [some (.ref a), some (.int x1), some (.int x2), some (.int 1), some (.int (nI n))] [] 0 0 d R X) → ec g tb_X9_answersOf 37 [some (.ref a), some (.int x1), some (.int x2), some (.int 1), some (.int (nI i))] [] 0 0 c R X
  | 0, i, c, hi, s, o, h4, h5, hr, hq, hf, H => by
    obtain rfl : i = n := by omega
    refine mk_X9_answersOf_37 s ⟨fun e => absurd e (by decide), fun _ => ⟨fun _ => ?_, fun e => absurd h5 e⟩⟩
    rw [h4, nI_clamp (by have := o.1; omega), o.2.1]
    exact ⟨vp_in_nI o.1 (by omega), fun _ => H c hf h5 h4 hr hq, fun e => absurd (nI_le (Nat.le_refl i) (by have := o.2.2.1; omega)) e⟩
  | m + 1, i, c, hi, s, o, h4, h5, hr, hq, hf, H => by
    have h6 := o.2.2.1
    have hr20 := o.1
    refine mk_X9_answersOf_37 s ⟨fun e => absurd e (by decide), fun _ => ⟨fun _ => ?_, fun e => absurd h5 e⟩⟩
    rw [h4, nI_clamp (by omega), o.2.1, nI_clamp (by omega), nI_1]
    refine ⟨vp_in_nI o.1 (by omega), fun e => absurd e (nI_ge (by omega) (by omega)), fun _ => ⟨vp_in_nI (by omega) (by omega), vp_in_nI (by omega) (by omega), ?_⟩⟩
    have f1 : fr (fun f i => f = 880 ∧ i = 27) c (cset c 880 27 i (cS c 880 26 i)) := fr_rfl.set ⟨rfl, rfl⟩
    refine m_found m (i + 1) _ (by omega) s (ansOkM_fr f1 (fun i hi h => by omega) o) ?_ ?_ ?_ ?_ (hf.set (Or.inr ⟨rfl, Or.inr rfl⟩)) H
    · rw [cS_f (by decide)]
      exact h4
    · rw [cS_f (by decide)]
      exact h5
    · rw [cS_fn (by omega)]
      exact hr
    · rw [cS_row]
      intro j hj
      unfold upd
      by_cases hji : j = i
      · rw [if_pos hji, hji, hr i (by omega)]
      · rw [if_neg hji]
        exact hq j (by omega)
end
