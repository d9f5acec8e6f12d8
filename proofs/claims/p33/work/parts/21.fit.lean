/-! clues and orders -/
def fitZ (k : Int32) (pa pb pc b c : Nat) : Bool :=
  if k = 112 then decide (pa = b) else if k = 120 then decide (¬ pa = b) else if k = 98 then decide (pa < pb) else if k = 110 then decide (pa = pb + 1 ∨ pb = pa + 1) else if k = 108 then decide (pa + 1 = pb) else if k = 100 then decide (pa = pb + c ∨ pb = pa + c) else decide ((pa < pc ∧ pc < pb) ∨ (pb < pc ∧ pc < pa))
def fitI (k xa xb xc : Int32) (l : List Nat) : Bool := fitZ k (ofL l xa.toNatClampNeg) (ofL l xb.toNatClampNeg) (ofL l xc.toNatClampNeg) xb.toNatClampNeg xc.toNatClampNeg
/-- a clue that a riddle of n persons can have -/
def Kv (n : Nat) (k xa xb xc : Int32) : Prop := (∃ a, xa = nI a ∧ a < n) ∧ (∃ b, xb = nI b ∧ b < n) ∧ (k = 112 ∨ k = 120 ∨ k = 98 ∨ k = 110 ∨ k = 108 ∨ (k = 100 ∧ ∃ c, xc = nI c ∧ 1 ≤ c ∧ c ≤ 5) ∨ (k = 109 ∧ ∃ c, xc = nI c ∧ c < n))
def bI (b : Bool) : Int32 := if b then 1 else 0
theorem nb_bI (b : Bool) : narrow .boolean (.int (bI b)) = .int (bI b) := by cases b <;> rfl
theorem abs_is {pa pb c : Nat} (ha : pa < 6) (hb : pb < 6) (hc : c < 6) : ((if 0 ≤ (nI pa - nI pb) then (nI pa - nI pb) else 0 - (nI pa - nI pb)) = nI c ↔ (pa = pb + c ∨ pb = pa + c)) := by
  have key : ∀ a, a < 6 → ∀ b, b < 6 → ∀ c, c < 6 → ((if 0 ≤ (nI a - nI b) then (nI a - nI b) else 0 - (nI a - nI b)) = nI c ↔ (a = b + c ∨ b = a + c)) := by decide +kernel
  exact key pa ha pb hb c hc
theorem sub_is {pa pb c : Nat} (ha : pa < 6) (hb : pb < 6) (hc : c < 6) : (nI pa - nI pb = nI c ↔ pa = pb + c) := by
  have key : ∀ a, a < 6 → ∀ b, b < 6 → ∀ c, c < 6 → (nI a - nI b = nI c ↔ a = b + c) := by decide +kernel
  exact key pa ha pb hb c hc
section
variable {g : Nat → Nat} {c : cc_C} {R : Option Value → cc_C → Prop} {X : String → cc_C → Prop}
theorem s_placeOf {q a n i : Nat} {p : Nat → Nat} {x : Int32} (s : sl c 18 q 0 a) (hl : cN c 720 q = n) (hn : n ≤ 6) (hr : Rp n p (cS c 760 q)) (hx : x = nI i) (hi : i < n) (H : R (some (.int (nI (p i)))) c) : wc g (wp_X3_placeOf g) c [.ref a, .int x] R X := by
  subst hx
  refine mk_X3_placeOf_0 s ⟨fun e => absurd e (nI_pos (by omega)), fun _ => ?_⟩
  rw [hl]
  refine ⟨fun e => absurd e (nI_ge hi (by omega)), fun _ => ⟨vp_in_nI hi (by omega), ?_⟩⟩
  rw [nI_clamp (by omega), hr i hi]
  exact H
theorem min_nI {a b : Nat} (ha : a < 100) (hb : b < 100) : (if nI b < nI a then nI b else nI a) = nI (min a b) := by
  by_cases h : b < a
  · rw [if_pos ((nI_ltI (by omega) (by omega)).mpr h)]
    congr 1
    omega
  · rw [if_neg (fun q => h ((nI_ltI (by omega) (by omega)).mp q))]
    congr 1
    omega
theorem max_nI {a b : Nat} (ha : a < 100) (hb : b < 100) : (if nI a < nI b then nI b else nI a) = nI (max a b) := by
  by_cases h : a < b
  · rw [if_pos ((nI_ltI (by omega) (by omega)).mpr h)]
    congr 1
    omega
  · rw [if_neg (fun q => h ((nI_ltI (by omega) (by omega)).mp q))]
    congr 1
    omega
theorem bI_c {z : Prop} {b : Bool} {P : Int32 → Prop} (h : z ↔ b = true) (H : P (bI b)) : (z → P 1) ∧ (¬ z → P 0) := by
  cases b with
  | true => exact ⟨fun _ => H, fun e => absurd (h.mpr rfl) e⟩
  | false => exact ⟨fun e => absurd (h.mp e) (by decide), fun _ => H⟩
theorem bI_n {z : Prop} {b : Bool} {P : Int32 → Prop} (h : z ↔ b = false) (H : P (bI b)) : (z → P 0) ∧ (¬ z → P 1) := by
  cases b with
  | false => exact ⟨fun _ => H, fun e => absurd (h.mpr rfl) e⟩
  | true => exact ⟨fun e => absurd (h.mp e) (by decide), fun _ => H⟩
theorem dec_t {P : Prop} [Decidable P] : P ↔ decide P = true := ⟨fun h => decide_eq_true h, fun h => of_decide_eq_true h⟩
theorem dec_f {P Q : Prop} [Decidable P] (h : Q ↔ ¬ P) : Q ↔ decide P = false := ⟨fun q => decide_eq_false (h.mp q), fun q => h.mpr (of_decide_eq_false q)⟩
theorem s_isFitBy {i a q b n : Nat} {l : List Nat} (s : sl c 6 i 0 a) (s2 : sl c 18 q 0 b) (hl : cN c 720 q = n) (hn : n ≤ 6) (hr : Rp n (ofL l) (cS c 760 q)) (hp : ∀ k, k < n → ofL l k < n) (hk : Kv n (cS c 240 i 0) (cS c 241 i 0) (cS c 242 i 0) (cS c 243 i 0)) (H : R (some (.int (bI (fitI (cS c 240 i 0) (cS c 241 i 0) (cS c 242 i 0) (cS c 243 i 0) l)))) c) : wc g (wp_X0_isFitBy g) c [.ref a, .ref b] R X := by
  obtain ⟨⟨ia, ea, la⟩, ⟨ib, eb, lb⟩, hk⟩ := hk
  refine mk_X0_isFitBy_0 s s2 (s_placeOf s2 hl hn hr ea la ⟨_, rfl, s_placeOf s2 hl hn hr eb lb ⟨_, rfl, ?_⟩⟩)
  rw [ea, eb] at H
  rw [eb]
  have h1 := hp ia la
  have h2 := hp ib lb
  unfold fitI at H
  rw [nI_clamp (by omega), nI_clamp (by omega)] at H
  generalize hpa : ofL l ia = pa at *
  generalize hpb : ofL l ib = pb at *
  generalize cS c 240 i 0 = k at *
  rcases hk with rfl | rfl | rfl | rfl | rfl | ⟨rfl, cc, ec, hc1, hc2⟩ | ⟨rfl, cc, ec, hc⟩
  · refine ⟨fun e => absurd e (by decide), fun _ => ⟨fun e => absurd e (by decide), fun _ => ⟨fun e => absurd e (by decide), fun _ => ⟨fun e => absurd e (by decide), fun _ => ⟨fun _ => ?_, fun e => absurd rfl e⟩⟩⟩⟩⟩
    exact bI_c (P := fun x => R (some (.int x)) c) ((nI_eq (by omega) (by omega)).trans dec_t) H
  · refine ⟨fun e => absurd e (by decide), fun _ => ⟨fun e => absurd e (by decide), fun _ => ⟨fun e => absurd e (by decide), fun _ => ⟨fun e => absurd e (by decide), fun _ => ⟨fun e => absurd e (by decide), fun _ => ⟨fun _ => ?_, fun e => absurd rfl e⟩⟩⟩⟩⟩⟩
    exact bI_n (P := fun x => R (some (.int x)) c) ((nI_eq (by omega) (by omega)).trans (dec_f (by omega))) H
  · refine ⟨fun _ => ?_, fun e => absurd rfl e⟩
    exact bI_n (P := fun x => R (some (.int x)) c) ((nI_leI (by omega) (by omega)).trans (dec_f (by omega))) H
  · refine ⟨fun e => absurd e (by decide), fun _ => ⟨fun e => absurd e (by decide), fun _ => ⟨fun e => absurd e (by decide), fun _ => ⟨fun _ => ?_, fun e => absurd rfl e⟩⟩⟩⟩
    exact bI_c (P := fun x => R (some (.int x)) c) ((abs_is (c := 1) (by omega) (by omega) (by omega)).trans dec_t) H
  · refine ⟨fun e => absurd e (by decide), fun _ => ⟨fun e => absurd e (by decide), fun _ => ⟨fun _ => ?_, fun e => absurd rfl e⟩⟩⟩
    rw [nI_1]
    exact bI_c (P := fun x => R (some (.int x)) c) ((nI_eq (by omega) (by omega)).trans dec_t) H
  · refine ⟨fun e => absurd e (by decide), fun _ => ⟨fun _ => ?_, fun e => absurd rfl e⟩⟩
    rw [ec, nI_clamp (by omega)] at H
    rw [ec]
    exact bI_c (P := fun x => R (some (.int x)) c) ((abs_is (by omega) (by omega) (by omega)).trans dec_t) H
  · refine ⟨fun e => absurd e (by decide), fun _ => ⟨fun e => absurd e (by decide), fun _ => ⟨fun e => absurd e (by decide), fun _ => ⟨fun e => absurd e (by decide), fun _ => ⟨fun e => absurd e (by decide), fun _ => ⟨fun e => absurd e (by decide), fun _ => ?_⟩⟩⟩⟩⟩⟩
    rw [ec, nI_clamp (by omega)] at H
    have h3 := hp cc hc
    refine s_placeOf s2 hl hn hr ec hc ⟨_, rfl, ?_⟩
    generalize hpc : ofL l cc = pc at *
    have H' : R (some (.int (bI (decide ((pa < pc ∧ pc < pb) ∨ (pb < pc ∧ pc < pa)))))) c := H
    rw [min_nI (by omega) (by omega)]
    refine ⟨fun e => ?_, fun e => s_placeOf s2 hl hn hr ec hc ⟨_, rfl, ?_⟩⟩
    · have := (nI_leI (by omega) (by omega)).mp e
      rw [decide_eq_false (by omega)] at H'
      exact H'
    · have e1 : ¬ pc ≤ min pa pb := fun z => e ((nI_leI (by omega) (by omega)).mpr z)
      rw [hpc, max_nI (by omega) (by omega)]
      exact bI_n (P := fun x => R (some (.int x)) c) ((nI_leI (by omega) (by omega)).trans (dec_f (by omega))) H'
end
