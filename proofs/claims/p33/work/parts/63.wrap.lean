/-! the law's wrappers: what they answer -/
def pS (a : Nat) (M : cc_M) (d : cc_C) : Prop := sl d 0 0 0 a ∧ CL d M
theorem wc_le {g : Nat → Nat} {W : ab_Wp} {c : cc_C} {as : List Value} {R : Option Value → cc_C → Prop} {X : String → cc_C → Prop} (H : wc g W c as R X) : wc g W c as (fun v d => cle c d ∧ R v d) (fun e d => cle c d ∧ X e d) := fun L h R2 XP cc hR hX => H L h R2 XP cc (fun v L' h' c' q le r => hR v L' h' c' q le ⟨le, r⟩) (fun e L' h' c' q le r => hX e L' h' c' q le ⟨le, r⟩)
def xO : List (String × Int32) → String → (Int32 → Prop) → Prop
  | [], _, _ => False
  | x :: r, E, F => (E = x.1 ∧ F x.2) ∨ xO r E F
theorem xO_of : ∀ {cs : List (String × Int32)} {k : Nat} {E : String} {F : Int32 → Prop}, (cs.map Prod.fst)[k]? = some E → F (cs.getD k ("", 0)).2 → xO cs E F
  | [], _, _, _, h, _ => by cases h
  | x :: r, 0, E, F, h, q => by
    cases h
    exact Or.inl ⟨rfl, q⟩
  | x :: r, k + 1, E, F, h, q => Or.inr (xO_of (cs := r) (k := k) h q)
/-- a wrapper's answer: the call's, or the code of what it threw -/
def vW (cs : List (String × Int32)) (sp : cc_Sp) : Int32 := if sp.1 = 0 then sp.2.1 else (cs.getD (sp.1 - 1) ("", 0)).2
abbrev cI1 : List (String × Int32) := [("java/lang/IndexOutOfBoundsException", -77)]
abbrev cIN : List (String × Int32) := [("java/lang/IndexOutOfBoundsException", -77), ("java/util/NoSuchElementException", -75)]
abbrev cIU : List (String × Int32) := [("java/lang/IndexOutOfBoundsException", -77), ("java/lang/UnsupportedOperationException", -76)]
abbrev cAS : List (String × Int32) := [("java/lang/IllegalArgumentException", -78), ("java/lang/IllegalStateException", -79)]
abbrev c_S : List (String × Int32) := [("java/lang/IllegalStateException", -79)]
abbrev cIAUS : List (String × Int32) := [("java/lang/IndexOutOfBoundsException", -77), ("java/lang/IllegalArgumentException", -78), ("java/lang/UnsupportedOperationException", -76), ("java/lang/IllegalStateException", -79)]
abbrev cIUS : List (String × Int32) := [("java/lang/IndexOutOfBoundsException", -77), ("java/lang/UnsupportedOperationException", -76), ("java/lang/IllegalStateException", -79)]
abbrev cIAU : List (String × Int32) := [("java/lang/IndexOutOfBoundsException", -77), ("java/lang/IllegalArgumentException", -78), ("java/lang/UnsupportedOperationException", -76)]
abbrev cIAR : List (String × Int32) := [("java/lang/IndexOutOfBoundsException", -77), ("java/lang/IllegalArgumentException", -78), ("java/lang/ArithmeticException", -74)]
abbrev cIA : List (String × Int32) := [("java/lang/IndexOutOfBoundsException", -77), ("java/lang/IllegalArgumentException", -78)]
section
variable {g : Nat → Nat} {W : ab_Wp} {as : List Value} {c : cc_C} {M : cc_M} {sp : cc_Sp} {l : List String} {cs : List (String × Int32)} {R : Option Value → cc_C → Prop} {X : String → cc_C → Prop} {a t : Nat} {x y z u : Int32}
theorem lw_x (hl : cs.map Prod.fst = l) (s : sl c 0 0 0 a) (H : ∀ d, pS a sp.2.2 d → R (some (.int (vW cs sp))) d) {E : String} {d : cc_C} (h : cle c d ∧ okX l sp c E d) : xO cs E (fun z => R (some (.int z)) d) := by
  obtain ⟨le, k, e1, e2, e3, e4⟩ := h
  subst hl
  refine xO_of e2 ?_
  have := H d ⟨s.mono le, e4⟩
  unfold vW at this
  rw [if_neg (by omega), show sp.1 - 1 = k by omega] at this
  exact this
theorem lw_i (hl : cs.map Prod.fst = l) (s : sl c 0 0 0 a) (hc : wc g W c as (okC sp c) (okX l sp c)) (H : ∀ d, pS a sp.2.2 d → R (some (.int (vW cs sp))) d) : wc g W c as (fun v d => ∃ x : Int32, v = some (.int x) ∧ R (some (.int x)) d) (fun E d => xO cs E (fun z => R (some (.int z)) d)) := by
  refine wc_mono (wc_le hc) (fun v d h => ?_) (fun E d h => lw_x hl s H h)
  obtain ⟨le, h1, h2, h3, h4⟩ := h
  refine ⟨sp.2.1, h2, ?_⟩
  have := H d ⟨s.mono le, h4⟩
  unfold vW at this
  rw [if_pos h1] at this
  exact this
theorem lw_b (hl : cs.map Prod.fst = l) (s : sl c 0 0 0 a) (hb : sp.1 = 0 → sp.2.1 = 0 ∨ sp.2.1 = 1) (hc : wc g W c as (okC sp c) (okX l sp c)) (H : ∀ d, pS a sp.2.2 d → R (some (.int (vW cs sp))) d) : wc g W c as (fun v d => ∃ x : Int32, v = some (.int x) ∧ ((x = 0 → R (some (.int 0)) d) ∧ (¬ x = 0 → R (some (.int 1)) d))) (fun E d => xO cs E (fun z => R (some (.int z)) d)) := by
  refine wc_mono (wc_le hc) (fun v d h => ?_) (fun E d h => lw_x hl s H h)
  obtain ⟨le, h1, h2, h3, h4⟩ := h
  have := H d ⟨s.mono le, h4⟩
  unfold vW at this
  rw [if_pos h1] at this
  refine ⟨sp.2.1, h2, fun q => ?_, fun q => ?_⟩
  · rw [q] at this
    exact this
  · rcases hb h1 with e | e
    · exact absurd e q
    · rw [e] at this
      exact this
theorem bI_01 (b : Bool) : bI b = 0 ∨ bI b = 1 := by
  cases b
  · exact Or.inl rfl
  · exact Or.inr rfl
theorem ixm_01 {o : Option Nat} {F : Nat → cc_Sp} (h : ∀ r, (F r).1 = 0 → (F r).2.1 = 0 ∨ (F r).2.1 = 1) : (ixm o M F).1 = 0 → (ixm o M F).2.1 = 0 ∨ (ixm o M F).2.1 = 1 := by
  cases o with
  | none => exact fun q => absurd q (show ¬ (1 : Nat) = 0 by decide)
  | some r => exact h r
theorem lX_riddle (s : sl c 0 0 0 a) (hC : CL c M) (w : wfM M t) (H : ∀ d, pS a (spRiddle M x).2.2 d → R (some (.int (vW cAS (spRiddle M x)))) d) : wc g (wp_L_riddle g) c [.ref a, .int x] R X := mk_L_riddle_0 s (lw_i rfl s (c_riddle s hC w) H)
theorem lX_clue {q : Nat} (hq : q < 65536) (s : sl c 0 0 0 a) (hC : CL c M) (w : wfM M t) (H : ∀ d, pS a (spClue M x (nI q) y z u).2.2 d → R (some (.int (vW cIAUS (spClue M x (nI q) y z u)))) d) : wc g (wp_L_clue g) c [.ref a, .int x, .int (nI q), .int y, .int z, .int u] R X := mk_L_clue_0 s (lw_i rfl s (c_clue hq s hC w) H)
theorem lX_answers (s : sl c 0 0 0 a) (hC : CL c M) (w : wfM M t) (H : ∀ d, pS a (spAnsw M x).2.2 d → R (some (.int (vW cI1 (spAnsw M x)))) d) : wc g (wp_L_answers g) c [.ref a, .int x] R X := mk_L_answers_0 s (lw_i rfl s (c_answers s hC w) H)
theorem lX_answer (s : sl c 0 0 0 a) (hC : CL c M) (w : wfM M t) (H : ∀ d, pS a (spAns M x y).2.2 d → R (some (.int (vW cIN (spAns M x y)))) d) : wc g (wp_L_answer g) c [.ref a, .int x, .int y] R X := mk_L_answer_0 s (lw_i rfl s (c_answer s hC w) H)
theorem lX_prove (s : sl c 0 0 0 a) (hC : CL c M) (w : wfM M t) (H : ∀ d, pS a (spProve M x).2.2 d → R (some (.int (vW cIU (spProve M x)))) d) : wc g (wp_L_prove g) c [.ref a, .int x] R X := mk_L_prove_0 s (lw_i rfl s (c_prove s hC w) H)
theorem lX_steps (s : sl c 0 0 0 a) (hC : CL c M) (w : wfM M t) (H : ∀ d, pS a (spSteps M x).2.2 d → R (some (.int (vW cIN (spSteps M x)))) d) : wc g (wp_L_steps g) c [.ref a, .int x] R X := mk_L_steps_0 s (lw_i rfl s (c_steps s hC w) H)
theorem lX_ruleAt (s : sl c 0 0 0 a) (hC : CL c M) (w : wfM M t) (H : ∀ d, pS a (spAt (fun z => z.1) M x y).2.2 d → R (some (.int (vW cIN (spAt (fun z => z.1) M x y)))) d) : wc g (wp_L_ruleAt g) c [.ref a, .int x, .int y] R X := mk_L_ruleAt_0 s (lw_i rfl s (c_ruleAt s hC w) H)
theorem lX_causeAt (s : sl c 0 0 0 a) (hC : CL c M) (w : wfM M t) (H : ∀ d, pS a (spAt (fun z => z.2.1) M x y).2.2 d → R (some (.int (vW cIN (spAt (fun z => z.2.1) M x y)))) d) : wc g (wp_L_causeAt g) c [.ref a, .int x, .int y] R X := mk_L_causeAt_0 s (lw_i rfl s (c_causeAt s hC w) H)
theorem lX_takenAt (s : sl c 0 0 0 a) (hC : CL c M) (w : wfM M t) (H : ∀ d, pS a (spAt (fun z => z.2.2) M x y).2.2 d → R (some (.int (vW cIN (spAt (fun z => z.2.2) M x y)))) d) : wc g (wp_L_takenAt g) c [.ref a, .int x, .int y] R X := mk_L_takenAt_0 s (lw_i rfl s (c_takenAt s hC w) H)
theorem lX_leansOn (s : sl c 0 0 0 a) (hC : CL c M) (w : wfM M t) (H : ∀ d, pS a (spLeans M x y).2.2 d → R (some (.int (vW cI1 (spLeans M x y)))) d) : wc g (wp_L_leansOn g) c [.ref a, .int x, .int y] R X := mk_L_leansOn_0 s (lw_b rfl s (ixm_01 fun r => ixm_01 fun u _ => bI_01 _) (c_leansOn s hC w) H)
theorem lX_state (s : sl c 0 0 0 a) (hC : CL c M) (w : wfM M t) (H : ∀ d, pS a (spState M x).2.2 d → R (some (.int (vW cI1 (spState M x)))) d) : wc g (wp_L_state g) c [.ref a, .int x] R X := mk_L_state_0 s (lw_i rfl s (c_state s hC w) H)
theorem lX_rule {q qp : Nat} {b : Bool} (hq : q < 65536) (hp : qp < 65536) (s : sl c 0 0 0 a) (hC : CL c M) (w : wfM M t) (H : ∀ d, pS a (spRule M (nI q) (nI qp) b x).2.2 d → R (some (.int (vW cAS (spRule M (nI q) (nI qp) b x)))) d) : wc g (wp_L_rule g) c [.ref a, .int (nI q), .int (nI qp), .int (bI b), .int x] R X := mk_L_rule_0 s (lw_i rfl s (c_rule hq hp s hC w) H)
theorem lX_stands (s : sl c 0 0 0 a) (hC : CL c M) (w : wfM M t) (H : ∀ d, pS a (spStands M x).2.2 d → R (some (.int (vW cI1 (spStands M x)))) d) : wc g (wp_L_stands g) c [.ref a, .int x] R X := mk_L_stands_0 s (lw_b rfl s (ixm_01 fun r _ => bI_01 _) (c_stands s hC w) H)
theorem lX_counterexample (s : sl c 0 0 0 a) (hC : CL c M) (w : wfM M t) (H : ∀ d, pS a (spCex M x).2.2 d → R (some (.int (vW cIN (spCex M x)))) d) : wc g (wp_L_counterexample g) c [.ref a, .int x] R X := mk_L_counterexample_0 s (lw_i rfl s (c_counterexample s hC w) H)
theorem lX_fall (s : sl c 0 0 0 a) (hC : CL c M) (w : wfM M t) (H : ∀ d, pS a (spFall M x).2.2 d → R (some (.int (vW cIU (spFall M x)))) d) : wc g (wp_L_fall g) c [.ref a, .int x] R X := mk_L_fall_0 s (lw_i rfl s (c_fall s hC w) H)
theorem lX_issue (s : sl c 0 0 0 a) (hC : CL c M) (w : wfM M t) (H : ∀ d, pS a (spIssue M).2.2 d → R (some (.int (vW c_S (spIssue M)))) d) : wc g (wp_L_issue g) c [.ref a] R X := mk_L_issue_0 s (lw_i rfl s (c_issue s hC w) H)
theorem lX_put (s : sl c 0 0 0 a) (hC : CL c M) (w : wfM M t) (H : ∀ d, pS a (spPut M x y).2.2 d → R (some (.int (vW cIUS (spPut M x y)))) d) : wc g (wp_L_put g) c [.ref a, .int x, .int y] R X := mk_L_put_0 s (lw_i rfl s (c_put s hC w) H)
theorem lX_publish (s : sl c 0 0 0 a) (hC : CL c M) (w : wfM M t) (H : ∀ d, pS a (spPub M x y).2.2 d → R (some (.int (vW cIAU (spPub M x y)))) d) : wc g (wp_L_publish g) c [.ref a, .int x, .int y] R X := mk_L_publish_0 s (lw_i rfl s (c_publish s hC w) H)
theorem lX_issueState (s : sl c 0 0 0 a) (hC : CL c M) (w : wfM M t) (H : ∀ d, pS a (spIst M x).2.2 d → R (some (.int (vW cI1 (spIst M x)))) d) : wc g (wp_L_issueState g) c [.ref a, .int x] R X := mk_L_issueState_0 s (lw_i rfl s (c_issueState s hC w) H)
theorem lX_indexed (s : sl c 0 0 0 a) (hC : CL c M) (w : wfM M t) (H : ∀ d, pS a (spIdx M x).2.2 d → R (some (.int (vW cI1 (spIdx M x)))) d) : wc g (wp_L_indexed g) c [.ref a, .int x] R X := mk_L_indexed_0 s (lw_i rfl s (c_indexed s hC w) H)
theorem lX_customer (s : sl c 0 0 0 a) (hC : CL c M) (w : wfM M t) (H : ∀ d, pS a (spCust M).2.2 d → R (some (.int (vW c_S (spCust M)))) d) : wc g (wp_L_customer g) c [.ref a] R X := mk_L_customer_0 s (lw_i rfl s (c_customer s hC w) H)
theorem lX_deposit (s : sl c 0 0 0 a) (hC : CL c M) (w : wfM M t) (H : ∀ d, pS a (spDep M x y).2.2 d → R (some (.int (vW cIAR (spDep M x y)))) d) : wc g (wp_L_deposit g) c [.ref a, .int x, .int y] R X := mk_L_deposit_0 s (lw_i rfl s (c_deposit s hC w) H)
theorem lX_subscribe (s : sl c 0 0 0 a) (hC : CL c M) (w : wfM M t) (H : ∀ d, pS a (spSub M x y).2.2 d → R (some (.int (vW cIA (spSub M x y)))) d) : wc g (wp_L_subscribe g) c [.ref a, .int x, .int y] R X := mk_L_subscribe_0 s (lw_i rfl s (c_subscribe s hC w) H)
theorem lX_buy (s : sl c 0 0 0 a) (hC : CL c M) (w : wfM M t) (H : ∀ d, pS a (spBuy M x y).2.2 d → R (some (.int (vW cIU (spBuy M x y)))) d) : wc g (wp_L_buy g) c [.ref a, .int x, .int y] R X := mk_L_buy_0 s (lw_i rfl s (c_buy s hC w) H)
theorem lX_credits (s : sl c 0 0 0 a) (hC : CL c M) (w : wfM M t) (H : ∀ d, pS a (spCred M x).2.2 d → R (some (.int (vW cI1 (spCred M x)))) d) : wc g (wp_L_credits g) c [.ref a, .int x] R X := mk_L_credits_0 s (lw_i rfl s (c_credits s hC w) H)
theorem lX_has (s : sl c 0 0 0 a) (hC : CL c M) (w : wfM M t) (H : ∀ d, pS a (spHas M x y).2.2 d → R (some (.int (vW cI1 (spHas M x y)))) d) : wc g (wp_L_has g) c [.ref a, .int x, .int y] R X := mk_L_has_0 s (lw_b rfl s (ixm_01 fun r => ixm_01 fun u _ => bI_01 _) (c_has s hC w) H)
theorem lX_share (s : sl c 0 0 0 a) (hC : CL c M) (w : wfM M t) (h5 : mR M ≠ 0) (H : R (some (.float (shV M))) c) : wc g (wp_L_provedShare g) c [.ref a] R X := mk_L_provedShare_0 s (c_provedShare s hC w (fun q => absurd q h5) (fun _ _ => ⟨_, rfl, H⟩))
theorem lX_mean (s : sl c 0 0 0 a) (hC : CL c M) (w : wfM M t) (H0 : cwE M (mR M) = 0 → R (some (.double 13858279740860792832)) c) (H : cwE M (mR M) ≠ 0 → R (some (.double (mnV M))) c) : wc g (wp_L_meanSteps g) c [.ref a] R X := mk_L_meanSteps_0 s (c_meanSteps s hC w (fun q => Or.inl ⟨rfl, H0 q⟩) (fun q _ => ⟨_, rfl, H q⟩))
theorem lX_clean (s : sl c 0 0 0 a) (hC : CL c M) (w : wfM M t) (H : ∀ d, pS a M d → R (some (.int (bI (cnE M (mR M))))) d) : wc g (wp_X8_isClean g) c [.ref a] R X := by
  refine wc_mono (wc_le (c_isClean s hC w)) (fun v d h => ?_) (fun E d h => ?_)
  · obtain ⟨le, h1, h2, h3, h4⟩ := h
    rw [h2]
    exact H d ⟨s.mono le, h4⟩
  · obtain ⟨le, k, e1, e2, -⟩ := h
    cases e2
/-! the script -/
def cellV (g : Nat → Nat) (x : Int32) : Int32 := if (Int32.ofNat (g 15)) ≤ x then (40503 : Int32) * x else ab_xs g x.toNatClampNeg
theorem lX_cell {j : Nat} (e : a = g 14) (hg : g 15 < 2 ^ 31) (hj : j < 100000) (H : R (some (.int (cellV g (nI j)))) c) : wc g (wp_L_cell g) c [.ref a, .int (nI j)] R X := by
  refine mk_L_cell_0 e ⟨fun q => ?_, fun q => ⟨?_, ?_⟩⟩
  · unfold cellV at H
    rw [if_pos q] at H
    exact H
  · have : j < g 15 := Classical.byContradiction fun z => q (nI_le (a := g 15) (b := j) (by omega) (by omega))
    exact vp_in_nI this hg
  · unfold cellV at H
    rw [if_neg q] at H
    exact H
def shU (x : Int32) : UInt32 := x.toUInt32 >>> (((1 : Int32)).toUInt32 &&& Int32.toUInt32 31)
theorem shU_lt (x : Int32) : (shU x).toNat < 2 ^ 31 := by
  unfold shU
  rw [UInt32.toNat_shiftRight]
  have e : ((((1 : Int32)).toUInt32 &&& Int32.toUInt32 31)).toNat % 32 = 1 := by decide
  rw [e, Nat.shiftRight_eq_div_pow]
  have := (x.toUInt32).toNat_lt
  omega
theorem shU_nI (x : Int32) : (shU x).toInt32 = nI (shU x).toNat := by
  unfold nI
  have e := UInt32.toInt32_ofNat' (n := (shU x).toNat)
  rw [UInt32.ofNat_toNat] at e
  exact e
/-- a number from 0 to n - 1 out of the script -/
def pkN (g : Nat → Nat) (j n : Nat) : Nat := (shU (cellV g (nI j))).toNat % n
theorem pkN_lt {j n : Nat} (h : 0 < n) : pkN g j n < n := Nat.mod_lt _ h
theorem lX_pick {j n : Nat} (e : a = g 14) (hg : g 15 < 2 ^ 31) (hj : j < 100000) (h0 : 0 < n) (hn : n < 100) (H : R (some (.int (nI (pkN g j n)))) c) : wc g (wp_L_pick g) c [.ref a, .int (nI j), .int (nI n)] R X := by
  refine mk_L_pick_0 e (lX_cell e hg hj ⟨_, rfl, ?_, ?_⟩)
  · exact nI_ne0 h0 (by omega)
  · show R (some (.int ((shU (cellV g (nI j))).toInt32 - (shU (cellV g (nI j))).toInt32 / nI n * nI n))) c
    rw [shU_nI, pk_rem (shU_lt _) h0 (by omega)]
    exact H
/-! letters of the law's texts -/
def chN (t k : Nat) : Nat := ((ab_byts.getD t []).getD k 0).toNatClampNeg
theorem ch_ok0 : (allB 6 fun t => allB 8 fun k => decide (k < ab_lens.getD t 0 → ((((ab_byts.getD t []).getD k 0) &&& 255).toUInt32 % 65536).toInt32 = nI (chN t k) ∧ chN t k < 128)) = true := by decide +kernel
theorem ch_ok : ∀ t, t < 6 → ∀ k, k < 8 → k < ab_lens.getD t 0 → ((((ab_byts.getD t []).getD k 0) &&& 255).toUInt32 % 65536).toInt32 = nI (chN t k) ∧ chN t k < 128 := fun t ht k hk => of_decide_eq_true (allB_at (allB_at ch_ok0 t ht) k hk)
theorem len_ok : ∀ t, t < 6 → ab_lens.getD t 0 ≤ 8 := by decide
theorem s_charAt {t k : Nat} (ht : t < 6) (hk : k < ab_lens.getD t 0) (H : R (some (.int (nI (chN t k)))) c) : wc g (wp_J0_charAt_5068e g) c [.ref (g (2 + t)), .int (nI k)] R X := by
  have h8 := len_ok t ht
  obtain ⟨e1, e2⟩ := ch_ok t ht k (by omega) hk
  have hn : narrow .char (.int (nI (chN t k))) = .int (nI (chN t k)) := (pk_charN (by omega)).1
  intro L h R2 XP cc hR hX
  have hH := hR _ _ _ c cc cle_rfl H
  have ll : (0 ≤ 0 ∧ 0 ≤ 0) := ⟨Nat.le_refl _, Nat.le_refl _⟩
  have hv := vp_in_nI hk (by omega : ab_lens.getD t 0 < 2 ^ 31)
  have ev : ((((ab_byts.getD t []).getD (nI k).toNatClampNeg 0) &&& (255 : Int32)).toUInt32 % 65536).toInt32 = nI (chN t k) := by
    rw [nI_clamp (by omega)]
    exact e1
  refine bk_J0_charAt_5068e_0 ⟨ll, ⟨t, ht, rfl⟩, bk_J0_isLatin1_aae02_0 ⟨fun q => absurd q (by decide), fun _ => ⟨⟨t, ht, rfl⟩, fun _ => ⟨ll, rfl, ?_⟩, fun q => absurd rfl q⟩⟩⟩
  have J3 : ∀ {R3 : ab_R} {XP3 : ab_XP}, R3 (some (.int (nI k))) L h → (wp_J3_checkIndex_8e157 g [.int (nI k), .int (Int32.ofNat (ab_lens.getD t 0)), .null] L h R3 XP3 ∧ ∀ q : Nat, wp_J3_checkIndex_8e157 g [.int (nI k), .int (Int32.ofNat (ab_lens.getD t 0)), .ref q] L h R3 XP3) := fun H3 => ⟨nu_checkIndex (nI_pos (by omega)) (nI_lt hk (by omega)) H3, fun q => bk_J3_checkIndex_8e157_0 ⟨fun q => absurd q (nI_pos (by omega)), fun _ => ⟨fun _ => ⟨ll, H3⟩, fun q => absurd (nI_lt hk (by omega)) q⟩⟩⟩
  have fin : ∃ i, i < 6 ∧ g (8 + t) = g (8 + i) ∧ vp_in (nI k) (ab_lens.getD i 0) ∧ ((0 ≤ 0 ∧ 0 ≤ 0) ∧ narrow .char (.int ((((ab_byts.getD i []).getD (nI k).toNatClampNeg 0) &&& (255 : Int32)).toUInt32 % 65536).toInt32) = .int ((((ab_byts.getD i []).getD (nI k).toNatClampNeg 0) &&& (255 : Int32)).toUInt32 % 65536).toInt32 ∧ ∃ x9 : Int32, some (Value.int ((((ab_byts.getD i []).getD (nI k).toNatClampNeg 0) &&& (255 : Int32)).toUInt32 % 65536).toInt32) = some (.int x9) ∧ ((0 ≤ 0 ∧ 0 ≤ 0) ∧ narrow .char (.int x9) = .int x9 ∧ R2 (some (.int x9)) L h)) := by
    refine ⟨t, ht, rfl, hv, ll, ?_, _, rfl, ll, ?_, ?_⟩
    · rw [ev]
      exact hn
    · rw [ev]
      exact hn
    · rw [ev]
      exact hH
  exact ⟨_, rfl, fun q => absurd q (by decide), fun _ => ⟨t, ht, rfl, ll, bk_J1_charAt_3b067_0 ⟨t, ht, rfl, ll, bk_J0_checkIndex_df160_0 ⟨⟨ll, (J3 ⟨_, rfl, ll, rfl, fin⟩).1⟩, fun q => ⟨ll, (J3 ⟨_, rfl, ll, rfl, fin⟩).2 q⟩⟩⟩⟩⟩
end
/-! shares and means -/
theorem sh_facts : ∀ w, w < 6 → (¬ (Op.cmpValue (FP.fcmp (FP.fdiv (FP.i2f (nI w)) (FP.i2f (nI 5))) FP.fconst0) .l) < 0) ∧ (¬ 0 < (Op.cmpValue (FP.fcmp (FP.fdiv (FP.i2f (nI w)) (FP.i2f (nI 5))) FP.fconst1) .g)) ∧ ((Op.cmpValue (FP.fcmp (FP.fdiv (FP.i2f (nI w)) (FP.i2f (nI 5))) FP.fconst0) .l) = 0 ↔ w = 0) := by decide +kernel
theorem mn_facts : ∀ w, w < 6 → ∀ s, s < 181 → (w ≠ 0 → ¬ (Op.cmpValue (FP.dcmp (FP.ddiv (FP.i2d (nI s)) (FP.i2d (nI w))) (13858279740860792832 : UInt64)) .l) = 0) := by decide +kernel
theorem mn_self : (Op.cmpValue (FP.dcmp (13858279740860792832 : UInt64) (13858279740860792832 : UInt64)) .l) = 0 := by decide +kernel
