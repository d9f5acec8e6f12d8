/-! the wrappers and the reference, side by side -/
def tL (x : Int32) : Int64 := x.toInt64
def tB (x : Int32) : Int64 := if x = 0 then 0 else 1
theorem wc_le {g : Nat → Nat} {W : ab_Wp} {c : cc_C} {as : List Value} {R : Option Value → cc_C → Prop} {X : String → cc_C → Prop} (H : wc g W c as R X) : wc g W c as (fun v d => cle c d ∧ R v d) (fun e d => cle c d ∧ X e d) := fun L h R2 XP cc hR hX => H L h R2 XP cc (fun v L' h' c' q le r => hR v L' h' c' q le ⟨le, r⟩) (fun e L' h' c' q le r => hX e L' h' c' q le ⟨le, r⟩)
def xOr : List String → Nat → String → (Nat → Prop) → Prop
  | [], _, _, _ => False
  | x :: r, j, E, F => (E = x ∧ F j) ∨ xOr r (j + 1) E F
theorem xOr_of : ∀ {l : List String} {j k : Nat} {E : String} {F : Nat → Prop}, l[k]? = some E → F (j + k) → xOr l j E F
  | [], _, _, _, _, h, _ => by cases h
  | x :: r, j, 0, E, F, h, q => by
    cases h
    exact Or.inl ⟨rfl, q⟩
  | x :: r, j, k + 1, E, F, h, q => Or.inr (xOr_of (l := r) (j := j + 1) (k := k) h (by rw [show j + 1 + k = j + (k + 1) by omega]; exact q))
def LW (sp : cc_Sp) (f : Int32 → Int64) (M : cc_M) : Option Value → cc_C → Prop := fun v d => v = some (.int (nI sp.1)) ∧ sp.1 ≤ 4 ∧ (sp.1 = 0 → cP d 1 0 = f sp.2.1) ∧ CL d sp.2.2 ∧ RF d M
theorem CL_p1 {c : cc_C} {M : cc_M} {x : Int64} (h : CL c M) : CL (cpset c 1 0 x) M := ⟨h.1, h.2.1, h.2.2.1, h.2.2.2.1, h.2.2.2.2.1, (cP_ne (by omega)).trans h.2.2.2.2.2⟩
theorem RF_p1 {c : cc_C} {M : cc_M} {x : Int64} (h : RF c M) : RF (cpset c 1 0 x) M := ⟨h.1, h.2.1, h.2.2.1, h.2.2.2.1, h.2.2.2.2.1, (cP_ne (by omega)).trans h.2.2.2.2.2⟩
theorem RF_le {c d : cc_C} {M : cc_M} (le : cle c d) (k : kC c d) (h : RF c M) : RF d M := RF_kC k (fun q => (le 21 0 0 (by decide) q).1) h
section
variable {g : Nat → Nat} {W : ab_Wp} {as : List Value} {c : cc_C} {M : cc_M} {sp : cc_Sp} {l : List String}
theorem l_x {f : Int32 → Int64} (hl : l.length ≤ 4) (hR : RF c M) {E : String} {d : cc_C} (h : cle c d ∧ okX l sp c E d) : xOr l 1 E (fun k => LW sp f M (some (.int (nI k))) d) := by
  obtain ⟨le, k, e1, e2, e3, e4⟩ := h
  have hk := (List.getElem?_eq_some_iff.mp e2).1
  refine xOr_of e2 ⟨by rw [e1, show 1 + k = k + 1 by omega], by omega, fun q => by omega, e4, RF_le le e3 hR⟩
theorem l_int (hl : l.length ≤ 4) (hc : wc g W c as (okC sp c) (okX l sp c)) (hR : RF c M) : wc g W c as (fun v d => ∃ x : Int32, v = some (.int x) ∧ LW sp tL M (some (.int 0)) (cpset d 1 0 x.toInt64)) (fun E d => xOr l 1 E (fun k => LW sp tL M (some (.int (nI k))) d)) := by
  refine wc_mono (wc_le hc) (fun v d h => ?_) (fun E d h => l_x hl hR h)
  obtain ⟨le, h1, h2, h3, h4⟩ := h
  exact ⟨sp.2.1, h2, by rw [h1] <;> rfl, by omega, fun _ => cP_at _ _ _ _, CL_p1 h4, RF_p1 (RF_le le h3 hR)⟩
theorem l_bool (hl : l.length ≤ 4) (hc : wc g W c as (okC sp c) (okX l sp c)) (hR : RF c M) : wc g W c as (fun v d => ∃ x : Int32, v = some (.int x) ∧ ((x = 0 → LW sp tB M (some (.int 0)) (cpset d 1 0 0)) ∧ (¬ x = 0 → LW sp tB M (some (.int 0)) (cpset d 1 0 1)))) (fun E d => xOr l 1 E (fun k => LW sp tB M (some (.int (nI k))) d)) := by
  refine wc_mono (wc_le hc) (fun v d h => ?_) (fun E d h => l_x hl hR h)
  obtain ⟨le, h1, h2, h3, h4⟩ := h
  exact ⟨sp.2.1, h2, fun q => ⟨by rw [h1] <;> rfl, by omega, fun _ => (cP_at _ _ _ _).trans (if_pos q).symm, CL_p1 h4, RF_p1 (RF_le le h3 hR)⟩, fun q => ⟨by rw [h1] <;> rfl, by omega, fun _ => (cP_at _ _ _ _).trans (if_neg q).symm, CL_p1 h4, RF_p1 (RF_le le h3 hR)⟩⟩
end
theorem lg_self (x : Int64) : lg_cmp x x = 0 := by
  unfold lg_cmp
  rw [if_neg (fun h => absurd h (Int64.lt_irrefl)), if_pos rfl]
theorem i2c_nI (x : Int32) : ∃ q : Nat, q < 65536 ∧ (x.toUInt32 % 65536).toInt32 = nI q := by
  refine ⟨(x.toUInt32 % 65536).toNat, ?_, ?_⟩
  · rw [UInt32.toNat_mod]
    exact Nat.mod_lt _ (by decide)
  · unfold nI
    have e := UInt32.toInt32_ofNat' (n := (x.toUInt32 % 65536).toNat)
    rw [UInt32.ofNat_toNat] at e
    exact e
theorem nI0 {k : Nat} (hk : k ≤ 4) (h : nI k = 0) : k = 0 := (nI_eq (b := 0) (by omega) (by decide)).mp h
/-- what comes behind a call -/
def LT (b Ls : Nat) (xs : Nat → Int32) (g : Nat → Nat) (a1 a2 a3 a4 : Nat) (i : Int32) (c : cc_C) (t k n : Nat) (R : Option Value → cc_C → Prop) (X : String → cc_C → Prop) : Prop :=
  ∀ (d : cc_C) (N : cc_M) (p6 p7 p8 : Option Value) (k' n' : Nat), CL d N → RF d N → wfM N (t + 1) → cle c d → k' ≤ k + 40 → n' ≤ n + 224 → ec g (tb_L_law b Ls xs) 2029 [some (.ref b), some (.ref a1), some (.ref a2), some (.ref a3), some (.ref a4), some (.int i), p6, p7, p8] [] k' n' d R X
section
variable {b Ls : Nat} {xs : Nat → Int32} {g : Nat → Nat} {a1 a2 a3 a4 : Nat} {i : Int32} {c : cc_C} {M : cc_M} {t k n : Nat} {o6 o7 o8 : Option Value} {R : Option Value → cc_C → Prop} {X : String → cc_C → Prop}
theorem law_fin {c1 c6 : cc_C} {sp : cc_Sp} {b2 : Int32} {k' n' : Nat} (s2 : sl c6 21 0 0 a2) (le : cle c c6) (h4 : sp.1 ≤ 4) (ho : sp.1 = 0 → cP c1 1 0 = tL sp.2.1) (hC1 : CL c1 sp.2.2) (h9 : cS c6 869 0 0 = nI sp.1) (hb : sp.1 = 0 → b2 = sp.2.1) (km : kM c1 c6) (hR : RF c6 sp.2.2) (w : wfM sp.2.2 (t + 1)) (nx : LT b Ls xs g a1 a2 a3 a4 i c t k n R X) (hk : k' ≤ k + 40) (hn : n' ≤ n + 224) :
    wc g (wp_X9_thrown g) c6 [.ref a2] (fun v c12 => ∃ x17 : Int32, v = some (.int x17) ∧ ((x17 = nI sp.1 → ((nI sp.1 = 0 → (((lg_cmp (cP c12 1 ((0 : Int32)).toNatClampNeg) (b2).toInt64) = 0 → ec g (tb_L_law b Ls xs) 2029 [some (.ref b), some (.ref a1), some (.ref a2), some (.ref a3), some (.ref a4), some (.int i), some (.int (nI sp.1)), some (.int b2), o8] [] k' n' c12 R X) ∧ (¬ (lg_cmp (cP c12 1 ((0 : Int32)).toNatClampNeg) (b2).toInt64) = 0 → False))) ∧ (¬ nI sp.1 = 0 → ec g (tb_L_law b Ls xs) 2029 [some (.ref b), some (.ref a1), some (.ref a2), some (.ref a3), some (.ref a4), some (.int i), some (.int (nI sp.1)), some (.int b2), o8] [] k' n' c12 R X))) ∧ (¬ x17 = nI sp.1 → False))) (fun _ _ => False) := by
  have N := nx c6 sp.2.2 (some (.int (nI sp.1))) (some (.int b2)) o8 k' n' (CL_kM km hC1) hR w le hk hn
  refine mk_X9_thrown_0 s2 ⟨_, rfl, fun _ => ⟨fun hz => ⟨fun _ => N, fun q => q ?_⟩, fun _ => N⟩, fun q => q h9⟩
  have h0 := nI0 h4 hz
  have e : cP c6 1 ((0 : Int32)).toNatClampNeg = b2.toInt64 := by
    rw [km.2.2.2.1 1 (by decide), hb h0]
    exact ho h0
  rw [e]
  exact lg_self _
theorem law_finB {c1 c6 : cc_C} {sp : cc_Sp} {b2 : Int32} {k' n' : Nat} (s2 : sl c6 21 0 0 a2) (le : cle c c6) (h4 : sp.1 ≤ 4) (ho : sp.1 = 0 → cP c1 1 0 = tB sp.2.1) (hC1 : CL c1 sp.2.2) (h9 : cS c6 869 0 0 = nI sp.1) (hb : sp.1 = 0 → b2 = sp.2.1) (km : kM c1 c6) (hR : RF c6 sp.2.2) (w : wfM sp.2.2 (t + 1)) (nx : LT b Ls xs g a1 a2 a3 a4 i c t k n R X) (hk : k' ≤ k + 40) (hn : n' ≤ n + 224) :
    wc g (wp_X9_thrown g) c6 [.ref a2] (fun v c12 => ∃ x17 : Int32, v = some (.int x17) ∧ ((x17 = nI sp.1 → ((nI sp.1 = 0 → ((b2 = 0 → (((lg_cmp (cP c12 1 ((0 : Int32)).toNatClampNeg) (0 : Int64)) = 0 → ec g (tb_L_law b Ls xs) 2029 [some (.ref b), some (.ref a1), some (.ref a2), some (.ref a3), some (.ref a4), some (.int i), some (.int (nI sp.1)), some (.int b2), o8] [] k' n' c12 R X) ∧ (¬ (lg_cmp (cP c12 1 ((0 : Int32)).toNatClampNeg) (0 : Int64)) = 0 → False))) ∧ (¬ b2 = 0 → (((lg_cmp (cP c12 1 ((0 : Int32)).toNatClampNeg) (1 : Int64)) = 0 → ec g (tb_L_law b Ls xs) 2029 [some (.ref b), some (.ref a1), some (.ref a2), some (.ref a3), some (.ref a4), some (.int i), some (.int (nI sp.1)), some (.int b2), o8] [] k' n' c12 R X) ∧ (¬ (lg_cmp (cP c12 1 ((0 : Int32)).toNatClampNeg) (1 : Int64)) = 0 → False))))) ∧ (¬ nI sp.1 = 0 → ec g (tb_L_law b Ls xs) 2029 [some (.ref b), some (.ref a1), some (.ref a2), some (.ref a3), some (.ref a4), some (.int i), some (.int (nI sp.1)), some (.int b2), o8] [] k' n' c12 R X))) ∧ (¬ x17 = nI sp.1 → False))) (fun _ _ => False) := by
  have N := nx c6 sp.2.2 (some (.int (nI sp.1))) (some (.int b2)) o8 k' n' (CL_kM km hC1) hR w le hk hn
  have e : nI sp.1 = 0 → cP c6 1 ((0 : Int32)).toNatClampNeg = tB b2 := fun hz => by
    have h0 := nI0 h4 hz
    rw [km.2.2.2.1 1 (by decide), hb h0]
    exact ho h0
  refine mk_X9_thrown_0 s2 ⟨_, rfl, fun _ => ⟨fun hz => ⟨fun q0 => ⟨fun _ => N, fun q => q ?_⟩, fun q0 => ⟨fun _ => N, fun q => q ?_⟩⟩, fun _ => N⟩, fun q => q h9⟩
  · rw [e hz, show tB b2 = 0 from if_pos q0]
    exact lg_self _
  · rw [e hz, show tB b2 = 1 from if_neg q0]
    exact lg_self _
end
section
variable {M : cc_M} {x y : Int32} {F : Nat × Nat × Nat → Nat}
theorem r_spAnsw : (spAnsw M x).2.2 = M := by
  unfold spAnsw ixm
  repeat' (first | rfl | split | (dsimp only; split))
theorem r_spAns : (spAns M x y).2.2 = M := by
  unfold spAns ixm
  repeat' (first | rfl | split | (dsimp only; split))
theorem r_spSteps : (spSteps M x).2.2 = M := by
  unfold spSteps ixm
  repeat' (first | rfl | split | (dsimp only; split))
theorem r_spAt : (spAt F M x y).2.2 = M := by
  unfold spAt ixm
  repeat' (first | rfl | split | (dsimp only; split))
theorem r_spLeans : (spLeans M x y).2.2 = M := by
  unfold spLeans ixm
  repeat' (first | rfl | split | (dsimp only; split))
theorem r_spState : (spState M x).2.2 = M := by
  unfold spState ixm
  repeat' (first | rfl | split | (dsimp only; split))
theorem r_spStands : (spStands M x).2.2 = M := by
  unfold spStands ixm
  repeat' (first | rfl | split | (dsimp only; split))
theorem r_spCex : (spCex M x).2.2 = M := by
  unfold spCex ixm
  repeat' (first | rfl | split | (dsimp only; split))
theorem r_spIst : (spIst M x).2.2 = M := by
  unfold spIst ixm
  repeat' (first | rfl | split | (dsimp only; split))
theorem r_spIdx : (spIdx M x).2.2 = M := by
  unfold spIdx ixm
  repeat' (first | rfl | split | (dsimp only; split))
theorem r_spCred : (spCred M x).2.2 = M := by
  unfold spCred ixm
  repeat' (first | rfl | split | (dsimp only; split))
theorem r_spHas : (spHas M x y).2.2 = M := by
  unfold spHas ixm
  repeat' (first | rfl | split | (dsimp only; split))
end
