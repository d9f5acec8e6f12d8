/-! ends of a call: what the class leaves, what the reference leaves -/
abbrev cc_Sp : Type := Nat × Int32 × cc_M
def okC (sp : cc_Sp) (c : cc_C) : Option Value → cc_C → Prop := fun v d => sp.1 = 0 ∧ v = some (.int sp.2.1) ∧ kC c d ∧ CL d sp.2.2
def okX (l : List String) (sp : cc_Sp) (c : cc_C) : String → cc_C → Prop := fun e d => ∃ k, sp.1 = k + 1 ∧ l[k]? = some e ∧ kC c d ∧ CL d sp.2.2
def okN (sp : cc_Sp) (c : cc_C) : Option Value → cc_C → Prop := fun v d => ∃ b : Int32, v = some (.int b) ∧ cS d 869 0 0 = nI sp.1 ∧ (sp.1 = 0 → b = sp.2.1) ∧ kM c d ∧ RF d sp.2.2
theorem RF_scr {P : Nat → Nat → Prop} {c d : cc_C} {M : cc_M} (h : fr P c d) (hp : ∀ f i, P f i → f = 869 ∨ f = 874 ∨ f = 875 ∨ (f = 880 ∧ 25 ≤ i)) (hr : RF c M) : RF d M := by
  obtain ⟨a1, a2, a3, a4, a5, a6⟩ := hr
  have h1 : ∀ f, f ≠ 869 → f ≠ 874 → f ≠ 875 → f ≠ 880 → cS d f 0 0 = cS c f 0 0 := fun f b1 b2 b3 b4 => by rw [h.row (f := f) (i := 0) (fun q => by have := hp f 0 q; omega)]
  have h8 : ∀ i, i < 25 → cS d 880 i = cS c 880 i := fun i hi => h.row (fun q => by have := hp 880 i q; omega)
  refine ⟨by rw [h.2.1]; exact a1, ⟨?_, fun r hr => ?_, fun r h2 h3 => ?_⟩, ⟨⟨?_, a3.1.2.1, fun u hu => ?_⟩, fun u h2 h3 => ?_⟩, ⟨?_, fun i hi => ?_, fun i h2 h3 => ?_⟩, ⟨?_, fun q hq => ?_, fun q h2 h3 => ?_⟩, ?_⟩
  · rw [h1 870 (by decide) (by decide) (by decide) (by decide)]; exact a2.1
  · have := a2.2.1 r hr
    unfold RFr clM stM at this ⊢
    rw [h8 0 (by omega), h8 1 (by omega), h8 2 (by omega), h8 3 (by omega), h8 4 (by omega), h8 5 (by omega), h8 6 (by omega), h8 7 (by omega), h8 8 (by omega), h8 9 (by omega), h8 10 (by omega), h8 11 (by omega), h8 12 (by omega)]
    exact this
  · rw [h8 1 (by omega), h8 3 (by omega)]; exact a2.2.2 r h2 h3
  · rw [h1 871 (by decide) (by decide) (by decide) (by decide)]; exact a3.1.1
  · have := a3.1.2.2 u hu
    unfold OvM at this ⊢
    rw [h8 13 (by omega), h8 14 (by omega), h8 15 (by omega), h8 16 (by omega), h8 17 (by omega)]
    exact this
  · rw [h8 17 (by omega)]; exact a3.2 u h2 h3
  · rw [h1 872 (by decide) (by decide) (by decide) (by decide)]; exact a4.1
  · obtain ⟨b1, b2, b3⟩ := a4.2.1 i hi
    refine ⟨?_, ?_, fun z => ?_⟩
    · rw [h8 18 (by omega)]; exact b1
    · rw [h8 20 (by omega)]; exact b2
    · obtain ⟨m, p, e1, e2, e3, e4, e5⟩ := b3 z
      refine ⟨m, p, ?_, e2, fun k hk => ?_, e4, e5⟩
      · rw [h8 19 (by omega)]; exact e1
      · rw [h8 21 (by omega)]; exact e3 k hk
  · rw [h8 19 (by omega), h8 20 (by omega)]; exact a4.2.2 i h2 h3
  · rw [h1 873 (by decide) (by decide) (by decide) (by decide)]; exact a5.1
  · have := a5.2.1 q hq
    unfold RFu at this ⊢
    rw [h8 22 (by omega), h8 23 (by omega), h8 24 (by omega)]
    exact this
  · have := a5.2.2 q h2 h3
    unfold RFu at this ⊢
    rw [h8 22 (by omega), h8 23 (by omega), h8 24 (by omega)]
    exact this
  · rw [h.2.2.1]; exact a6
def p869 (f i : Nat) : Prop := f = 869
theorem f869 {c : cc_C} {x : Int32} : fr p869 c (cset c 869 0 0 x) := fr_rfl.set rfl
theorem RF_869 {c : cc_C} {M : cc_M} {x : Int32} (h : RF c M) : RF (cset c 869 0 0 x) M := RF_scr f869 (fun _ _ q => Or.inl q) h
theorem kM_869 {c0 c : cc_C} {x : Int32} (h : kM c0 c) : kM c0 (cset c 869 0 0 x) := h.trans (kM_fr f869 (fun f i q => by have : f = 869 := q; omega))
section
variable {g : Nat → Nat} {c c0 : cc_C} {M : cc_M} {e n : Nat} {x : Int32} {R : Option Value → cc_C → Prop} {X : String → cc_C → Prop} {sp : cc_Sp}
/-- a throw of the class -/
theorem lX {l : List String} {y : Int32} (k : Nat) (h : sp = (k + 1, y, M)) {z : String} (hk : l[k]? = some z) (kc : kC c0 c) (hc : CL c M) : okX l sp c0 z c := by
  rw [h]
  exact ⟨k, rfl, hk, kc, hc⟩
theorem lC {y b : Int32} (h : sp = (0, y, M)) (hy : b = y) (kc : kC c0 c) (hc : CL c M) : okC sp c0 (some (.int b)) c := by
  rw [h, hy]
  exact ⟨rfl, rfl, kc, hc⟩
theorem lM {y b : Int32} {k : Nat} (h : sp = (k, y, M)) (h9 : cS c 869 0 0 = nI k) (hb : k = 0 → b = y) (km : kM c0 c) (hr : RF c M) : okN sp c0 (some (.int b)) c := by
  rw [h]
  exact ⟨b, rfl, h9, hb, km, hr⟩
/-- a refused call of the reference -/
theorem lF {y b x : Int32} {k : Nat} (h : sp = (k + 1, y, M)) (hx : x = nI (k + 1)) (km : kM c0 c) (hr : RF c M) : okN sp c0 (some (.int b)) (cset c 869 0 0 x) := lM h ((cS_at _ _ _ _ _).trans hx) (fun q => absurd q (by omega)) (kM_869 km) (RF_869 hr)
theorem lT {y b : Int32} (h : sp = (0, y, M)) (hy : b = y) (km : kM c0 c) (hr : RF c M) : okN sp c0 (some (.int b)) (cset c 869 0 0 0) := lM h ((cS_at _ _ _ _ _).trans rfl) (fun _ => hy) (kM_869 km) (RF_869 hr)
/-- a number, if it is there -/
def ixm (o : Option Nat) (M : cc_M) (f : Nat → cc_Sp) : cc_Sp := match o with
  | none => (1, 0, M)
  | some r => f r
theorem no1 {o : Option Nat} {f : Nat → cc_Sp} (h : o = none) : ixm o M f = (0 + 1, 0, M) := by
  rw [h]
  rfl
theorem at1 {f : Nat → cc_Sp} {r : Nat} (hx : x = nI r) (hr : r < n) (hn : n < 2 ^ 31) : ixm (ixo n x) M f = f r := by
  rw [hx, ixo_at hn hr]
  rfl
theorem atw {f : Nat → cc_Sp} {r : Nat} (hx : x = nI (10 + r)) (hr : r < n) (hn : n < 1000) : ixm (ixw n x) M f = f r := by
  rw [hx, ixw_at hn hr]
  rfl
theorem nine (n : Nat) : (9 : Int32) + nI n = nI (10 + n) - 1 := by
  rw [show (9 : Int32) + nI n = nI (9 + n) from nI_add 9 n, show nI (10 + n) - 1 = nI (10 + n - 1) from pk_sub (b := 1) (by omega), show 10 + n - 1 = 9 + n by omega]
end
