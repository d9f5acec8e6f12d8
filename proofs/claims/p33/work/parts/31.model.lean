/-! the model: what a press is, in numbers; how the class and the reference show it -/
abbrev cc_Rd : Type := (Nat × Nat × cc_K) × (Int32 × Nat × Nat) × (Nat × cc_St)
def rdN (x : cc_Rd) : Nat := x.1.1
def rdC (x : cc_Rd) : Nat := x.1.2.1
def rdK (x : cc_Rd) : cc_K := x.1.2.2
def rdZ (x : cc_Rd) : Int32 := x.2.1.1
def rdO (x : cc_Rd) : Nat := x.2.1.2.1
def rdI (x : cc_Rd) : Nat := x.2.1.2.2
def rdk (x : cc_Rd) : Nat := x.2.2.1
def rdS (x : cc_Rd) : cc_St := x.2.2.2
def rdLn (x : cc_Rd) (ru : Nat) : Bool := lnS (rdS x) ru (rdk x)
def rdA (x : cc_Rd) : Nat := cntL (rdN x) (fun l => aF (rdK x) l (rdC x)) (fuelN (rdN x)) (List.range (rdN x))
def rdF (x : cc_Rd) : List Nat := fstL (rdN x) (fun l => aF (rdK x) l (rdC x)) (fuelN (rdN x)) (List.range (rdN x))
abbrev cc_Us : Type := Nat × Nat × (Nat → Bool)
abbrev cc_M : Type := (Nat × (Nat → cc_Rd)) × (Nat × cc_O) × (Nat × (Nat → Int32 × Nat)) × (Nat × (Nat → cc_Us)) × Int64
def mR (M : cc_M) : Nat := M.1.1
def mX (M : cc_M) : Nat → cc_Rd := M.1.2
def mW (M : cc_M) : Nat := M.2.1.1
def mO (M : cc_M) : cc_O := M.2.1.2
def mI (M : cc_M) : Nat := M.2.2.1.1
def mJ (M : cc_M) : Nat → Int32 × Nat := M.2.2.1.2
def mU (M : cc_M) : Nat := M.2.2.2.1.1
def mV (M : cc_M) : Nat → cc_Us := M.2.2.2.1.2
def mP (M : cc_M) : Int64 := M.2.2.2.2
def upF {α : Type} (f : Nat → α) (r : Nat) (x : α) : Nat → α := fun i => if i = r then x else f i
theorem upF_at {α : Type} {f : Nat → α} {r : Nat} {x : α} : upF f r x r = x := if_pos rfl
theorem upF_ne {α : Type} {f : Nat → α} {r i : Nat} {x : α} (h : i ≠ r) : upF f r x i = f i := if_neg h
/-- the model with another riddle, rules, issues, customers, press -/
def sX (M : cc_M) (n : Nat) (X : Nat → cc_Rd) : cc_M := ((n, X), M.2)
def sO (M : cc_M) (n : Nat) (O : cc_O) : cc_M := (M.1, (n, O), M.2.2)
def sJ (M : cc_M) (n : Nat) (J : Nat → Int32 × Nat) : cc_M := (M.1, M.2.1, (n, J), M.2.2.2)
def sV (M : cc_M) (n : Nat) (V : Nat → cc_Us) : cc_M := (M.1, M.2.1, M.2.2.1, (n, V), M.2.2.2.2)
def sP (M : cc_M) (p : Int64) : cc_M := (M.1, M.2.1, M.2.2.1, M.2.2.2.1, p)
def cexO (o : Int32 × Nat × Int32 × Nat × Bool) : Nat := lcx o.1 o.2.1 o.2.2.1 o.2.2.2.1 4 3
/-! the class's picture -/
def cdR (f : Nat) : Prop := f = 120 ∨ f = 124 ∨ f = 125 ∨ f = 126 ∨ f = 283 ∨ f = 284 ∨ f = 286 ∨ f = 320 ∨ f = 360 ∨ f = 400 ∨ f = 520
def CRa (c : cc_C) (r : Nat) (x : cc_Rd) : Prop := cS c 124 r 0 = -1 ∨ cS c 124 r 0 = nI (rdA x) ∧ (0 < rdA x → Rp (rdN x) (ofL (rdF x)) (cS c 520 r))
def CRd (c : cc_C) (r : Nat) (x : cc_Rd) : Prop := cV c 3 r 0 ∧ cS c 120 r 0 = nI (rdN x) ∧ cS c 42 (r + 4) 0 = nI (rdC x) ∧ (∀ e, e < rdC x → clC c r e = rdK x e) ∧ cS c 125 r 0 = rdZ x ∧ cS c 284 r 0 = ltr (rdO x) ∧ stC c r (rdk x) (rdS x) ∧ cS c 126 r 0 = nI (rdI x) ∧ CRa c r x ∧ cN c 80 (r + 4) < 100
def fsR (c : cc_C) (n : Nat) : Prop := ∀ r, n ≤ r → (∀ k, k = 3 ∨ (7 ≤ k ∧ k ≤ 13) → ¬ cV c k r 0) ∧ ¬ cV c 1 (r + 4) 0 ∧ ¬ cV c 2 (r + 4) 0
def CLR (c : cc_C) (M : cc_M) : Prop := cS c 42 0 0 = nI (mR M) ∧ cN c 80 0 < 100 ∧ (∀ r, r < mR M → CRd c r (mX M r)) ∧ fsR c (mR M)
def CLW (c : cc_C) (M : cc_M) : Prop := owC c (mW M) (mO M) ∧ cN c 80 1 < 100 ∧ (∀ u, u < mW M → cV c 14 u 0 ∧ cS c 562 u 0 = nI (cexO (mO M u))) ∧ ∀ u, mW M ≤ u → ¬ cV c 14 u 0
def CLI (c : cc_C) (M : cc_M) : Prop := cS c 42 2 0 = nI (mI M) ∧ cN c 80 2 < 100 ∧ (∀ i, i < mI M → cV c 15 i 0 ∧ cS c 600 i 0 = (mJ M i).1 ∧ cS c 601 i 0 = nI (mJ M i).2) ∧ ∀ i, mI M ≤ i → ¬ cV c 15 i 0
def CLU (c : cc_C) (M : cc_M) : Prop := cS c 42 3 0 = nI (mU M) ∧ cN c 80 3 < 100 ∧ (∀ q, q < mU M → cV c 16 q 0 ∧ cS c 640 q 0 = nI (mV M q).1 ∧ cS c 641 q 0 = nI (mV M q).2.1 ∧ ∀ i, i < 12 → cS c 680 q i = bI ((mV M q).2.2 i)) ∧ ∀ q, mU M ≤ q → ¬ cV c 16 q 0 ∧ ¬ cV c 17 q 0
def CL (c : cc_C) (M : cc_M) : Prop := cV c 0 0 0 ∧ CLR c M ∧ CLW c M ∧ CLI c M ∧ CLU c M ∧ cP c 0 0 = mP M
/-! the reference's -/
def RFr (c : cc_C) (r : Nat) (x : cc_Rd) : Prop := cS c 880 0 r = nI (rdN x) ∧ cS c 880 1 r = nI (rdC x) ∧ (∀ e, e < rdC x → clM c r e = rdK x e) ∧ cS c 880 2 r = rdZ x ∧ cS c 880 3 r = nI (rdO x) ∧ (rdO x ≠ 0 → stM c r (rdk x) (rdS x)) ∧ (rdI x ≠ 0 → cS c 880 5 r = nI (rdI x - 1))
def RFl (c : cc_C) (nR : Nat) (X : Nat → cc_Rd) (i : Nat) : Prop := ∃ (m : Nat) (p : Nat → Nat), cS c 880 19 i = nI m ∧ m ≤ 4 ∧ (∀ k, k < m → p k < nR ∧ cS c 880 21 (4 * i + k) = nI (p k) ∧ rdI (X (p k)) = i + 1) ∧ (∀ k k', k < m → k' < m → p k = p k' → k = k') ∧ ∀ r, r < nR → rdI (X r) = i + 1 → ∃ k, k < m ∧ p k = r
def RFi (c : cc_C) (M : cc_M) (i : Nat) : Prop := cS c 880 18 i = (mJ M i).1 ∧ cS c 880 20 i = nI (mJ M i).2 ∧ ((mJ M i).1 ≠ 114 → RFl c (mR M) (mX M) i)
def RFu (c : cc_C) (q : Nat) (v : cc_Us) : Prop := cS c 880 22 q = nI v.1 ∧ cS c 880 23 q = nI v.2.1 ∧ ∀ i, i < 12 → cS c 880 24 (12 * q + i) = bI (v.2.2 i)
def RFR (c : cc_C) (M : cc_M) : Prop := cS c 870 0 0 = nI (mR M) ∧ (∀ r, r < mR M → RFr c r (mX M r)) ∧ ∀ r, mR M ≤ r → r < 20 → cS c 880 1 r = 0 ∧ cS c 880 3 r = 0
def RFW (c : cc_C) (M : cc_M) : Prop := owM c (mW M) (mO M) ∧ ∀ u, mW M ≤ u → u < 6 → cS c 880 17 u = 0
def RFI (c : cc_C) (M : cc_M) : Prop := cS c 872 0 0 = nI (mI M) ∧ (∀ i, i < mI M → RFi c M i) ∧ ∀ i, mI M ≤ i → i < 12 → cS c 880 19 i = 0 ∧ cS c 880 20 i = 0
def RFU (c : cc_C) (M : cc_M) : Prop := cS c 873 0 0 = nI (mU M) ∧ (∀ q, q < mU M → RFu c q (mV M q)) ∧ ∀ q, mU M ≤ q → q < 8 → RFu c q (0, 0, fun _ => false)
def RF (c : cc_C) (M : cc_M) : Prop := cV c 21 0 0 ∧ RFR c M ∧ RFW c M ∧ RFI c M ∧ RFU c M ∧ cP c 2 0 = mP M
/-! what holds of the model -/
def wfX (nI : Nat) (J : Nat → Int32 × Nat) (x : cc_Rd) : Prop := (3 ≤ rdN x ∧ rdN x ≤ 6 ∧ rdC x ≤ 8 ∧ ∀ e, e < rdC x → KvK (rdN x) (rdK x) e) ∧ (rdZ x = 111 ∨ rdZ x = 119 ∨ rdZ x = 105 ∨ rdZ x = 115 ∨ rdZ x = 98 ∨ rdZ x = 104) ∧ (rdO x < 4 ∧ (rdO x = 0 → rdk x = 0) ∧ rdk x ≤ 36 ∧ ∀ i, i < rdk x → (rdS x i).1 < 16) ∧ (rdI x ≤ nI ∧ (rdI x ≠ 0 ↔ rdZ x = 105 ∨ rdZ x = 115) ∧ (rdI x ≠ 0 → (J (rdI x - 1)).1 = if rdZ x = 115 then 115 else 109)) ∧ (rdZ x = 105 ∨ rdZ x = 115 ∨ rdZ x = 98 ∨ rdZ x = 119 → rdO x = 1)
def wfM (M : cc_M) (t : Nat) : Prop := (mR M ≤ 20 ∧ ∀ r, r < mR M → wfX (mI M) (mJ M) (mX M r)) ∧ okO (mW M) (mO M) ∧ (mI M ≤ 12 ∧ ∀ i, i < mI M → ((mJ M i).1 = 109 ∨ (mJ M i).1 = 115 ∨ (mJ M i).1 = 114) ∧ (mJ M i).2 ≤ 1000) ∧ (mU M ≤ 8 ∧ ∀ q, q < mU M → (mV M q).1 < 2 ^ 31 ∧ (mV M q).2.1 ≤ 12 * t) ∧ t ≤ 512
/-! what a call of the class leaves, and one of the reference -/
def kC (c d : cc_C) : Prop := (∀ f, 869 ≤ f → cS d f = cS c f) ∧ (∀ i, i ≠ 0 → cP d i = cP c i) ∧ cD d = cD c
def kM (c d : cc_C) : Prop := cA d = cA c ∧ cV d = cV c ∧ (∀ f, ¬ (869 ≤ f ∧ f ≤ 880) → cS d f = cS c f) ∧ (∀ i, i ≠ 2 → cP d i = cP c i) ∧ cD d = cD c
theorem kC_rfl {c : cc_C} : kC c c := ⟨fun _ _ => rfl, fun _ _ => rfl, rfl⟩
theorem kC.trans {c d e : cc_C} (h : kC c d) (h2 : kC d e) : kC c e := ⟨fun f hf => (h2.1 f hf).trans (h.1 f hf), fun i hi => (h2.2.1 i hi).trans (h.2.1 i hi), h2.2.2.trans h.2.2⟩
theorem kM_rfl {c : cc_C} : kM c c := ⟨rfl, rfl, fun _ _ => rfl, fun _ _ => rfl, rfl⟩
theorem kM.trans {c d e : cc_C} (h : kM c d) (h2 : kM d e) : kM c e := ⟨h2.1.trans h.1, h2.2.1.trans h.2.1, fun f hf => (h2.2.2.1 f hf).trans (h.2.2.1 f hf), fun i hi => (h2.2.2.2.1 i hi).trans (h.2.2.2.1 i hi), h2.2.2.2.2.trans h.2.2.2.2⟩
theorem kC_frx {P : Nat → Nat → Prop} {c d : cc_C} (h : frx P c d) (hp : ∀ f i, P f i → f < 869) : kC c d := ⟨fun f hf => funext fun i => h.2.2.2.2.2.1 f i (fun q => by have := hp f i q; omega) (by omega) (by omega) (by omega), fun i _ => by rw [h.2.2.2.1], h.2.2.2.2.1⟩
theorem kC_fr {P : Nat → Nat → Prop} {c d : cc_C} (h : fr P c d) (hp : ∀ f i, P f i → f < 869) : kC c d := ⟨fun f hf => funext fun i => h.row (fun q => by have := hp f i q; omega), fun i _ => by rw [h.2.2.1], h.2.2.2.1⟩
theorem kM_fr {P : Nat → Nat → Prop} {c d : cc_C} (h : fr P c d) (hp : ∀ f i, P f i → 869 ≤ f ∧ f ≤ 880) : kM c d := ⟨h.1, h.2.1, fun f hf => funext fun i => h.row (fun q => hf (hp f i q)), fun i _ => by rw [h.2.2.1], h.2.2.2.1⟩
theorem kM.sl {c d : cc_C} (h : kM c d) {k i j a : Nat} (s : sl c k i j a) : sl d k i j a := ⟨by rw [h.2.1]; exact s.1, by rw [h.1]; exact s.2⟩
/-! a call of the class keeps the reference's picture -/
theorem RFl_eq {c d : cc_C} (h : ∀ f, 869 ≤ f → cS d f = cS c f) {n i : Nat} {X : Nat → cc_Rd} (hl : RFl c n X i) : RFl d n X i := by
  obtain ⟨m, p, a1, a2, a3, a4, a5⟩ := hl
  refine ⟨m, p, ?_, a2, fun k hk => ?_, a4, a5⟩
  · rw [h 880 (by omega)]
    exact a1
  · rw [h 880 (by omega)]
    exact a3 k hk
theorem RF_kC {c d : cc_C} {M : cc_M} (h : kC c d) (hv : cV c 21 0 0 → cV d 21 0 0) (hr : RF c M) : RF d M := by
  obtain ⟨a1, a2, a3, a4, a5, a6⟩ := hr
  have h1 := h.1
  have h8 : cS d 880 = cS c 880 := h1 880 (by omega)
  refine ⟨hv a1, ⟨?_, fun r hr => ?_, fun r h2 h3 => ?_⟩, ⟨⟨?_, a3.1.2.1, fun u hu => ?_⟩, fun u h2 h3 => ?_⟩, ⟨?_, fun i hi => ?_, fun i h2 h3 => ?_⟩, ⟨?_, fun q hq => ?_, fun q h2 h3 => ?_⟩, ?_⟩
  · rw [h1 870 (by omega)]; exact a2.1
  · have := a2.2.1 r hr
    unfold RFr clM stM at this ⊢
    rw [h8]
    exact this
  · rw [h8]; exact a2.2.2 r h2 h3
  · rw [h1 871 (by omega)]; exact a3.1.1
  · have := a3.1.2.2 u hu
    unfold OvM at this ⊢
    rw [h8]
    exact this
  · rw [h8]; exact a3.2 u h2 h3
  · rw [h1 872 (by omega)]; exact a4.1
  · obtain ⟨b1, b2, b3⟩ := a4.2.1 i hi
    refine ⟨?_, ?_, fun z => RFl_eq h1 (b3 z)⟩
    · rw [h8]; exact b1
    · rw [h8]; exact b2
  · rw [h8]; exact a4.2.2 i h2 h3
  · rw [h1 873 (by omega)]; exact a5.1
  · have := a5.2.1 q hq
    unfold RFu at this ⊢
    rw [h8]
    exact this
  · have := a5.2.2 q h2 h3
    unfold RFu at this ⊢
    rw [h8]
    exact this
  · rw [h.2.1 2 (by decide)]; exact a6
/-! a call of the reference keeps the class's picture -/
theorem CRd_tr {c d : cc_C} {r : Nat} {x : cc_Rd} (hv : cV c 3 r 0 → cV d 3 r 0) (h : ∀ f, cdR f → cS d f r = cS c f r) (h42 : cS d 42 (r + 4) 0 = cS c 42 (r + 4) 0) (h80 : cS d 80 (r + 4) 0 = cS c 80 (r + 4) 0) (hk : ∀ e, e < rdC x → clC d r e = clC c r e) (hr : CRd c r x) : CRd d r x := by
  obtain ⟨a1, a2, a3, a4, a5, a6, a7, a8, a9, a10⟩ := hr
  unfold cdR at h
  refine ⟨hv a1, ?_, h42.trans a3, fun e he => (hk e he).trans (a4 e he), ?_, ?_, ?_, ?_, ?_, ?_⟩
  · rw [h 120 (by omega)]; exact a2
  · rw [h 125 (by omega)]; exact a5
  · rw [h 284 (by omega)]; exact a6
  · unfold stC at a7 ⊢
    rw [h 283 (by omega), h 320 (by omega), h 360 (by omega), h 400 (by omega), h 286 (by omega)]
    exact a7
  · rw [h 126 (by omega)]; exact a8
  · unfold CRa at a9 ⊢
    rw [h 124 (by omega), h 520 (by omega)]
    exact a9
  · unfold cN at a10 ⊢
    rw [h80]
    exact a10
theorem CLR_tr {c d : cc_C} {M : cc_M} (h42 : cS d 42 0 0 = cS c 42 0 0) (h80 : cS d 80 0 0 = cS c 80 0 0) (hR : ∀ r, r < mR M → CRd c r (mX M r) → CRd d r (mX M r)) (hv : ∀ k i, k = 1 ∨ k = 2 ∨ k = 3 ∨ (7 ≤ k ∧ k ≤ 13) → cV d k i 0 → cV c k i 0) (h : CLR c M) : CLR d M := by
  obtain ⟨a1, a2, a3, a4⟩ := h
  refine ⟨h42.trans a1, ?_, fun r hr => hR r hr (a3 r hr), fun r hr => ?_⟩
  · unfold cN at a2 ⊢
    rw [h80]
    exact a2
  · obtain ⟨b1, b2, b3⟩ := a4 r hr
    exact ⟨fun k hk q => b1 k hk (hv k r (by omega) q), fun q => b2 (hv 1 _ (by omega) q), fun q => b3 (hv 2 _ (by omega) q)⟩
theorem CLW_tr {c d : cc_C} {M : cc_M} (h42 : cS d 42 1 0 = cS c 42 1 0) (h80 : cS d 80 1 0 = cS c 80 1 0) (h5 : ∀ f i, 560 ≤ f ∧ f ≤ 565 → cS d f i 0 = cS c f i 0) (hv : ∀ u, cV d 14 u 0 ↔ cV c 14 u 0) (h : CLW c M) : CLW d M := by
  obtain ⟨⟨a1, a2, a3⟩, b1, b2, b3⟩ := h
  refine ⟨⟨h42.trans a1, a2, fun u hu => ?_⟩, ?_, fun u hu => ⟨(hv u).mpr (b2 u hu).1, ?_⟩, fun u hu q => b3 u hu ((hv u).mp q)⟩
  · rw [h5 560 u (by omega), h5 563 u (by omega), h5 564 u (by omega), h5 565 u (by omega), h5 561 u (by omega)]
    exact a3 u hu
  · unfold cN at b1 ⊢
    rw [h80]
    exact b1
  · rw [h5 562 u (by omega)]
    exact (b2 u hu).2
theorem CLI_tr {c d : cc_C} {M : cc_M} (h42 : cS d 42 2 0 = cS c 42 2 0) (h80 : cS d 80 2 0 = cS c 80 2 0) (h6 : ∀ i, cS d 600 i 0 = cS c 600 i 0 ∧ cS d 601 i 0 = cS c 601 i 0) (hv : ∀ u, cV d 15 u 0 ↔ cV c 15 u 0) (h : CLI c M) : CLI d M := by
  obtain ⟨a1, a2, a3, a4⟩ := h
  refine ⟨h42.trans a1, ?_, fun i hi => ⟨(hv i).mpr (a3 i hi).1, (h6 i).1.trans (a3 i hi).2.1, (h6 i).2.trans (a3 i hi).2.2⟩, fun i hi q => a4 i hi ((hv i).mp q)⟩
  unfold cN at a2 ⊢
  rw [h80]
  exact a2
theorem CLU_tr {c d : cc_C} {M : cc_M} (h42 : cS d 42 3 0 = cS c 42 3 0) (h80 : cS d 80 3 0 = cS c 80 3 0) (h6 : ∀ f i, f = 640 ∨ f = 641 ∨ f = 680 → cS d f i = cS c f i) (hv : ∀ u, cV d 16 u 0 ↔ cV c 16 u 0) (hv2 : ∀ u, cV d 17 u 0 → cV c 17 u 0) (h : CLU c M) : CLU d M := by
  obtain ⟨a1, a2, a3, a4⟩ := h
  refine ⟨h42.trans a1, ?_, fun q hq => ?_, fun i hi => ⟨fun q => (a4 i hi).1 ((hv i).mp q), fun q => (a4 i hi).2 (hv2 i q)⟩⟩
  · unfold cN at a2 ⊢
    rw [h80]
    exact a2
  · obtain ⟨b1, b2, b3, b4⟩ := a3 q hq
    rw [h6 640 q (by omega), h6 641 q (by omega), h6 680 q (by omega)]
    exact ⟨(hv q).mpr b1, b2, b3, b4⟩
theorem CL_kM {c d : cc_C} {M : cc_M} (h : kM c d) (hc : CL c M) : CL d M := by
  obtain ⟨a1, a2, a3, a4, a5, a6⟩ := hc
  have hs := h.2.2.1
  have hv := h.2.1
  refine ⟨by rw [hv]; exact a1, CLR_tr (by rw [hs 42 (by omega)]) (by rw [hs 80 (by omega)]) (fun r hr => CRd_tr (by rw [hv]; exact id) (fun f hf => ?_) (by rw [hs 42 (by omega)]) (by rw [hs 80 (by omega)]) (fun e he => ?_)) (by rw [hv]; exact fun _ _ _ q => q) a2, CLW_tr (by rw [hs 42 (by omega)]) (by rw [hs 80 (by omega)]) (fun f i hf => by rw [hs f (by omega)]) (by rw [hv]; exact fun _ => Iff.rfl) a3, CLI_tr (by rw [hs 42 (by omega)]) (by rw [hs 80 (by omega)]) (fun i => by rw [hs 600 (by omega), hs 601 (by omega)]; exact ⟨rfl, rfl⟩) (by rw [hv]; exact fun _ => Iff.rfl) a4, CLU_tr (by rw [hs 42 (by omega)]) (by rw [hs 80 (by omega)]) (fun f i hf => by rw [hs f (by omega)]) (by rw [hv]; exact fun _ => Iff.rfl) (by rw [hv]; exact fun _ q => q) a5, by rw [h.2.2.2.1 0 (by decide)]; exact a6⟩
  · unfold cdR at hf
    rw [hs f (by omega)]
  · unfold clC
    rw [h.1, hs 240 (by omega), hs 241 (by omega), hs 242 (by omega), hs 243 (by omega)]
