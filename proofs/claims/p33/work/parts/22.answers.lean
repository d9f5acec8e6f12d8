/-! all clues, all orders -/
abbrev cc_K : Type := Nat → Int32 × Int32 × Int32 × Int32
def fitK (K : cc_K) (e : Nat) (l : List Nat) : Bool := fitI (K e).1 (K e).2.1 (K e).2.2.1 (K e).2.2.2 l
def KvK (n : Nat) (K : cc_K) (e : Nat) : Prop := Kv n (K e).1 (K e).2.1 (K e).2.2.1 (K e).2.2.2
def aF (K : cc_K) (l : List Nat) : Nat → Bool
  | 0 => true
  | e + 1 => aF K l e && fitK K e l
def clC (c : cc_C) (r : Nat) : cc_K := fun e => (cS c 240 (cA c 5 r e) 0, cS c 241 (cA c 5 r e) 0, cS c 242 (cA c 5 r e) 0, cS c 243 (cA c 5 r e) 0)
def clM (c : cc_C) (r : Nat) : cc_K := fun e => (cS c 880 6 (8 * r + e), cS c 880 7 (8 * r + e), cS c 880 8 (8 * r + e), cS c 880 9 (8 * r + e))
def cntL (n : Nat) (P : List Nat → Bool) : Nat → List Nat → Nat
  | 0, l => if P l then 1 else 0
  | m + 1, l => (if P l then 1 else 0) + match goL n l with
    | none => 0
    | some l' => cntL n P m l'
def fstL (n : Nat) (P : List Nat → Bool) : Nat → List Nat → List Nat
  | 0, l => if P l then l else []
  | m + 1, l => if P l then l else match goL n l with
    | none => []
    | some l' => fstL n P m l'
def fuelN (n : Nat) : Nat := if n = 3 then 5 else if n = 4 then 23 else if n = 5 then 119 else 719
theorem aF_mono {K : cc_K} {l : List Nat} {i : Nat} (h : aF K l i = false) : ∀ m, aF K l (i + m) = false
  | 0 => h
  | m + 1 => by
    show (aF K l (i + m) && fitK K (i + m) l) = false
    rw [aF_mono h m]
    rfl
theorem chainN {n : Nat} (h3 : 3 ≤ n) (h6 : n ≤ 6) : chain n (fuelN n) (List.range n) = true ∧ fuelN n ≤ 719 := by
  rcases (show n = 3 ∨ n = 4 ∨ n = 5 ∨ n = 6 by omega) with rfl | rfl | rfl | rfl
  · exact ⟨chain3, by decide⟩
  · exact ⟨chain4, by decide⟩
  · exact ⟨chain5, by decide⟩
  · exact ⟨chain6, by decide⟩
theorem all_lt {n : Nat} (h0 : 0 < n) : ∀ {l : List Nat}, l.all (fun x => Nat.blt x n) = true → ∀ k, ofL l k < n
  | [], _, _ => h0
  | x :: l, h, 0 => by
    have h1 : (Nat.blt x n && l.all (fun x => Nat.blt x n)) = true := h
    have h2 := (Bool.and_eq_true _ _ ▸ h1 : _ ∧ _).1
    exact Nat.le_of_ble_eq_true h2
  | x :: l, h, k + 1 => by
    have h1 : (Nat.blt x n && l.all (fun x => Nat.blt x n)) = true := h
    have h2 := (Bool.and_eq_true _ _ ▸ h1 : _ ∧ _).2
    exact all_lt h0 h2 k
theorem chain_lt {n m : Nat} {l : List Nat} (h0 : 0 < n) (h : chain n m l = true) : ∀ k, ofL l k < n := by
  cases m with
  | zero =>
    have h1 : ((goL n l).isNone && l.all (fun x => Nat.blt x n)) = true := h
    rw [Bool.and_eq_true] at h1
    exact all_lt h0 h1.2
  | succ m =>
    have h1 : (l.all (fun x => Nat.blt x n) && match goL n l with | none => false | some l' => chain n m l') = true := h
    rw [Bool.and_eq_true] at h1
    exact all_lt h0 h1.1
theorem chain_0 {n : Nat} {l : List Nat} (h : chain n 0 l = true) : goF n (ofL l) = none := by
  have h1 : ((goL n l).isNone && l.all (fun x => Nat.blt x n)) = true := h
  rw [Bool.and_eq_true] at h1
  have h2 := h1.1
  unfold goL at h2
  cases hg : goF n (ofL l) with
  | none => rfl
  | some p => rw [hg] at h2; cases h2
theorem chain_s {n m : Nat} {l : List Nat} (h : chain n (m + 1) l = true) : ∃ p, goF n (ofL l) = some p ∧ goL n l = some (lsP n p) ∧ chain n m (lsP n p) = true := by
  have h1 : (l.all (fun x => Nat.blt x n) && match goL n l with | none => false | some l' => chain n m l') = true := h
  rw [Bool.and_eq_true] at h1
  have h2 := h1.2
  cases hg : goF n (ofL l) with
  | none =>
    have : goL n l = none := by
      unfold goL
      rw [hg]
      rfl
    rw [this] at h2
    cases h2
  | some p =>
    have : goL n l = some (lsP n p) := by
      unfold goL
      rw [hg]
      rfl
    rw [this] at h2
    exact ⟨p, rfl, this, h2⟩
theorem ofL_lsP {n : Nat} {p : Nat → Nat} {i : Nat} (h : i < n) : ofL (lsP n p) i = p i := by
  unfold ofL lsP
  rw [List.getD_eq_getElem?_getD, List.getElem?_map, List.getElem?_range h]
  rfl
theorem Rp_ls {n : Nat} {p : Nat → Nat} {f : Nat → Int32} (h : Rp n p f) : Rp n (ofL (lsP n p)) f := fun i hi => by
  rw [ofL_lsP hi]
  exact h i hi
theorem ofL_range {n i : Nat} (h : i < n) : ofL (List.range n) i = i := by
  unfold ofL
  rw [List.getD_eq_getElem?_getD, List.getElem?_range h]
  rfl
theorem cS_fn {c : cc_C} {f i j : Nat} {x : Int32} {f' i' : Nat} (h : ¬ (f' = f ∧ i' = i)) : cS (cset c f i j x) f' i' = cS c f' i' := up3_fn h
theorem fr.cws {P : Nat → Nat → Prop} {c d : cc_C} (h : fr P c d) (h1 : ∀ i, ¬ P 126 i) (h2 : ∀ i, ¬ P 42 i) (h3 : ∀ i, ¬ P 80 i) (hw : cw c) : cw d := by
  obtain ⟨a1, a2, a3, a4, a5, a6, a7, a8, a9, a11, a10⟩ := hw
  have eA := h.1
  have eV := h.2.1
  have e1 : ∀ i, cS d 126 i = cS c 126 i := fun i => h.row (h1 i)
  have e2 : ∀ i, cS d 42 i = cS c 42 i := fun i => h.row (h2 i)
  have e3 : ∀ i, cS d 80 i = cS c 80 i := fun i => h.row (h3 i)
  unfold cw
  unfold cN elV at *
  rw [eA, eV]
  refine ⟨a1, a2, fun i hv => ?_, a4, a5, a6, a7, a8, a9, a11, fun i hv => ?_⟩
  · rw [e1]
    exact a3 i hv
  · rw [e2, e3]
    exact a10 i hv
theorem el_slot {c : cc_C} {r e : Nat} (hw : cw c) (hv : cV c 1 (r + 4) 0) (he : e < cN c 42 (r + 4)) : sl c 6 (cA c 5 r e) 0 (el c (r + 4) e) := by
  have h1 := (hw.2.2.2.2.2.2.2.2.2.2 (r + 4) hv).2.2.2 e he
  exact ⟨h1, hw.2.2.2.2.2.2.2.1 _ h1⟩
