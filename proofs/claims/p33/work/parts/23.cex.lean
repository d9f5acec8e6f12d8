/-! counterexamples -/
def dgt (n : Nat) (l : List Nat) : Nat → Nat
  | 0 => n
  | i + 1 => 10 * dgt n l i + ofL l i
def exF (n : Nat) (P : List Nat → Bool) : Nat → List Nat → Option (List Nat)
  | 0, l => if P l then some l else none
  | m + 1, l => if P l then some l else match goL n l with
    | none => none
    | some l' => exF n P m l'
/-- an order of n against a rule: kind k, person number j, the first or the last w places -/
def agP (k : Int32) (j : Nat) (fz : Int32) (w n : Nat) (l : List Nat) : Bool := fitI k 0 1 2 l && (if fz = 1 then decide (ofL l j < w) else decide (n ≤ ofL l j + w))
def cexN (k : Int32) (j : Nat) (fz : Int32) (w n : Nat) : Nat := match exF n (agP k j fz w n) (fuelN n) (List.range n) with
  | none => 0
  | some l => dgt n l n
def lcx (k : Int32) (j : Nat) (fz : Int32) (w : Nat) : Nat → Nat → Nat
  | 0, _ => 0
  | m + 1, n => if cexN k j fz w n = 0 then lcx k j fz w m (n + 1) else cexN k j fz w n
/-- a rule that can be told -/
def Ov (k p fz x : Int32) (j w : Nat) : Prop := (k = 98 ∨ k = 110 ∨ k = 108 ∨ k = 109) ∧ p = nI (97 + j) ∧ j < 3 ∧ (fz = 0 ∨ fz = 1) ∧ x = nI w ∧ 1 ≤ w ∧ w ≤ 5 ∧ (j = 2 → k = 109)
theorem dgt_lt {n : Nat} {l : List Nat} (hn : n ≤ 6) (hp : ∀ k, ofL l k < n) : ∀ i, dgt n l i < 7 * 10 ^ i
  | 0 => by
    show n < 7
    omega
  | i + 1 => by
    have h1 := dgt_lt hn hp i
    have h2 := hp i
    show 10 * dgt n l i + ofL l i < 7 * 10 ^ (i + 1)
    rw [Nat.pow_succ]
    omega
theorem dgt_pos {n : Nat} {l : List Nat} (h : 0 < n) : ∀ i, 0 < dgt n l i
  | 0 => h
  | i + 1 => by
    have := dgt_pos (l := l) h i
    show 0 < 10 * dgt n l i + ofL l i
    omega
theorem dgt_31 {n i : Nat} {l : List Nat} (hn : n ≤ 6) (hp : ∀ k, ofL l k < n) (hi : i ≤ 6) : dgt n l i < 2 ^ 31 := by
  have h1 := dgt_lt hn hp i
  have h2 : 10 ^ i ≤ 10 ^ 6 := Nat.pow_le_pow_right (by decide) hi
  omega
theorem exF_lt {n : Nat} {P : List Nat → Bool} (h0 : 0 < n) : ∀ {m : Nat} {l l' : List Nat}, chain n m l = true → exF n P m l = some l' → ∀ k, ofL l' k < n
  | 0, l, l', hc, h => by
    unfold exF at h
    cases hP : P l with
    | true => rw [hP] at h; cases h; exact chain_lt h0 hc
    | false => rw [hP] at h; cases h
  | m + 1, l, l', hc, h => by
    obtain ⟨p, e0, e1, hc'⟩ := chain_s hc
    unfold exF at h
    cases hP : P l with
    | true => rw [hP] at h; cases h; exact chain_lt h0 hc
    | false =>
      rw [hP, e1] at h
      exact exF_lt h0 hc' h
/-- the set of places that a rule takes, and a place in it -/
def setW (w n : Nat) (fz : Int32) : Int32 := if fz = 0 then ((((1) <<< ((if nI n < nI w then nI n else nI w) &&& 31)) - (1)) <<< ((nI n - (if nI n < nI w then nI n else nI w)) &&& 31)) else (((1) <<< ((if nI n < nI w then nI n else nI w) &&& 31)) - (1))
theorem setW_in {w n pl : Nat} {fz : Int32} (hw : 1 ≤ w) (hw5 : w ≤ 5) (hn3 : 3 ≤ n) (hn : n ≤ 6) (hp : pl < n) (hz : fz = 0 ∨ fz = 1) : ((setW w n fz &&& ((1 : Int32) <<< (nI pl &&& 31))) = 0 ↔ (if fz = 1 then decide (pl < w) else decide (n ≤ pl + w)) = false) := by
  have key : ∀ w, w < 5 → ∀ m, m < 4 → ∀ pl, pl < 6 → ∀ z, z < 2 → (pl < m + 3 → (((setW (w + 1) (m + 3) (nI z) &&& ((1 : Int32) <<< (nI pl &&& 31))) = 0) = ((if (nI z) = 1 then decide (pl < w + 1) else decide (m + 3 ≤ pl + (w + 1))) = false))) := by
    have k2 : ∀ w, w < 5 → ∀ m, m < 4 → ∀ pl, pl < 6 → ∀ z, z < 2 → (pl < m + 3 → (decide ((setW (w + 1) (m + 3) (nI z) &&& ((1 : Int32) <<< (nI pl &&& 31))) = 0)) = !(if (nI z) = 1 then decide (pl < w + 1) else decide (m + 3 ≤ pl + (w + 1)))) := by decide +kernel
    intro w h1 m h2 pl h3 z h4 h5
    have := k2 w h1 m h2 pl h3 z h4 h5
    generalize (if (nI z) = 1 then decide (pl < w + 1) else decide (m + 3 ≤ pl + (w + 1))) = bb at *
    cases bb with
    | true => exact propext ⟨fun q => absurd q (of_decide_eq_false this), fun q => nomatch q⟩
    | false => exact propext ⟨fun _ => rfl, fun _ => of_decide_eq_true this⟩
  obtain ⟨w', rfl⟩ : ∃ w', w = w' + 1 := ⟨w - 1, by omega⟩
  obtain ⟨m, rfl⟩ : ∃ m, n = m + 3 := ⟨n - 3, by omega⟩
  rcases hz with rfl | rfl
  · exact (key w' (by omega) m (by omega) pl (by omega) 0 (by omega) hp) ▸ Iff.rfl
  · exact (key w' (by omega) m (by omega) pl (by omega) 1 (by omega) hp) ▸ Iff.rfl
section
variable {g : Nat → Nat} {R : Option Value → cc_C → Prop} {X : String → cc_C → Prop}
theorem s_digits {c : cc_C} {q b n : Nat} {l : List Nat} (s2 : sl c 18 q 0 b) (hl : cN c 720 q = n) (hn : n ≤ 6) (hr : Rp n (ofL l) (cS c 760 q)) (H : R (some (.int (nI (dgt n l n)))) c) : wc g (wp_X3_digits g) c [.ref b] R X := by
  have loop : ∀ (m i : Nat), i + m = n → ec g tb_X3_digits 8 [some (.ref b), some (.int (nI (dgt n l i))), some (.int (nI i))] [] 0 0 c R X := by
    intro m
    induction m with
    | zero =>
      intro i hi
      obtain rfl : i = n := by omega
      refine mk_X3_digits_8 s2 ?_
      rw [hl]
      exact ⟨fun _ => H, fun e => absurd (nI_le (Nat.le_refl i) (by omega)) e⟩
    | succ m ih =>
      intro i hi
      refine mk_X3_digits_8 s2 ?_
      rw [hl]
      refine ⟨fun e => absurd e (nI_ge (by omega) (by omega)), fun _ => ⟨vp_in_nI (by omega) (by omega), ?_⟩⟩
      rw [nI_clamp (by omega), hr i (by omega), nI_1]
      have : (10 : Int32) * nI (dgt n l i) + nI (ofL l i) = nI (dgt n l (i + 1)) := by
        show nI 10 * nI (dgt n l i) + nI (ofL l i) = _
        rw [pk_mul, nI_add]
        rfl
      rw [this]
      exact ih (i + 1) (by omega)
  refine mk_X3_digits_0 s2 ?_
  rw [hl]
  exact loop n 0 (by omega)
def pCex (o q : Nat) (f i : Nat) : Prop := (f = 562 ∧ i = o) ∨ (f = 760 ∧ i = q)
theorem s_cexBody {c : cc_C} {o q t a b e n j w i : Nat} {fz set : Int32} {l : List Nat} {o6 : Option Value} (s : sl c 14 o 0 a) (s2 : sl c 18 q 0 b) (s3 : sl c 6 t 0 e) (hl : cN c 720 q = n) (hn3 : 3 ≤ n) (hn : n ≤ 6) (ov : Ov (cS c 560 o 0) (cS c 563 o 0) fz (nI w) j w) (hk : cS c 240 t 0 = cS c 560 o 0) (h241 : cS c 241 t 0 = 0) (h242 : cS c 242 t 0 = 1) (h243 : cS c 243 t 0 = 2) (hset : set = setW w n fz) (hlt : ∀ k, ofL l k < n) (hr : Rp n (ofL l) (cS c 760 q)) (hi : i < 720)
    (HF : agP (cS c 560 o 0) j fz w n l = true → R none (cset c 562 o 0 (nI (dgt n l n))))
    (HN : agP (cS c 560 o 0) j fz w n l = false → ∀ pl : Int32, wc g (wp_X3_goOn g) c [.ref b] (fun v c' => ∃ x : Int32, v = some (.int x) ∧ ec g tb_X4_findCounterexampleOf 6 [some (.ref a), some (.ref b), some (.ref e), some (.int set), some (.int x), some (.int (nI i + 1)), some (.int pl)] [] 0 0 c' R X) X) : ec g tb_X4_findCounterexampleOf 6 [some (.ref a), some (.ref b), some (.ref e), some (.int set), some (.int 1), some (.int (nI i)), o6] [] 0 0 c R X := by
  obtain ⟨v1, v2, v3, v4, v5, v6, v7, v8⟩ := ov
  have kv : Kv n (cS c 240 t 0) (cS c 241 t 0) (cS c 242 t 0) (cS c 243 t 0) := by
    rw [hk, h241, h242, h243]
    refine ⟨⟨0, rfl, by omega⟩, ⟨1, rfl, by omega⟩, ?_⟩
    rcases v1 with h | h | h | h
    · exact Or.inr (Or.inr (Or.inl h))
    · exact Or.inr (Or.inr (Or.inr (Or.inl h)))
    · exact Or.inr (Or.inr (Or.inr (Or.inr (Or.inl h))))
    · exact Or.inr (Or.inr (Or.inr (Or.inr (Or.inr (Or.inr ⟨h, 2, rfl, by omega⟩)))))
  have rest : wc g (wp_X3_placeOf g) c [.ref b, .int (nI j)] (fun v49 c7 => ∃ x12 : Int32, v49 = some (.int x12) ∧ (((set &&& ((1) <<< (x12 &&& 31))) = 0 → wc g (wp_X3_goOn g) c7 [.ref b] (fun v19 c13 => ∃ x18 : Int32, v19 = some (.int x18) ∧ ec g tb_X4_findCounterexampleOf 6 [some (.ref a), some (.ref b), some (.ref e), some (.int set), some (.int x18), some (.int (nI i + 1)), some (.int x12)] [] 0 0 c13 R X) X) ∧ (¬ (set &&& ((1) <<< (x12 &&& 31))) = 0 → wc g (wp_X0_isFitBy g) c7 [.ref e, .ref b] (fun v46 c21 => ∃ x26 : Int32, v46 = some (.int x26) ∧ ((x26 = 0 → wc g (wp_X3_goOn g) c21 [.ref b] (fun v33 c27 => ∃ x32 : Int32, v33 = some (.int x32) ∧ ec g tb_X4_findCounterexampleOf 6 [some (.ref a), some (.ref b), some (.ref e), some (.int set), some (.int x32), some (.int (nI i + 1)), some (.int x12)] [] 0 0 c27 R X) X) ∧ (¬ x26 = 0 → wc g (wp_X3_digits g) c21 [.ref b] (fun v43 c35 => ∃ x40 : Int32, v43 = some (.int x40) ∧ R none (cset c35 562 o 0 x40)) X))) X))) X := by
    refine s_placeOf s2 hl hn hr rfl (show j < n by omega) ⟨_, rfl, fun h => ?_, fun h => ?_⟩
    · rw [hset] at h
      have h1 := (setW_in v6 v7 hn3 hn (hlt j) v4).mp h
      refine HN ?_ _
      unfold agP
      rw [h1]
      exact Bool.and_false _
    · rw [hset] at h
      have h1 : (if fz = 1 then decide (ofL l j < w) else decide (n ≤ ofL l j + w)) = true := by
        cases hb : (if fz = 1 then decide (ofL l j < w) else decide (n ≤ ofL l j + w)) with
        | true => rfl
        | false => exact absurd ((setW_in v6 v7 hn3 hn (hlt j) v4).mpr hb) h
      refine s_isFitBy s3 s2 hl hn hr (fun k _ => hlt k) kv ⟨_, rfl, ?_⟩
      rw [hk, h241, h242, h243]
      have h2 : agP (cS c 560 o 0) j fz w n l = fitI (cS c 560 o 0) 0 1 2 l := by
        unfold agP
        rw [h1]
        exact Bool.and_true _
      rw [h2] at HF HN
      cases hb : fitI (cS c 560 o 0) 0 1 2 l with
      | false => exact ⟨fun _ => HN hb _, fun q => absurd rfl q⟩
      | true => exact ⟨fun q => absurd q (by decide), fun _ => s_digits s2 hl hn hr ⟨_, rfl, HF hb⟩⟩
  refine mk_X4_findCounterexampleOf_6 s s2 s3 ⟨fun q => absurd q (by decide), fun _ => ⟨fun q => absurd q (nI_ge (b := 720) hi (by omega)), fun _ => mk_X4_personIn_0 s s3 ⟨fun h => ⟨_, rfl, ?_⟩, fun h => ⟨fun h2 => ⟨_, rfl, ?_⟩, fun h2 => ⟨_, rfl, ?_⟩⟩⟩⟩⟩
  · rw [v2] at h
    have : j = 0 := by
      have := (nI_eq (a := 97 + j) (b := 97) (by omega) (by omega)).mp h
      omega
    subst this
    rw [h241]
    exact rest
  · rw [v2] at h2
    have : j = 1 := by
      have := (nI_eq (a := 97 + j) (b := 98) (by omega) (by omega)).mp h2
      omega
    subst this
    rw [h242]
    exact rest
  · rw [v2] at h h2
    have : j = 2 := by
      have h3 : ¬ 97 + j = 97 := fun q => h (by rw [q]; rfl)
      have h4 : ¬ 97 + j = 98 := fun q => h2 (by rw [q]; rfl)
      omega
    subst this
    rw [h243]
    exact rest
theorem s_cexLoop {c0 : cc_C} {o q t a b e n j w : Nat} {fz set : Int32} (s : sl c0 14 o 0 a) (s2 : sl c0 18 q 0 b) (s3 : sl c0 6 t 0 e) (hl : cN c0 720 q = n) (hn3 : 3 ≤ n) (hn : n ≤ 6) (ov : Ov (cS c0 560 o 0) (cS c0 563 o 0) fz (nI w) j w) (hk : cS c0 240 t 0 = cS c0 560 o 0) (h241 : cS c0 241 t 0 = 0) (h242 : cS c0 242 t 0 = 1) (h243 : cS c0 243 t 0 = 2) (hset : set = setW w n fz) : ∀ (m : Nat) (c : cc_C) (l : List Nat) (i : Nat) (o6 : Option Value), chain n m l = true → i + m < 720 → fr (pCex o q) c0 c → Rp n (ofL l) (cS c 760 q) → (∀ d, fr (pCex o q) c0 d → (exF n (agP (cS c0 560 o 0) j fz w n) m l = none → cS d 562 o 0 = cS c 562 o 0) → (∀ l', exF n (agP (cS c0 560 o 0) j fz w n) m l = some l' → cS d 562 o 0 = nI (dgt n l' n)) → R none d) → ec g tb_X4_findCounterexampleOf 6 [some (.ref a), some (.ref b), some (.ref e), some (.int set), some (.int 1), some (.int (nI i)), o6] [] 0 0 c R X := by
  have no : ∀ f i, f ≠ 562 → f ≠ 760 → ¬ pCex o q f i := by
    intro f i h1 h2 hp
    unfold pCex at hp
    omega
  have body : ∀ (c : cc_C) (l : List Nat) (i : Nat) (o6 : Option Value), fr (pCex o q) c0 c → (∀ k, ofL l k < n) → Rp n (ofL l) (cS c 760 q) → i < 720 → (agP (cS c0 560 o 0) j fz w n l = true → R none (cset c 562 o 0 (nI (dgt n l n)))) → (agP (cS c0 560 o 0) j fz w n l = false → ∀ pl : Int32, wc g (wp_X3_goOn g) c [.ref b] (fun v c' => ∃ x : Int32, v = some (.int x) ∧ ec g tb_X4_findCounterexampleOf 6 [some (.ref a), some (.ref b), some (.ref e), some (.int set), some (.int x), some (.int (nI i + 1)), some (.int pl)] [] 0 0 c' R X) X) → ec g tb_X4_findCounterexampleOf 6 [some (.ref a), some (.ref b), some (.ref e), some (.int set), some (.int 1), some (.int (nI i)), o6] [] 0 0 c R X := by
    intro c l i o6 hf hlt hr hi HF HN
    have r563 : cS c 563 o = cS c0 563 o := hf.row (no _ _ (by decide) (by decide))
    have r560 : cS c 560 o = cS c0 560 o := hf.row (no _ _ (by decide) (by decide))
    have r240 : cS c 240 t = cS c0 240 t := hf.row (no _ _ (by decide) (by decide))
    have r241 : cS c 241 t = cS c0 241 t := hf.row (no _ _ (by decide) (by decide))
    have r242 : cS c 242 t = cS c0 242 t := hf.row (no _ _ (by decide) (by decide))
    have r243 : cS c 243 t = cS c0 243 t := hf.row (no _ _ (by decide) (by decide))
    refine s_cexBody (hf.sl s) (hf.sl s2) (hf.sl s3) ((hf.nn (no _ _ (by decide) (by decide))).trans hl) hn3 hn (by rw [r560, r563]; exact ov) (by rw [r240, r560]; exact hk) (by rw [r241]; exact h241) (by rw [r242]; exact h242) (by rw [r243]; exact h243) hset hlt hr hi (by rw [r560]; exact HF) (by rw [r560]; exact HN)
  have goN : ∀ (c : cc_C) (l : List Nat), fr (pCex o q) c0 c → (∀ k, ofL l k < n) → Rp n (ofL l) (cS c 760 q) → ∀ Q : Option Value → cc_C → Prop, (goF n (ofL l) = none → Q (some (.int 0)) c) → (∀ p', goF n (ofL l) = some p' → ∀ d, fr (fun f i => f = 760 ∧ i = q) c d → Rp n p' (cS d 760 q) → Q (some (.int 1)) d) → wc g (wp_X3_goOn g) c [.ref b] Q X := fun c l hf hlt hr Q h1 h2 => s_goOn (hf.sl s2) ((hf.nn (no _ _ (by decide) (by decide))).trans hl) (by omega) hn hr (fun k _ => by have := hlt k; omega) h1 h2
  intro m
  induction m with
  | zero =>
    intro c l i o6 hch hi hf hr H
    have hlt := chain_lt (show 0 < n by omega) hch
    have e0 := chain_0 hch
    refine body c l i o6 hf hlt hr (by omega) (fun hP => H _ (hf.set (Or.inl ⟨rfl, rfl⟩)) (fun q => ?_) (fun l' q => ?_)) (fun hP pl => goN c l hf hlt hr _ (fun _ => ⟨_, rfl, mk_X4_findCounterexampleOf_6 (hf.sl s) (hf.sl s2) (hf.sl s3) ⟨fun _ => H c hf (fun _ => rfl) (fun l' q => ?_), fun q => absurd rfl q⟩⟩) (fun p' hp' => ?_))
    · unfold exF at q
      rw [hP] at q
      cases q
    · unfold exF at q
      rw [hP] at q
      cases q
      exact cS_at _ _ _ _ _
    · unfold exF at q
      rw [hP] at q
      cases q
    · rw [e0] at hp'
      cases hp'
  | succ m ih =>
    intro c l i o6 hch hi hf hr H
    have hlt := chain_lt (show 0 < n by omega) hch
    obtain ⟨p', e0, e1, hch'⟩ := chain_s hch
    refine body c l i o6 hf hlt hr (by omega) (fun hP => H _ (hf.set (Or.inl ⟨rfl, rfl⟩)) (fun q => ?_) (fun l' q => ?_)) (fun hP pl => goN c l hf hlt hr _ (fun h => ?_) (fun p'' hp' d hd hrd => ⟨_, rfl, ?_⟩))
    · unfold exF at q
      rw [hP] at q
      cases q
    · unfold exF at q
      rw [hP] at q
      cases q
      exact cS_at _ _ _ _ _
    · rw [e0] at h
      cases h
    · rw [e0] at hp'
      cases hp'
      rw [nI_1]
      have e2 : exF n (agP (cS c0 560 o 0) j fz w n) (m + 1) l = exF n (agP (cS c0 560 o 0) j fz w n) m (lsP n p') := by
        conv => lhs; unfold exF
        rw [hP, e1]
        rfl
      rw [e2] at H
      have h562 : cS d 562 o = cS c 562 o := hd.row (by omega)
      exact ih d (lsP n p') (i + 1) _ hch' (by omega) (hf.trans (hd.mono (fun f i h => Or.inr h))) (Rp_ls hrd) (fun d' h1 h2 h3 => H d' h1 (fun h => (h2 h).trans (by rw [h562])) h3)
end
