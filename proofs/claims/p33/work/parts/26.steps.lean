/-! what takes nothing away changes nothing -/
theorem kpE_0 {m : Nat → Nat} {p σ : Nat} (h : ∀ k, m k < 64) (hσ : σ < 64) (h0 : (kpE m p σ).2 = 0) : (kpE m p σ).1 = m := by
  have key : ∀ x, x < 64 → ∀ s, s < 64 → (pcN (x &&& (63 - s)) = 0 → x &&& s = x) := by decide +kernel
  have h1 := key (m p) (h p) σ hσ h0
  funext k
  show kp m p σ k = m k
  unfold kp
  by_cases hk : k = p
  · rw [if_pos hk, hk, h1]
  · rw [if_neg hk]
theorem thn_0 {e : cc_Ef} {m : Nat → Nat} {f : (Nat → Nat) → cc_Ef} (h1 : e.2 = 0 → e.1 = m) (h2 : (f m).2 = 0 → (f m).1 = m) (h0 : (thn e f).2 = 0) : (thn e f).1 = m := by
  have a : e.2 + (f e.1).2 = 0 := h0
  have a1 : e.2 = 0 := by omega
  have a2 : (f e.1).2 = 0 := by omega
  have b := h1 a1
  show (f e.1).1 = m
  rw [b] at a2 ⊢
  exact h2 a2
theorem bt_lt (x y : Nat) : btN x y < 64 := lo6_lt _
theorem efI_0 {n : Nat} {k xa xb xc : Int32} {m : Nat → Nat} (h : ∀ k, m k < 64) (hn : n ≤ 6) (hk : Kv n k xa xb xc) (h0 : (efI k xa xb xc m).2 = 0) : (efI k xa xb xc m).1 = m := by
  obtain ⟨⟨a, ea, la⟩, ⟨b, eb, lb⟩, hk⟩ := hk
  have p2 : ∀ b, b < 6 → 2 ^ b < 64 := by decide
  unfold efI at h0 ⊢
  rw [ea, eb, nI_clamp (by omega), nI_clamp (by omega)] at h0 ⊢
  generalize xc.toNatClampNeg = cc at *
  rcases hk with rfl | rfl | rfl | rfl | rfl | ⟨rfl, -⟩ | ⟨rfl, -⟩
  · exact kpE_0 h (p2 b (by omega)) h0
  · exact kpE_0 h (Nat.lt_of_le_of_lt (Nat.sub_le 63 _) (by decide)) h0
  · exact thn_0 (e := kpE m a (loN (m b))) (f := fun m1 => kpE m1 b (riN (m1 a))) (fun q => kpE_0 h (lo6_lt _) q) (fun q => kpE_0 h (lo6_lt _) q) h0
  · exact thn_0 (e := kpE m a (dsN 1 (m b))) (f := fun m1 => kpE m1 b (dsN 1 (m1 a))) (fun q => kpE_0 h (lo6_lt _) q) (fun q => kpE_0 h (lo6_lt _) q) h0
  · exact thn_0 (e := kpE m a (lsN (m b))) (f := fun m1 => kpE m1 b (l2N (m1 a))) (fun q => kpE_0 h (lo6_lt _) q) (fun q => kpE_0 h (lo6_lt _) q) h0
  · exact thn_0 (e := kpE m a (dsN cc (m b))) (f := fun m1 => kpE m1 b (dsN cc (m1 a))) (fun q => kpE_0 h (lo6_lt _) q) (fun q => kpE_0 h (lo6_lt _) q) h0
  · exact kpE_0 h (lo6_lt _) h0
theorem othE_0 {m : Nat → Nat} {p q σ : Nat} (h : ∀ k, m k < 64) : ∀ i, (othE m p q σ i).2 = 0 → (othE m p q σ i).1 = m
  | 0, _ => rfl
  | i + 1, h0 => by
    unfold othE at h0 ⊢
    by_cases hi : i = p ∨ i = q
    · rw [if_pos hi] at h0 ⊢
      exact othE_0 h i h0
    · rw [if_neg hi] at h0 ⊢
      exact thn_0 (othE_0 h i) (fun q => kpE_0 h (Nat.lt_of_le_of_lt (Nat.sub_le 63 _) (by decide)) q) h0
theorem perE_0 {m : Nat → Nat} {n p : Nat} (h : ∀ k, m k < 64) (h0 : (perE m n p).2 = 0) : (perE m n p).1 = m := by
  unfold perE at h0 ⊢
  by_cases hc : pcN (m p) = 1
  · rw [if_pos hc] at h0 ⊢
    exact othE_0 h n h0
  · rw [if_neg hc]
theorem pairE_0 {m : Nat → Nat} {n p q : Nat} (h : ∀ k, m k < 64) (h0 : (pairE m n p q).2 = 0) : (pairE m n p q).1 = m := by
  unfold pairE at h0 ⊢
  by_cases hc : m p = m q ∧ pcN (m p) = 2
  · rw [if_pos hc] at h0 ⊢
    exact othE_0 h n h0
  · rw [if_neg hc]
theorem placE_0 {m : Nat → Nat} {n t : Nat} (h : ∀ k, m k < 64) (ht : t < 6) (h0 : (placE m n t).2 = 0) : (placE m n t).1 = m := by
  have p2 : ∀ b, b < 6 → 2 ^ b < 64 := by decide
  unfold placE at h0 ⊢
  by_cases hc : (hav m t n).1 = 1
  · rw [if_pos hc] at h0 ⊢
    exact kpE_0 h (p2 t ht) h0
  · rw [if_neg hc]
theorem ownE_0 {k k' fz : Int32} {j w a b cc n : Nat} {m : Nat → Nat} (h : ∀ k, m k < 64) (h0 : (ownE k j fz w k' a b cc n m).2 = 0) : (ownE k j fz w k' a b cc n m).1 = m := by
  unfold ownE at h0 ⊢
  by_cases hc : k = k'
  · rw [if_pos hc] at h0 ⊢
    exact kpE_0 h (Nat.lt_of_le_of_lt (Nat.sub_le 63 _) (by decide)) h0
  · rw [if_neg hc]
theorem clE_0 {n ru : Nat} {k xa xb xc : Int32} {m : Nat → Nat} (h : ∀ k, m k < 64) (hn : n ≤ 6) (hk : Kv n k xa xb xc) (h0 : (clE ru k xa xb xc m).2 = 0) : (clE ru k xa xb xc m).1 = m := by
  unfold clE at h0 ⊢
  by_cases hc : k = kd ru
  · rw [if_pos hc] at h0 ⊢
    exact efI_0 h hn hk h0
  · rw [if_neg hc]
/-! the first try that takes something -/
def scR (f : Nat → cc_Ef) : Nat → Nat → Option (Nat × cc_Ef)
  | 0, _ => none
  | d + 1, i => if (f i).2 = 0 then scR f d (i + 1) else some (i, f i)
abbrev cc_T : Type := Nat × Nat × cc_Ef
def tag (ru : Nat) (o : Option (Nat × cc_Ef)) : Option cc_T := match o with
  | none => none
  | some (e, x) => some (ru, e, x)
def orE (o : Option cc_T) (z : Option cc_T) : Option cc_T := match o with
  | none => z
  | some x => some x
def clK (K : cc_K) (ru : Nat) (m : Nat → Nat) (e : Nat) : cc_Ef := clE ru (K e).1 (K e).2.1 (K e).2.2.1 (K e).2.2.2 m
def clS (K : cc_K) (nc : Nat) (m : Nat → Nat) : Nat → Nat → Option cc_T
  | 0, _ => none
  | d + 1, ru => orE (tag ru (scR (clK K ru m) nc 0)) (clS K nc m d (ru + 1))
def paS (m : Nat → Nat) (n : Nat) : Nat → Nat → Option cc_T
  | 0, _ => none
  | d + 1, p => orE (match scR (pairE m n p) (n - (p + 1)) (p + 1) with
    | none => none
    | some (q, x) => some (9, 10 * p + q, x)) (paS m n d (p + 1))
def plS (m : Nat → Nat) (n : Nat) : Option cc_T := orE (tag 7 (scR (perE m n) n 0)) (orE (tag 8 (scR (placE m n) n 0)) (paS m n n 0))
/-- own rules: kind, person's number, first, how many, standing -/
abbrev cc_O : Type := Nat → Int32 × Nat × Int32 × Nat × Bool
def owK (K : cc_K) (O : cc_O) (n u : Nat) (m : Nat → Nat) (e : Nat) : cc_Ef := ownE (O u).1 (O u).2.1 (O u).2.2.1 (O u).2.2.2.1 (K e).1 (K e).2.1.toNatClampNeg (K e).2.2.1.toNatClampNeg (K e).2.2.2.toNatClampNeg n m
def owS (K : cc_K) (O : cc_O) (n nc : Nat) (m : Nat → Nat) : Nat → Nat → Option cc_T
  | 0, _ => none
  | d + 1, u => orE (if (O u).2.2.2.2 then tag (10 + u) (scR (owK K O n u m) nc 0) else none) (owS K O n nc m d (u + 1))
def stpS (K : cc_K) (O : cc_O) (n nc nO : Nat) (m : Nat → Nat) : Option cc_T := orE (clS K nc m 7 0) (orE (plS m n) (owS K O n nc m nO 0))
