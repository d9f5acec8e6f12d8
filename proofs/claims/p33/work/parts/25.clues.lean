/-! what rules take away -/
abbrev cc_Ef : Type := (Nat → Nat) × Nat
def kpE (m : Nat → Nat) (p σ : Nat) : cc_Ef := (kp m p σ, pcN (m p &&& (63 - σ)))
def thn (e : cc_Ef) (f : (Nat → Nat) → cc_Ef) : cc_Ef := ((f e.1).1, e.2 + (f e.1).2)
def loN (y : Nat) : Nat := lo6 (loC (nI y))
def riN (y : Nat) : Nat := lo6 (riC (nI y))
def dsN (k y : Nat) : Nat := lo6 ((nI y <<< (nI k &&& 31)) ||| (nI y >>> (nI k &&& 31)))
def lsN (y : Nat) : Nat := lo6 (nI y >>> ((1 : Int32) &&& 31))
def l2N (y : Nat) : Nat := lo6 (nI y <<< ((1 : Int32) &&& 31))
def btN (x y : Nat) : Nat := lo6 ((riC (nI x) &&& loC (nI y)) ||| (riC (nI y) &&& loC (nI x)))
def dstE (m : Nat → Nat) (a b k : Nat) : cc_Ef := thn (kpE m a (dsN k (m b))) (fun m1 => kpE m1 b (dsN k (m1 a)))
def efC (k : Int32) (a b cc : Nat) (m : Nat → Nat) : cc_Ef :=
  if k = 112 then kpE m a (2 ^ b) else if k = 120 then kpE m a (63 - 2 ^ b) else if k = 98 then thn (kpE m a (loN (m b))) (fun m1 => kpE m1 b (riN (m1 a))) else if k = 110 then dstE m a b 1 else if k = 108 then thn (kpE m a (lsN (m b))) (fun m1 => kpE m1 b (l2N (m1 a))) else if k = 100 then dstE m a b cc else kpE m cc (btN (m a) (m b))
theorem bit6 {b : Nat} (h : b < 6) : lo6 ((1 : Int32) <<< (nI b &&& 31)) = 2 ^ b := by
  have k : ∀ b, b < 6 → lo6 ((1 : Int32) <<< (nI b &&& 31)) = 2 ^ b := by decide +kernel
  exact k b h
theorem nbit6 {b : Nat} (h : b < 6) : lo6 (((1 : Int32) <<< (nI b &&& 31)) ^^^ (-1 : Int32)) = 63 - 2 ^ b := by
  rw [not6, bit6 h]
section
variable {g : Nat → Nat} {R : Option Value → cc_C → Prop} {X : String → cc_C → Prop}
theorem seR_lt {c : cc_C} {r n : Nat} {m : Nat → Nat} (h : seR c r n m) (k : Nat) : m k < 64 := h.2.2.2 k
theorem s_kE {c : cc_C} {r a n p σ : Nat} {m : Nat → Nat} {x set : Int32} (s : sl c 11 r 0 a) (h : seR c r n m) (hx : x = nI p) (hp : p < n) (hσ : lo6 set = σ) (H : ∀ d, fr (pSe r) c d → seR d r n (kpE m p σ).1 → R (some (.int (nI (kpE m p σ).2))) d) : wc g (wp_X5_keep g) c [.ref a, .int x, .int set] R X := by
  subst hσ
  exact s_keep s h hx hp H
theorem s_byBefore {c : cc_C} {r e n a b : Nat} {m : Nat → Nat} {x1 x2 : Int32} (s : sl c 11 r 0 e) (h : seR c r n m) (h1 : x1 = nI a) (h2 : x2 = nI b) (ha : a < n) (hb : b < n) (H : ∀ d, fr (pSe r) c d → seR d r n (thn (kpE m a (loN (m b))) (fun m1 => kpE m1 b (riN (m1 a)))).1 → R (some (.int (nI (thn (kpE m a (loN (m b))) (fun m1 => kpE m1 b (riN (m1 a)))).2))) d) : wc g (wp_X5_takeByBefore g) c [.ref e, .int x1, .int x2] R X := by
  refine mk_X5_takeByBefore_0 s (s_setOf s h h2 hb ⟨_, rfl, s_leftOf ⟨_, rfl, s_kE s h h1 ha rfl (fun d hd hs => ⟨_, rfl, s_setOf (hd.sl s) hs h1 ha ⟨_, rfl, s_rightOf ⟨_, rfl, s_kE (hd.sl s) hs h2 hb rfl (fun d2 hd2 hs2 => ⟨_, rfl, ?_⟩)⟩⟩⟩)⟩⟩)
  rw [nI_add]
  exact H d2 (hd.trans hd2) hs2
theorem s_byDist {c : cc_C} {r e n a b k : Nat} {m : Nat → Nat} {x1 x2 x3 : Int32} (s : sl c 11 r 0 e) (h : seR c r n m) (h1 : x1 = nI a) (h2 : x2 = nI b) (h3 : x3 = nI k) (ha : a < n) (hb : b < n) (H : ∀ d, fr (pSe r) c d → seR d r n (dstE m a b k).1 → R (some (.int (nI (dstE m a b k).2))) d) : wc g (wp_X5_takeByDistance g) c [.ref e, .int x1, .int x2, .int x3] R X := by
  subst h3
  refine mk_X5_takeByDistance_0 s (s_setOf s h h2 hb ⟨_, rfl, s_setOf s h h2 hb ⟨_, rfl, s_kE s h h1 ha rfl (fun d hd hs => ⟨_, rfl, s_setOf (hd.sl s) hs h1 ha ⟨_, rfl, s_setOf (hd.sl s) hs h1 ha ⟨_, rfl, s_kE (hd.sl s) hs h2 hb rfl (fun d2 hd2 hs2 => ⟨_, rfl, ?_⟩)⟩⟩⟩)⟩⟩)
  rw [nI_add]
  exact H d2 (hd.trans hd2) hs2
theorem s_byNext {c : cc_C} {r e n a b : Nat} {m : Nat → Nat} {x1 x2 : Int32} (s : sl c 11 r 0 e) (h : seR c r n m) (h1 : x1 = nI a) (h2 : x2 = nI b) (ha : a < n) (hb : b < n) (H : ∀ d, fr (pSe r) c d → seR d r n (thn (kpE m a (lsN (m b))) (fun m1 => kpE m1 b (l2N (m1 a)))).1 → R (some (.int (nI (thn (kpE m a (lsN (m b))) (fun m1 => kpE m1 b (l2N (m1 a)))).2))) d) : wc g (wp_X5_takeByNextLeft g) c [.ref e, .int x1, .int x2] R X := by
  refine mk_X5_takeByNextLeft_0 s (s_setOf s h h2 hb ⟨_, rfl, s_kE s h h1 ha rfl (fun d hd hs => ⟨_, rfl, s_setOf (hd.sl s) hs h1 ha ⟨_, rfl, s_kE (hd.sl s) hs h2 hb rfl (fun d2 hd2 hs2 => ⟨_, rfl, ?_⟩)⟩⟩)⟩)
  rw [nI_add]
  exact H d2 (hd.trans hd2) hs2
theorem s_byBetween {c : cc_C} {r e n a b k : Nat} {m : Nat → Nat} {x1 x2 x3 : Int32} (s : sl c 11 r 0 e) (h : seR c r n m) (h1 : x1 = nI a) (h2 : x2 = nI b) (h3 : x3 = nI k) (ha : a < n) (hb : b < n) (hk : k < n) (H : ∀ d, fr (pSe r) c d → seR d r n (kpE m k (btN (m a) (m b))).1 → R (some (.int (nI (kpE m k (btN (m a) (m b))).2))) d) : wc g (wp_X5_takeByBetween g) c [.ref e, .int x1, .int x2, .int x3] R X :=
  mk_X5_takeByBetween_0 s (s_setOf s h h1 ha ⟨_, rfl, s_rightOf ⟨_, rfl, s_setOf s h h2 hb ⟨_, rfl, s_leftOf ⟨_, rfl, s_setOf s h h2 hb ⟨_, rfl, s_rightOf ⟨_, rfl, s_setOf s h h1 ha ⟨_, rfl, s_leftOf ⟨_, rfl, s_kE s h h3 hk rfl (fun d hd hs => ⟨_, rfl, H d hd hs⟩)⟩⟩⟩⟩⟩⟩⟩⟩)
/-- a clue's part in a proof: what it takes away -/
def efI (k xa xb xc : Int32) (m : Nat → Nat) : cc_Ef := efC k xa.toNatClampNeg xb.toNatClampNeg xc.toNatClampNeg m
theorem s_byClue {c : cc_C} {r e n i q : Nat} {m : Nat → Nat} (s : sl c 11 r 0 e) (s2 : sl c 6 i 0 q) (h : seR c r n m) (hk : Kv n (cS c 240 i 0) (cS c 241 i 0) (cS c 242 i 0) (cS c 243 i 0)) (H : ∀ d, fr (pSe r) c d → seR d r n (efI (cS c 240 i 0) (cS c 241 i 0) (cS c 242 i 0) (cS c 243 i 0) m).1 → R (some (.int (nI (efI (cS c 240 i 0) (cS c 241 i 0) (cS c 242 i 0) (cS c 243 i 0) m).2))) d) : wc g (wp_X5_takeByClue g) c [.ref e, .ref q] R X := by
  obtain ⟨⟨a, ea, la⟩, ⟨b, eb, lb⟩, hk⟩ := hk
  have hn := h.2.1
  unfold efI at H
  rw [ea, eb, nI_clamp (by omega), nI_clamp (by omega)] at H
  refine mk_X5_takeByClue_0 s s2 ?_
  rw [ea, eb]
  generalize hkk : cS c 240 i 0 = k at *
  rcases hk with rfl | rfl | rfl | rfl | rfl | ⟨rfl, cc, exc, hc1, hc2⟩ | ⟨rfl, cc, exc, hc⟩
  · refine ⟨fun e => absurd e (by decide), fun _ => ⟨fun e => absurd e (by decide), fun _ => ⟨fun e => absurd e (by decide), fun _ => ⟨fun e => absurd e (by decide), fun _ => ⟨fun _ => s_kE s h rfl la (bit6 (by omega)) (fun d hd hs => ⟨_, rfl, H d hd hs⟩), fun e => absurd rfl e⟩⟩⟩⟩⟩
  · refine ⟨fun e => absurd e (by decide), fun _ => ⟨fun e => absurd e (by decide), fun _ => ⟨fun e => absurd e (by decide), fun _ => ⟨fun e => absurd e (by decide), fun _ => ⟨fun e => absurd e (by decide), fun _ => ⟨fun _ => s_kE s h rfl la (nbit6 (by omega)) (fun d hd hs => ⟨_, rfl, H d hd hs⟩), fun e => absurd rfl e⟩⟩⟩⟩⟩⟩
  · exact ⟨fun _ => s_byBefore s h rfl rfl la lb (fun d hd hs => ⟨_, rfl, H d hd hs⟩), fun e => absurd rfl e⟩
  · refine ⟨fun e => absurd e (by decide), fun _ => ⟨fun e => absurd e (by decide), fun _ => ⟨fun e => absurd e (by decide), fun _ => ⟨fun _ => s_byDist s h rfl rfl rfl la lb (fun d hd hs => ⟨_, rfl, H d hd hs⟩), fun e => absurd rfl e⟩⟩⟩⟩
  · refine ⟨fun e => absurd e (by decide), fun _ => ⟨fun e => absurd e (by decide), fun _ => ⟨fun _ => s_byNext s h rfl rfl la lb (fun d hd hs => ⟨_, rfl, H d hd hs⟩), fun e => absurd rfl e⟩⟩⟩
  · rw [exc, nI_clamp (by omega)] at H
    rw [exc]
    exact ⟨fun e => absurd e (by decide), fun _ => ⟨fun _ => s_byDist s h rfl rfl rfl la lb (fun d hd hs => ⟨_, rfl, H d hd hs⟩), fun e => absurd rfl e⟩⟩
  · rw [exc, nI_clamp (by omega)] at H
    rw [exc]
    exact ⟨fun e => absurd e (by decide), fun _ => ⟨fun e => absurd e (by decide), fun _ => ⟨fun e => absurd e (by decide), fun _ => ⟨fun e => absurd e (by decide), fun _ => ⟨fun e => absurd e (by decide), fun _ => ⟨fun e => absurd e (by decide), fun _ => s_byBetween s h rfl rfl rfl la lb hc (fun d hd hs => ⟨_, rfl, H d hd hs⟩)⟩⟩⟩⟩⟩⟩
end
