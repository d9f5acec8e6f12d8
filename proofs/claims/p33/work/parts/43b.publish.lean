section
variable {g : Nat → Nat} {c : cc_C} {M : cc_M} {a e t : Nat} {x y : Int32} {X : String → cc_C → Prop}
theorem CL_iss {d : cc_C} {i : Nat} {z : Int32} {p : Nat} {P : Nat → Nat → Nat → Prop} (h : fq P c d) (hp : ∀ f i' j, P f i' j → i' = i ∧ (f = 600 ∨ f = 601)) (h1 : cS d 600 i 0 = z) (h2 : cS d 601 i 0 = nI p) (hP : cP d 0 0 = cP c 0 0) (hC : CL c M) : CL d (sJ M (mI M) (upF (mJ M) i (z, p))) := by
  obtain ⟨a1, a2, a3, ⟨b1, b2, b3, b4⟩, a5, a6⟩ := hC
  have e : ∀ f i' j, ¬ (i' = i ∧ (f = 600 ∨ f = 601)) → cS d f i' j = cS c f i' j := fun f i' j hn => h.2.2.2.2 f i' j (fun z => hn (hp f i' j z))
  refine ⟨by rw [h.2.1]; exact a1, CLR_fq (M := M) h (fun f i j z => by have := hp f i j z; omega) a2, CLW_fq (M := M) h (fun f i j z => by have := hp f i j z; omega) a3, ⟨(e 42 2 0 (by omega)).trans b1, ?_, fun k hk => ?_, fun k hk => by rw [h.2.1]; exact b4 k hk⟩, CLU_fq (M := M) h (fun f i j z => by have := hp f i j z; omega) a5, hP.trans a6⟩
  · unfold cN at b2 ⊢
    rw [e 80 2 0 (by omega)]
    exact b2
  · obtain ⟨z1, z2, z3⟩ := b3 k hk
    show cV d 15 k 0 ∧ cS d 600 k 0 = (upF (mJ M) i (z, p) k).1 ∧ cS d 601 k 0 = nI (upF (mJ M) i (z, p) k).2
    refine ⟨by rw [h.2.1]; exact z1, ?_⟩
    by_cases hki : k = i
    · rw [hki, upF_at]
      exact ⟨h1, h2⟩
    · rw [upF_ne hki, e 600 k 0 (by omega), e 601 k 0 (by omega)]
      exact ⟨z2, z3⟩
theorem sdX_0 {Y : Nat → cc_Rd} {i : Nat} : sdX Y i 0 = Y := funext fun q => if_neg fun z => by omega
theorem s_pubLoop {R : Option Value → cc_C → Prop} {i p : Nat} {x1 : Int32} (s : sl c 0 0 0 a) (w : wfM M t) (hi : i < mI M) (hp : p ≤ 1000) (hJ : (mJ M i).1 = 109) (h1 : x1 = nI i) (H : ∀ d, kC c d → CL d (mSubs (mPub M i p) i p (mU M)).1 → R (some (.int (nI (mSubs (mPub M i p) i p (mU M)).2))) d) : ∀ (n r : Nat) (d : cc_C), r + n = mR M → kC c d → kS c d → CL d (sX (mPub0 M i p) (mR M) (sdX (mX M) i r)) → ec g tb_X8_publish 68 [some (.ref a), some (.int x1), some (.int (nI p)), some (.ref (cA c 15 i 0)), some (.int (nI r))] [] 1 6 d R X := by
  have b20 := w.1.1
  have b12 := w.2.2.1.1
  intro n
  induction n with
  | zero =>
    intro r d hr kc ks hd
    obtain rfl : r = mR M := by omega
    refine ec_cw fun hw => ?_
    have kd := kd_ok hw (ks.sl s).1
    have h15 : sl d 15 i 0 (cA c 15 i 0) := ⟨(hd.2.2.2.1.2.2.1 i hi).1, by rw [ks.1]⟩
    refine mk_X8_publish_68 (ks.sl s) h15 ⟨⟨by omega, by omega⟩, s_size ⟨kd.1, rfl⟩ ⟨_, rfl, fun _ => ⟨⟨by omega, by omega⟩, s_subs (M := mPub M i p) (ks.sl s) hd (w_pub w hi hp hJ) h1 rfl (by omega) hp (fun d2 kc2 hd2 => ⟨_, rfl, ⟨by omega, by omega⟩, H d2 (kc.trans kc2) hd2⟩)⟩, fun z => absurd ?_ z⟩⟩
    rw [hd.2.1.1]
    exact nI_le (Nat.le_refl _) (by omega)
  | succ n ih =>
    intro r d hr kc ks hd
    refine ec_cw fun hw => ?_
    have kd := kd_ok hw (ks.sl s).1
    have h15 : sl d 15 i 0 (cA c 15 i 0) := ⟨(hd.2.2.2.1.2.2.1 i hi).1, by rw [ks.1]⟩
    have hr' : r < mR M := by omega
    have h := hd.2.1.2.2.1 r hr'
    have eI : rdI (mX (sX (mPub0 M i p) (mR M) (sdX (mX M) i r)) r) = rdI (mX M r) := sdX_I
    obtain ⟨i1, i2⟩ := iss_is (i := i) h (by rw [eI]; exact wI12 w r hr')
    rw [eI] at i1 i2
    have e := sdX_s (Y := mX M) (i := i) (r := r)
    have hlt : nI r < cS d 42 0 0 := by
      rw [hd.2.1.1]
      exact nI_lt hr' (by show mR M < 2 ^ 31; omega)
    have no : rdI (mX M r) ≠ i + 1 → ec g tb_X8_publish 68 [some (.ref a), some (.int x1), some (.int (nI p)), some (.ref (cA c 15 i 0)), some (.int (nI (r + 1)))] [] 1 6 d R X := fun hn => ih (r + 1) d (by omega) kc ks (by rw [e, if_neg hn]; exact hd)
    refine mk_X8_publish_68 (ks.sl s) h15 ⟨⟨by omega, by omega⟩, s_size ⟨kd.1, rfl⟩ ⟨_, rfl, fun z => ?_, fun _ => ⟨⟨by omega, by omega⟩, s_get (e := r) ⟨kd.1, rfl⟩ rfl hlt (by omega) ⟨_, r, rfl, ⟨h.1, rfl⟩, fun z => ⟨fun z2 => ⟨⟨by omega, by omega⟩, s_get (e := r) ⟨kd.1, rfl⟩ rfl hlt (by omega) ⟨_, r, rfl, ⟨h.1, rfl⟩, ?_⟩⟩, fun z2 => ?_⟩, fun z => ?_⟩⟩⟩⟩
    · rw [hd.2.1.1] at z
      exact absurd z (nI_ge hr' (by show mR M < 2 ^ 31; omega))
    · have hh := (i2 (fun q => z (i1.mpr q))).mp z2
      rw [if_pos hh] at e
      rw [nI_1]
      have hf : fr (fun f j => f = 125 ∧ j = r) d (cset d 125 r 0 115) := fr_rfl.set ⟨rfl, rfl⟩
      refine ih (r + 1) _ (by omega) (kc.trans (kC_fr hf (fun f i z => by omega))) ⟨hf.1.trans ks.1, hf.2.1.trans ks.2⟩ ?_
      rw [e]
      exact CL_setZ (M := sX (mPub0 M i p) (mR M) (sdX (mX M) i r)) (r := r) hw (fun q hq => by
        have : rdC (mX (sX (mPub0 M i p) (mR M) (sdX (mX M) i r)) q) = rdC (mX M q) := sdX_C
        rw [this]
        exact w8 w q hq) hd
    · rw [nI_1]
      exact no (fun q => z2 ((i2 (fun q2 => z (i1.mpr q2))).mpr q))
    · rw [nI_1]
      exact no (fun q => by rw [i1.mp z] at q; omega)
theorem c_publish (s : sl c 0 0 0 a) (hC : CL c M) (w : wfM M t) : wc g (wp_X8_publish g) c [.ref a, .int x, .int y] (okC (spPub M x y) c) (okX xIAU (spPub M x y) c) := by
  have b12 := w.2.2.1.1
  have b20 := w.1.1
  refine mk_X8_publish_0 s (s_findIssue s hC.2.2.2.1 b12 (fun h => lX 0 (no1 h) rfl kC_rfl hC) (fun i hi hx => ?_))
  obtain ⟨i1, i2, i3⟩ := hC.2.2.2.1.2.2.1 i hi
  have e1 : spPub M x y = _ := at1 hx hi (by omega)
  refine ⟨_, i, rfl, ⟨i1, rfl⟩, fun z => lX 1 (e1.trans (if_pos (Or.inl z))) rfl kC_rfl hC, fun z1 => ⟨fun z2 => ?_, fun z => lX 1 (e1.trans (if_pos (Or.inr z))) rfl kC_rfl hC⟩⟩
  have e2 := e1.trans (if_neg fun q => q.elim z1 (fun q => q z2))
  obtain ⟨p, hp, rfl⟩ := nI_of z1
  have hp2 := (nI_leI (b := 1000) hp (by omega)).mp z2
  rw [nI_clamp hp] at e2
  have bc := cnI_le (X := mX M) (i := i) (mR M)
  rw [i2]
  refine ⟨fun z => s_countRiddles s hC b20 (wI12 w) i1 ⟨_, rfl, fun z3 => lX 2 (e2.trans (if_neg fun q => q.2 ((nI_eq (b := 0) (by omega) (by omega)).mp z3))) rfl kC_rfl hC, fun z3 => ?_⟩, fun z => lX 2 (e2.trans (if_neg fun q => z q.1)) rfl kC_rfl hC⟩
  have e3 := e2.trans (if_pos ⟨z, fun q => z3 (by rw [q]; rfl)⟩)
  have hf : fq (fun f i' j => i' = i ∧ (f = 600 ∨ f = 601)) c (cset (cset c 600 i 0 115) 601 i 0 (nI p)) := (fq_rfl.set (by omega)).set (by omega)
  have h0 : CL (cset (cset c 600 i 0 115) 601 i 0 (nI p)) (sX (mPub0 M i p) (mR M) (sdX (mX M) i 0)) := by
    rw [sdX_0]
    exact CL_iss hf (fun f i j z => z) ((cS_f (by decide)).trans (cS_at _ _ _ _ _)) (cS_at _ _ _ _ _) rfl hC
  exact s_pubLoop s w hi hp2 z hx (fun d kc hd => lC e3 rfl kc hd) (mR M) 0 _ (by omega) (kC_fq hf (fun f i j z => by omega)) ⟨hf.1, hf.2.1⟩ h0
/-! the reference's sale -/
def inP (p : Nat → Nat) : Nat → Nat → Bool
  | 0, _ => false
  | k + 1, q => inP p k q || decide (p k = q)
theorem inP_iff {p : Nat → Nat} {q : Nat} : ∀ {k : Nat}, inP p k q = true ↔ ∃ j, j < k ∧ p j = q
  | 0 => ⟨fun h => absurd (show false = true from h) (by decide), fun ⟨j, h, _⟩ => absurd h (Nat.not_lt_zero j)⟩
  | k + 1 => by
    show (inP p k q || decide (p k = q)) = true ↔ _
    rw [Bool.or_eq_true, inP_iff (k := k), decide_eq_true_iff]
    constructor
    · rintro (⟨j, hj, e⟩ | e)
      · exact ⟨j, by omega, e⟩
      · exact ⟨k, by omega, e⟩
    · rintro ⟨j, hj, e⟩
      by_cases hjk : j = k
      · exact Or.inr (hjk ▸ e)
      · exact Or.inl ⟨j, by omega, e⟩
def sdP (Y : Nat → cc_Rd) (p : Nat → Nat) (k : Nat) : Nat → cc_Rd := fun q => if inP p k q = true then wiZ (Y q) 115 else Y q
theorem sdP_s {Y : Nat → cc_Rd} {p : Nat → Nat} {k : Nat} : upF (sdP Y p k) (p k) (wiZ (sdP Y p k (p k)) 115) = sdP Y p (k + 1) := by
  funext q
  show _ = if (inP p k q || decide (p k = q)) = true then wiZ (Y q) 115 else Y q
  by_cases hq : q = p k
  · rw [hq, upF_at, decide_eq_true rfl, Bool.or_true, if_pos rfl]
    unfold sdP
    split <;> rfl
  · rw [upF_ne hq, decide_eq_false (fun z => hq z.symm), Bool.or_false]
    rfl
theorem sdP_end {Y : Nat → cc_Rd} {p : Nat → Nat} {i m n : Nat} (h1 : ∀ k, k < m → p k < n ∧ rdI (Y (p k)) = i + 1) (h2 : ∀ r, r < n → rdI (Y r) = i + 1 → ∃ k, k < m ∧ p k = r) : sdP Y p m = sdX Y i n := by
  funext q
  unfold sdP sdX
  by_cases h : q < n ∧ rdI (Y q) = i + 1
  · rw [if_pos h, if_pos (inP_iff.mpr (h2 q h.1 h.2))]
  · rw [if_neg h, if_neg (fun z => h (by
      obtain ⟨j, hj, rfl⟩ := inP_iff.mp z
      exact h1 j hj))]
theorem sdP_I {Y : Nat → cc_Rd} {p : Nat → Nat} {k q : Nat} : rdI (sdP Y p k q) = rdI (Y q) ∧ rdC (sdP Y p k q) = rdC (Y q) ∧ rdk (sdP Y p k q) = rdk (Y q) := by
  unfold sdP
  split <;> exact ⟨rfl, rfl, rfl⟩
theorem RF_iss {d : cc_C} {i : Nat} {z : Int32} {p : Nat} {P : Nat → Nat → Nat → Prop} (h : fm P c d) (hp : ∀ f i' j, P f i' j → f = 880 ∧ j = i ∧ (i' = 18 ∨ i' = 20)) (w : ∀ r, r < mR M → rdk (mX M r) ≤ 36) (hi : i < mI M) (h1 : cS d 880 18 i = z) (h2 : cS d 880 20 i = nI p) (hz : z ≠ 114 → (mJ M i).1 ≠ 114) (hP : cP d 2 0 = cP c 2 0) (hR : RF c M) : RF d (sJ M (mI M) (upF (mJ M) i (z, p))) := by
  obtain ⟨a1, a2, a3, ⟨b1, b2, b3⟩, a5, a6⟩ := hR
  have e := h.2.2.2.2
  have no : ∀ i' j, ¬ (j = i ∧ (i' = 18 ∨ i' = 20)) → ¬ P 880 i' j := fun i' j hn q => hn (hp _ _ _ q).2
  refine ⟨by rw [h.2.1]; exact a1, RFR_fm (M := M) h w (fun f i j z => by have := hp f i j z; omega) a2, RFW_fm (M := M) h (fun f i j z => by have := hp f i j z; omega) a3, ⟨(e 872 0 0 (fun q => by have := hp _ _ _ q; omega)).trans b1, fun k hk => ?_, fun k hk1 hk2 => ?_⟩, RFU_fm (M := M) h (fun f i j z => by have := hp f i j z; omega) a5, hP.trans a6⟩
  · obtain ⟨g1, g2, g3⟩ := b2 k hk
    have hl : (mJ M k).1 ≠ 114 → RFl d (mR M) (mX M) k := fun zz => RFl_fm h (no 19 k (by omega)) (fun l hl => no 21 _ (by omega)) (g3 zz)
    refine ⟨?_, ?_, fun zz => ?_⟩
    · show cS d 880 18 k = (upF (mJ M) i (z, p) k).1
      by_cases hki : k = i
      · rw [hki, upF_at]; exact h1
      · rw [upF_ne hki, e 880 18 k (no 18 k (by omega))]; exact g1
    · show cS d 880 20 k = nI (upF (mJ M) i (z, p) k).2
      by_cases hki : k = i
      · rw [hki, upF_at]; exact h2
      · rw [upF_ne hki, e 880 20 k (no 20 k (by omega))]; exact g2
    · have zz' : (upF (mJ M) i (z, p) k).1 ≠ 114 := zz
      by_cases hki : k = i
      · rw [hki, upF_at] at zz'
        exact hl (by rw [hki]; exact hz zz')
      · rw [upF_ne hki] at zz'
        exact hl zz'
  · have hk1' : mI M ≤ k := hk1
    rw [e 880 19 k (no 19 k (by omega)), e 880 20 k (no 20 k (by omega))]
    exact b3 k hk1 hk2
end
