/-! an issue goes on sale -/
def sdX (X : Nat → cc_Rd) (i r : Nat) : Nat → cc_Rd := fun q => if q < r ∧ rdI (X q) = i + 1 then wiZ (X q) 115 else X q
def mPub0 (M : cc_M) (i p : Nat) : cc_M := sJ M (mI M) (upF (mJ M) i (115, p))
def mPub (M : cc_M) (i p : Nat) : cc_M := sX (mPub0 M i p) (mR M) (sdX (mX M) i (mR M))
def vD (v : cc_Us) : cc_Us := (v.1, v.2.1 - 1, v.2.2)
def mDec (M : cc_M) (q : Nat) : cc_M := sP (sV M (mU M) (upF (mV M) q (vD (mV M q)))) (mP M)
def mSubs (M : cc_M) (i p : Nat) : Nat → cc_M × Nat
  | 0 => (M, 0)
  | k + 1 => if 0 < (mV (mSubs M i p k).1 k).2.1 ∧ p ≤ (mV (mSubs M i p k).1 k).1 then (mSell (mDec (mSubs M i p k).1 k) k i p, (mSubs M i p k).2 + 1) else mSubs M i p k
theorem mSubs_s {M : cc_M} {i p k : Nat} : mSubs M i p (k + 1) = if 0 < (mV (mSubs M i p k).1 k).2.1 ∧ p ≤ (mV (mSubs M i p k).1 k).1 then (mSell (mDec (mSubs M i p k).1 k) k i p, (mSubs M i p k).2 + 1) else mSubs M i p k := rfl
def spPub (M : cc_M) (x y : Int32) : cc_Sp := ixm (ixo (mI M) x) M fun i => if y < 0 ∨ ¬ y ≤ 1000 then (2, 0, M) else if (mJ M i).1 = 109 ∧ cnI (mX M) i (mR M) ≠ 0 then (0, nI (mSubs (mPub M i y.toNatClampNeg) i y.toNatClampNeg (mU M)).2, (mSubs (mPub M i y.toNatClampNeg) i y.toNatClampNeg (mU M)).1) else (3, 0, M)
def xIAU : List String := ["java/lang/IndexOutOfBoundsException", "java/lang/IllegalArgumentException", "java/lang/UnsupportedOperationException"]
section
variable {g : Nat → Nat} {c : cc_C} {M : cc_M} {a e t : Nat} {x y : Int32} {X : String → cc_C → Prop}
theorem w_dec {q : Nat} (w : wfM M t) (hq : q < mU M) : wfM (mDec M q) t := by
  obtain ⟨w1, w2, w3, w4, w5⟩ := w
  refine ⟨w1, w2, w3, ⟨w4.1, fun k hk => ?_⟩, w5⟩
  show (upF (mV M) q (vD (mV M q)) k).1 < 2 ^ 31 ∧ (upF (mV M) q (vD (mV M q)) k).2.1 ≤ 12 * t
  have := w4.2 q hq
  by_cases hkq : k = q
  · rw [hkq, upF_at]
    exact ⟨this.1, by show (mV M q).2.1 - 1 ≤ 12 * t; omega⟩
  · rw [upF_ne hkq]
    exact w4.2 k hk
/-- what sales leave as it is -/
def sameU (M N : cc_M) : Prop := N.1 = M.1 ∧ N.2.1 = M.2.1 ∧ N.2.2.1 = M.2.2.1 ∧ mU N = mU M
theorem sameU_subs {i p : Nat} : ∀ k, sameU M (mSubs M i p k).1
  | 0 => ⟨rfl, rfl, rfl, rfl⟩
  | k + 1 => by
    have ih := sameU_subs (i := i) (p := p) k
    rw [mSubs_s]
    split
    · exact ⟨ih.1, ih.2.1, ih.2.2.1, ih.2.2.2⟩
    · exact ih
theorem w_subs {i p : Nat} (w : wfM M t) : ∀ k, k ≤ mU M → wfM (mSubs M i p k).1 t
  | 0, _ => w
  | k + 1, hk => by
    have ih := w_subs (i := i) (p := p) w k (by omega)
    have hs := (sameU_subs (M := M) (i := i) (p := p) k).2.2.2
    rw [mSubs_s]
    split
    · exact w_sell (w_dec ih (by omega)) (by show k < mU (mSubs M i p k).1; omega)
    · exact ih
theorem mSubs_2 {i p : Nat} : ∀ k, (mSubs M i p k).2 ≤ k
  | 0 => Nat.le_refl 0
  | k + 1 => by
    have ih := mSubs_2 (i := i) (p := p) k
    rw [mSubs_s]
    split
    · show (mSubs M i p k).2 + 1 ≤ k + 1
      omega
    · omega
theorem s_subs {R : Option Value → cc_C → Prop} {i p : Nat} {x1 x2 : Int32} (s : sl c 0 0 0 a) (hC : CL c M) (w : wfM M t) (h1 : x1 = nI i) (h2 : x2 = nI p) (hi : i < 12) (hp : p ≤ 1000) (H : ∀ d, kC c d → CL d (mSubs M i p (mU M)).1 → R (some (.int (nI (mSubs M i p (mU M)).2))) d) : wc g (wp_X8_sellToSubscribers g) c [.ref a, .int x1, .int x2] R X := by
  subst h1 h2
  have b8 := w.2.2.2.1.1
  have loop : ∀ (n k : Nat) (d : cc_C) (o5 : Option Value), k + n = mU M → kC c d → kS c d → CL d (mSubs M i p k).1 → ec g tb_X8_sellToSubscribers 5 [some (.ref a), some (.int (nI i)), some (.int (nI p)), some (.int (nI (mSubs M i p k).2)), some (.int (nI k)), o5] [] 0 0 d R X := by
    intro n
    induction n with
    | zero =>
      intro k d o5 hk kc ks hd
      obtain rfl : k = mU M := by omega
      refine ec_cw fun hw => ?_
      have kd := kd_ok hw (ks.sl s).1
      have hs := (sameU_subs (M := M) (i := i) (p := p) (mU M)).2.2.2
      refine mk_X8_sellToSubscribers_5 (ks.sl s) (s_size ⟨kd.2.2.2, rfl⟩ ⟨_, rfl, fun _ => H d kc hd, fun z => absurd ?_ z⟩)
      rw [hd.2.2.2.2.1.1, hs]
      exact nI_le (Nat.le_refl _) (by omega)
    | succ n ih =>
      intro k d o5 hk kc ks hd
      refine ec_cw fun hw => ?_
      have kd := kd_ok hw (ks.sl s).1
      have hs := (sameU_subs (M := M) (i := i) (p := p) k).2.2.2
      have wk := w_subs (i := i) (p := p) w k (by omega)
      have hkU : k < mU (mSubs M i p k).1 := by omega
      obtain ⟨u1, u2, u3, u4⟩ := hd.2.2.2.2.1.2.2.1 k hkU
      obtain ⟨c1, c2⟩ := wk.2.2.2.1.2 k hkU
      have t512 := w.2.2.2.2
      refine mk_X8_sellToSubscribers_5 (ks.sl s) (s_size ⟨kd.2.2.2, rfl⟩ ⟨_, rfl, fun z => ?_, fun _ => s_get (e := k) ⟨kd.2.2.2, rfl⟩ rfl (by rw [hd.2.2.2.2.1.1]; exact nI_lt hkU (by omega)) (by omega) ⟨_, k, rfl, ⟨u1, rfl⟩, ?_⟩⟩)
      · rw [hd.2.2.2.2.1.1] at z
        exact absurd z (nI_ge hkU (by omega))
      rw [u3, u2, nI_1]
      have no : ¬ (0 < (mV (mSubs M i p k).1 k).2.1 ∧ p ≤ (mV (mSubs M i p k).1 k).1) → ∀ o6, ec g tb_X8_sellToSubscribers 5 [some (.ref a), some (.int (nI i)), some (.int (nI p)), some (.int (nI (mSubs M i p k).2)), some (.int (nI (k + 1))), o6] [] 0 0 d R X := fun h o6 => by
        have e := mSubs_s (M := M) (i := i) (p := p) (k := k)
        rw [if_neg h] at e
        have := ih (k + 1) d o6 (by omega) kc ks (by rw [e]; exact hd)
        rw [e] at this
        exact this
      refine ⟨fun z => no (fun h => nI_nle h.1 (by omega) z) _, fun z => ⟨fun z2 => no (fun h => nI_nlt h.2 c1 z2) _, fun z2 => ?_⟩⟩
      have yes : 0 < (mV (mSubs M i p k).1 k).2.1 ∧ p ≤ (mV (mSubs M i p k).1 k).1 := ⟨Nat.pos_of_ne_zero fun q => z (by rw [q]; exact Int32.le_refl _), Nat.le_of_not_lt fun q => z2 (nI_lt q (by omega))⟩
      have e := mSubs_s (M := M) (i := i) (p := p) (k := k)
      rw [if_pos yes] at e
      rw [show nI (mV (mSubs M i p k).1 k).2.1 - 1 = nI ((mV (mSubs M i p k).1 k).2.1 - 1) from pk_sub (b := 1) (by omega)]
      have hf : fq (fun f j _ => f = 641 ∧ j = k) d (cset d 641 k 0 (nI ((mV (mSubs M i p k).1 k).2.1 - 1))) := fq_rfl.set (by omega)
      have hD : CL (cset d 641 k 0 (nI ((mV (mSubs M i p k).1 k).2.1 - 1))) (mDec (mSubs M i p k).1 k) := CL_cust (v := vD (mV (mSubs M i p k).1 k)) hf (fun f i j z => by omega) ⟨(cS_f (by decide)).trans u2, cS_at _ _ _ _ _, fun j hj => (cS_f (by decide)).trans (u4 j hj)⟩ hd.2.2.2.2.2 hd
      have eV : mV (mDec (mSubs M i p k).1 k) k = vD (mV (mSubs M i p k).1 k) := upF_at
      refine s_sell (M := mDec (mSubs M i p k).1 k) (q := k) (i := i) (p := p) (hf.sl (ks.sl s)) hD hkU rfl rfl hi (by rw [eV]; exact yes.2) (by rw [eV]; exact c1) (fun d2 kc2 ks2 hd2 => ⟨rfl, ?_⟩)
      have := ih (k + 1) d2 (some (.ref (cA d 16 k 0))) (by omega) ((kc.trans (kC_fq hf (fun f i j z => by omega))).trans kc2) ⟨ks2.1.trans ks.1, ks2.2.trans ks.2⟩ (by rw [e]; exact hd2)
      rw [e] at this
      rw [nI_1]
      exact this
  exact mk_X8_sellToSubscribers_0 s (loop (mU M) 0 c none (by omega) kC_rfl ⟨rfl, rfl⟩ hC)
theorem sdX_s {Y : Nat → cc_Rd} {i r : Nat} : sdX Y i (r + 1) = if rdI (Y r) = i + 1 then upF (sdX Y i r) r (wiZ (sdX Y i r r) 115) else sdX Y i r := by
  funext q
  by_cases h : rdI (Y r) = i + 1
  · rw [if_pos h]
    by_cases hq : q = r
    · rw [hq, upF_at]
      show (if r < r + 1 ∧ rdI (Y r) = i + 1 then wiZ (Y r) 115 else Y r) = wiZ (if r < r ∧ rdI (Y r) = i + 1 then wiZ (Y r) 115 else Y r) 115
      rw [if_pos ⟨by omega, h⟩, if_neg (fun z => by omega)]
    · rw [upF_ne hq]
      show (if q < r + 1 ∧ rdI (Y q) = i + 1 then wiZ (Y q) 115 else Y q) = (if q < r ∧ rdI (Y q) = i + 1 then wiZ (Y q) 115 else Y q)
      by_cases h2 : q < r ∧ rdI (Y q) = i + 1
      · rw [if_pos h2, if_pos ⟨by omega, h2.2⟩]
      · rw [if_neg h2, if_neg (fun z => h2 ⟨by omega, z.2⟩)]
  · rw [if_neg h]
    show (if q < r + 1 ∧ rdI (Y q) = i + 1 then wiZ (Y q) 115 else Y q) = (if q < r ∧ rdI (Y q) = i + 1 then wiZ (Y q) 115 else Y q)
    by_cases h2 : q < r ∧ rdI (Y q) = i + 1
    · rw [if_pos h2, if_pos ⟨by omega, h2.2⟩]
    · rw [if_neg h2, if_neg (fun z => h2 ⟨by
        have : q ≠ r := fun zz => h (zz ▸ z.2)
        omega, z.2⟩)]
theorem sdX_I {Y : Nat → cc_Rd} {i r q : Nat} : rdI (sdX Y i r q) = rdI (Y q) := by
  unfold sdX
  split <;> rfl
theorem sdX_C {Y : Nat → cc_Rd} {i r q : Nat} : rdC (sdX Y i r q) = rdC (Y q) := by
  unfold sdX
  split <;> rfl
theorem w_pub {i p : Nat} (w : wfM M t) (hi : i < mI M) (hp : p ≤ 1000) (hJ : (mJ M i).1 = 109) : wfM (mPub M i p) t := by
  obtain ⟨w1, w2, w3, w4, w5⟩ := w
  refine ⟨⟨w1.1, fun r hr => ?_⟩, w2, ⟨w3.1, fun k hk => ?_⟩, w4, w5⟩
  · have wr := w1.2 r hr
    show wfX (mI M) (upF (mJ M) i (115, p)) (sdX (mX M) i (mR M) r)
    have hr' : r < mR M := hr
    by_cases h : rdI (mX M r) = i + 1
    · have e : sdX (mX M) i (mR M) r = wiZ (mX M r) 115 := if_pos ⟨hr', h⟩
      rw [e]
      have z115 : rdZ (wiZ (mX M r) 115) = 115 := rfl
      have hz : rdZ (mX M r) = 105 ∨ rdZ (mX M r) = 115 := wr.2.2.2.1.2.1.mp (by omega)
      refine ⟨wr.1, Or.inr (Or.inr (Or.inr (Or.inl rfl))), wr.2.2.1, ⟨wr.2.2.2.1.1, ⟨fun _ => Or.inr rfl, fun _ => by show rdI (mX M r) ≠ 0; omega⟩, fun _ => ?_⟩, fun _ => wr.2.2.2.2 (hz.elim Or.inl (fun z => Or.inr (Or.inl z)))⟩
      rw [if_pos z115]
      show (upF (mJ M) i (115, p) (rdI (mX M r) - 1)).1 = 115
      rw [h, show i + 1 - 1 = i by omega, upF_at]
    · have e : sdX (mX M) i (mR M) r = mX M r := if_neg fun z => h z.2
      rw [e]
      refine ⟨wr.1, wr.2.1, wr.2.2.1, ⟨wr.2.2.2.1.1, wr.2.2.2.1.2.1, fun z => ?_⟩, wr.2.2.2.2⟩
      rw [upF_ne (by omega)]
      exact wr.2.2.2.1.2.2 z
  · show ((upF (mJ M) i (115, p) k).1 = 109 ∨ (upF (mJ M) i (115, p) k).1 = 115 ∨ (upF (mJ M) i (115, p) k).1 = 114) ∧ (upF (mJ M) i (115, p) k).2 ≤ 1000
    by_cases hki : k = i
    · rw [hki, upF_at]
      exact ⟨Or.inr (Or.inl rfl), hp⟩
    · rw [upF_ne hki]
      exact w3.2 k hk
theorem w_publish (w : wfM M t) (ht : t < 512) : wfM (spPub M x y).2.2 (t + 1) := by
  unfold spPub ixm
  split
  · exact wf_s w ht
  · rename_i i hq
    have hi := ixo_lt hq
    try dsimp only
    split
    · exact wf_s w ht
    · rename_i hy
      split
      · rename_i hJ
        have h0 : ¬ y < 0 := fun z => hy (Or.inl z)
        have h1 : y ≤ 1000 := Decidable.of_not_not fun z => hy (Or.inr z)
        obtain ⟨n, hn, rfl⟩ := nI_of h0
        have := (nI_leI (b := 1000) hn (by omega)).mp h1
        rw [nI_clamp hn]
        exact wf_s (w_subs (w_pub w hi this hJ.1) (mU M) (Nat.le_refl _)) ht
      · exact wf_s w ht
end
