/-! a rule falls: the model -/
def noI (x : cc_Rd) : cc_Rd := (x.1, (rdZ x, rdO x, 0), x.2.2)
def bk (nO : Nat) (O : cc_O) (ru : Nat) (x : cc_Rd) : cc_Rd := wiZ (if rdLn x ru = true then prv nO O (noI x) else noI x) (if rdO (if rdLn x ru = true then prv nO O (noI x) else noI x) = 1 then 98 else 104)
def ls (x : cc_Rd) : cc_Rd := (x.1, (111, 0, 0), (0, rdS x))
def mNoI (M : cc_M) (r : Nat) : cc_M := sX M (mR M) (upF (mX M) r (noI (mX M r)))
def mMid (M : cc_M) (r ru : Nat) : cc_M := if rdLn (mX M r) ru = true then mMake (mNoI M r) r else mNoI M r
def mTake (M : cc_M) (r ru : Nat) : cc_M := mSetZ (mMid M r ru) r (if rdO (mX (mMid M r ru) r) = 1 then 98 else 104)
theorem upF_up {α : Type} {f : Nat → α} {r : Nat} {x y : α} : upF (upF f r x) r y = upF f r y := funext fun i => by
  by_cases h : i = r
  · rw [h, upF_at, upF_at]
  · rw [upF_ne h, upF_ne h, upF_ne h]
theorem sX_up {M : cc_M} {r : Nat} {x y : cc_Rd} : sX (sX M (mR M) (upF (mX M) r x)) (mR M) (upF (upF (mX M) r x) r y) = sX M (mR M) (upF (mX M) r y) := by
  rw [upF_up]
  rfl
theorem mTake_eq {M : cc_M} {r ru : Nat} : mTake M r ru = sX M (mR M) (upF (mX M) r (bk (mW M) (mO M) ru (mX M r))) := by
  have e1 : mX (mNoI M r) r = noI (mX M r) := mX_up
  unfold mTake mMid bk
  by_cases h : rdLn (mX M r) ru = true
  · rw [if_pos h, if_pos h]
    have e2 : mX (mMake (mNoI M r) r) r = prv (mW M) (mO M) (noI (mX M r)) := by
      have : mX (mMake (mNoI M r) r) r = prv (mW M) (mO M) (mX (mNoI M r) r) := mX_up
      rw [this, e1]
    unfold mSetZ
    rw [e2]
    show sX _ (mR M) (upF (upF (upF (mX M) r (noI (mX M r))) r _) r _) = _
    rw [upF_up, upF_up]
    rfl
  · rw [if_neg h, if_neg h]
    unfold mSetZ
    rw [e1]
    show sX _ (mR M) (upF (upF (mX M) r (noI (mX M r))) r _) = _
    rw [upF_up]
    rfl
def sdF (F : cc_Rd → cc_Rd) (X : Nat → cc_Rd) (i r : Nat) : Nat → cc_Rd := fun q => if q < r ∧ rdI (X q) = i + 1 then F (X q) else X q
theorem sdF_0 {F : cc_Rd → cc_Rd} {Y : Nat → cc_Rd} {i : Nat} : sdF F Y i 0 = Y := funext fun q => if_neg fun z => by omega
theorem sdF_at {F : cc_Rd → cc_Rd} {Y : Nat → cc_Rd} {i r : Nat} : sdF F Y i r r = Y r := if_neg fun z => by omega
theorem sdF_s {F : cc_Rd → cc_Rd} {Y : Nat → cc_Rd} {i r : Nat} : sdF F Y i (r + 1) = if rdI (Y r) = i + 1 then upF (sdF F Y i r) r (F (Y r)) else sdF F Y i r := by
  funext q
  by_cases h : rdI (Y r) = i + 1
  · rw [if_pos h]
    by_cases hq : q = r
    · rw [hq, upF_at]
      exact if_pos ⟨by omega, h⟩
    · rw [upF_ne hq]
      show (if q < r + 1 ∧ rdI (Y q) = i + 1 then F (Y q) else Y q) = (if q < r ∧ rdI (Y q) = i + 1 then F (Y q) else Y q)
      by_cases h2 : q < r ∧ rdI (Y q) = i + 1
      · rw [if_pos h2, if_pos ⟨by omega, h2.2⟩]
      · rw [if_neg h2, if_neg (fun z => h2 ⟨by omega, z.2⟩)]
  · rw [if_neg h]
    show (if q < r + 1 ∧ rdI (Y q) = i + 1 then F (Y q) else Y q) = (if q < r ∧ rdI (Y q) = i + 1 then F (Y q) else Y q)
    by_cases h2 : q < r ∧ rdI (Y q) = i + 1
    · rw [if_pos h2, if_pos ⟨by omega, h2.2⟩]
    · rw [if_neg h2, if_neg (fun z => h2 ⟨by
        have : q ≠ r := fun zz => h (zz ▸ z.2)
        omega, z.2⟩)]
def sdG (F : cc_Rd → cc_Rd) (X : Nat → cc_Rd) (p : Nat → Nat) (k : Nat) : Nat → cc_Rd := fun q => if inP p k q = true then F (X q) else X q
theorem sdG_s {F : cc_Rd → cc_Rd} {Y : Nat → cc_Rd} {p : Nat → Nat} {k : Nat} : upF (sdG F Y p k) (p k) (F (Y (p k))) = sdG F Y p (k + 1) := by
  funext q
  show _ = if (inP p k q || decide (p k = q)) = true then F (Y q) else Y q
  by_cases hq : q = p k
  · rw [hq, upF_at, decide_eq_true rfl, Bool.or_true, if_pos rfl]
  · rw [upF_ne hq, decide_eq_false (fun z => hq z.symm), Bool.or_false]
    rfl
theorem sdG_end {F : cc_Rd → cc_Rd} {Y : Nat → cc_Rd} {p : Nat → Nat} {i m n : Nat} (h1 : ∀ k, k < m → p k < n ∧ rdI (Y (p k)) = i + 1) (h2 : ∀ r, r < n → rdI (Y r) = i + 1 → ∃ k, k < m ∧ p k = r) : sdG F Y p m = sdF F Y i n := by
  funext q
  unfold sdG sdF
  by_cases h : q < n ∧ rdI (Y q) = i + 1
  · rw [if_pos h, if_pos (inP_iff.mpr (h2 q h.1 h.2))]
  · rw [if_neg h, if_neg (fun z => h (by
      obtain ⟨j, hj, rfl⟩ := inP_iff.mp z
      exact h1 j hj))]
def mRec0 (M : cc_M) (i : Nat) : cc_M := sJ M (mI M) (upF (mJ M) i (114, (mJ M i).2))
def pyd (v : cc_Us) (p : Nat) : cc_Us := vC v (if 2147483647 < v.1 + p then 2147483647 else v.1 + p)
def mPay (M : cc_M) (i p : Nat) : Nat → cc_M
  | 0 => M
  | k + 1 => if (mV (mPay M i p k) k).2.2 i = true then sP (sV (mPay M i p k) (mU (mPay M i p k)) (upF (mV (mPay M i p k)) k (pyd (mV (mPay M i p k) k) p))) (mP (mPay M i p k) - (nI p).toInt64) else mPay M i p k
theorem mPay_s {M : cc_M} {i p k : Nat} : mPay M i p (k + 1) = if (mV (mPay M i p k) k).2.2 i = true then sP (sV (mPay M i p k) (mU (mPay M i p k)) (upF (mV (mPay M i p k)) k (pyd (mV (mPay M i p k) k) p))) (mP (mPay M i p k) - (nI p).toInt64) else mPay M i p k := rfl
def mRecall (M : cc_M) (i ru : Nat) : cc_M := sX (mPay (mRec0 M i) i (mJ M i).2 (mU M)) (mR M) (sdF (bk (mW M) (mO M) ru) (mX M) i (mR M))
def mFalls (M : cc_M) (ru : Nat) : Nat → cc_M × Nat
  | 0 => (M, 0)
  | i + 1 => if onS (mFalls M ru i).1 ru i = true then (mRecall (mFalls M ru i).1 i ru, (mFalls M ru i).2 + 1) else mFalls M ru i
theorem mFalls_s {M : cc_M} {ru i : Nat} : mFalls M ru (i + 1) = if onS (mFalls M ru i).1 ru i = true then (mRecall (mFalls M ru i).1 i ru, (mFalls M ru i).2 + 1) else mFalls M ru i := rfl
def mLose (M : cc_M) (ru : Nat) : Nat → cc_M
  | 0 => M
  | r + 1 => if rdLn (mX (mLose M ru r) r) ru = true then sX (mLose M ru r) (mR (mLose M ru r)) (upF (mX (mLose M ru r)) r (ls (mX (mLose M ru r) r))) else mLose M ru r
theorem mLose_s {M : cc_M} {ru r : Nat} : mLose M ru (r + 1) = if rdLn (mX (mLose M ru r) r) ru = true then sX (mLose M ru r) (mR (mLose M ru r)) (upF (mX (mLose M ru r)) r (ls (mX (mLose M ru r) r))) else mLose M ru r := rfl
def fl (o : Int32 × Nat × Int32 × Nat × Bool) : Int32 × Nat × Int32 × Nat × Bool := (o.1, o.2.1, o.2.2.1, o.2.2.2.1, false)
def mFall0 (M : cc_M) (u : Nat) : cc_M := sO M (mW M) (upF (mO M) u (fl (mO M u)))
def spFall (M : cc_M) (x : Int32) : cc_Sp := ixm (ixw (mW M) x) M fun u => if cexO (mO M u) = 0 ∨ (mO M u).2.2.2.2 = false then (2, 0, M) else (0, nI (mFalls (mFall0 M u) (10 + u) (mI M)).2, mLose (mFalls (mFall0 M u) (10 + u) (mI M)).1 (10 + u) (mR M))
/-- what is needed of riddles and rules on the way -/
def wfB (x : cc_Rd) : Prop := (3 ≤ rdN x ∧ rdN x ≤ 6 ∧ rdC x ≤ 8 ∧ ∀ e, e < rdC x → KvK (rdN x) (rdK x) e) ∧ (rdO x < 4 ∧ (rdO x = 0 → rdk x = 0) ∧ rdk x ≤ 36 ∧ ∀ i, i < rdk x → (rdS x i).1 < 16) ∧ rdI x ≤ 12
def wB (M : cc_M) : Prop := mR M ≤ 20 ∧ (∀ r, r < mR M → wfB (mX M r)) ∧ okO (mW M) (mO M)
theorem wfB_of {n : Nat} {J : Nat → Int32 × Nat} {x : cc_Rd} (hn : n ≤ 12) (h : wfX n J x) : wfB x := ⟨h.1, h.2.2.1, by have := h.2.2.2.1.1; omega⟩
theorem wB_of {M : cc_M} {t : Nat} (w : wfM M t) : wB M := ⟨w.1.1, fun r hr => wfB_of w.2.2.1.1 (w.1.2 r hr), w.2.1⟩
theorem wB_up {M : cc_M} {r : Nat} {x : cc_Rd} (w : wB M) (hx : wfB x) : wB (sX M (mR M) (upF (mX M) r x)) := ⟨w.1, fun q hq => by
  show wfB (upF (mX M) r x q)
  by_cases h : q = r
  · rw [h, upF_at]
    exact hx
  · rw [upF_ne h]
    exact w.2.1 q hq, w.2.2⟩
theorem wfB_noI {x : cc_Rd} (h : wfB x) : wfB (noI x) := ⟨h.1, h.2.1, Nat.zero_le _⟩
theorem wfB_prv {nO : Nat} {O : cc_O} {x : cc_Rd} (h : wfB x) (oO : okO nO O) : wfB (prv nO O x) := by
  have h3 := prv_O (nO := nO) (O := O) (x := x)
  have hp := prf_ok (K := rdK x) (nc := rdC x) h.1.1 h.1.2.1 h.1.2.2.2 oO
  exact ⟨h.1, ⟨by omega, fun z => by omega, hp.2, hp.1⟩, h.2.2⟩
theorem wfB_bk {nO ru : Nat} {O : cc_O} {x : cc_Rd} (h : wfB x) (oO : okO nO O) : wfB (bk nO O ru x) := by
  have key : wfB (if rdLn x ru = true then prv nO O (noI x) else noI x) := by
    split
    · exact wfB_prv (wfB_noI h) oO
    · exact wfB_noI h
  exact ⟨key.1, key.2.1, key.2.2⟩
theorem wfB_sdF {F : cc_Rd → cc_Rd} {Y : Nat → cc_Rd} {i r q : Nat} (hF : ∀ x, wfB x → wfB (F x)) (h : wfB (Y q)) : wfB (sdF F Y i r q) := by
  unfold sdF
  split
  · exact hF _ h
  · exact h
theorem wB36 {M : cc_M} (w : wB M) : ∀ r, r < mR M → rdk (mX M r) ≤ 36 := fun r hr => (w.2.1 r hr).2.1.2.2.1
theorem wB8 {M : cc_M} (w : wB M) : ∀ r, r < mR M → rdC (mX M r) ≤ 8 := fun r hr => (w.2.1 r hr).1.2.2.1
theorem wBI {M : cc_M} (w : wB M) : ∀ r, r < mR M → rdI (mX M r) ≤ 12 := fun r hr => (w.2.1 r hr).2.2
theorem wBS {M : cc_M} (w : wB M) : ∀ r, r < mR M → ∀ k, k < rdk (mX M r) → (rdS (mX M r) k).1 < 16 := fun r hr => (w.2.1 r hr).2.1.2.2.2
/-- customers -/
def wU (M : cc_M) (t : Nat) : Prop := mU M ≤ 8 ∧ ∀ q, q < mU M → (mV M q).1 < 2 ^ 31 ∧ (mV M q).2.1 ≤ 12 * t
theorem pyd_31 {v : cc_Us} {p : Nat} : (pyd v p).1 < 2 ^ 31 := by
  show (if 2147483647 < v.1 + p then 2147483647 else v.1 + p) < 2 ^ 31
  split <;> omega
theorem sameU_pay {M : cc_M} {i p : Nat} : ∀ k, sameU M (mPay M i p k)
  | 0 => ⟨rfl, rfl, rfl, rfl⟩
  | k + 1 => by
    have ih := sameU_pay (M := M) (i := i) (p := p) k
    rw [mPay_s]
    split
    · exact ⟨ih.1, ih.2.1, ih.2.2.1, ih.2.2.2⟩
    · exact ih
theorem wU_pay {M : cc_M} {i p t : Nat} (w : wU M t) : ∀ k, k ≤ mU M → wU (mPay M i p k) t
  | 0, _ => w
  | k + 1, hk => by
    have ih := wU_pay (i := i) (p := p) w k (by omega)
    have hs := (sameU_pay (M := M) (i := i) (p := p) k).2.2.2
    rw [mPay_s]
    split
    · refine ⟨ih.1, fun q hq => ?_⟩
      show (upF (mV (mPay M i p k)) k (pyd (mV (mPay M i p k) k) p) q).1 < 2 ^ 31 ∧ (upF (mV (mPay M i p k)) k (pyd (mV (mPay M i p k) k) p) q).2.1 ≤ 12 * t
      by_cases h : q = k
      · rw [h, upF_at]
        exact ⟨pyd_31, (ih.2 k (by omega)).2⟩
      · rw [upF_ne h]
        exact ih.2 q hq
    · exact ih
section
variable {g : Nat → Nat} {c : cc_C} {M : cc_M} {a e t : Nat} {x y : Int32} {X : String → cc_C → Prop}
theorem s_payBack {R : Option Value → cc_C → Prop} {i p : Nat} {x1 x2 : Int32} (s : sl c 0 0 0 a) (hC : CL c M) (w : wU M t) (h1 : x1 = nI i) (h2 : x2 = nI p) (hi : i < 12) (hp : p ≤ 1000) (H : ∀ d, kC c d → kS c d → CL d (mPay M i p (mU M)) → R none d) : wc g (wp_X8_payBack g) c [.ref a, .int x1, .int x2] R X := by
  subst h1 h2
  have b8 := w.1
  have loop : ∀ (n k : Nat) (d : cc_C) (o4 : Option Value), k + n = mU M → kC c d → kS c d → CL d (mPay M i p k) → ec g tb_X8_payBack 2 [some (.ref a), some (.int (nI i)), some (.int (nI p)), some (.int (nI k)), o4] [] 0 0 d R X := by
    intro n
    induction n with
    | zero =>
      intro k d o4 hk kc ks hd
      obtain rfl : k = mU M := by omega
      refine ec_cw fun hw => ?_
      have kd := kd_ok hw (ks.sl s).1
      have hs := (sameU_pay (M := M) (i := i) (p := p) (mU M)).2.2.2
      refine mk_X8_payBack_2 (ks.sl s) (s_size ⟨kd.2.2.2, rfl⟩ ⟨_, rfl, fun _ => H d kc ks hd, fun z => absurd ?_ z⟩)
      rw [hd.2.2.2.2.1.1, hs]
      exact nI_le (Nat.le_refl _) (by omega)
    | succ n ih =>
      intro k d o4 hk kc ks hd
      refine ec_cw fun hw => ?_
      have kd := kd_ok hw (ks.sl s).1
      have hs := (sameU_pay (M := M) (i := i) (p := p) k).2.2.2
      have wk := wU_pay (i := i) (p := p) w k (by omega)
      have hkU : k < mU (mPay M i p k) := by omega
      obtain ⟨u1, u2, u3, u4⟩ := hd.2.2.2.2.1.2.2.1 k hkU
      have c1 := (wk.2 k hkU).1
      have e := mPay_s (M := M) (i := i) (p := p) (k := k)
      refine mk_X8_payBack_2 (ks.sl s) (s_size ⟨kd.2.2.2, rfl⟩ ⟨_, rfl, fun z => ?_, fun _ => s_get (e := k) ⟨kd.2.2.2, rfl⟩ rfl (by rw [hd.2.2.2.2.1.1]; exact nI_lt hkU (by omega)) (by omega) ⟨_, k, rfl, ⟨u1, rfl⟩, s_isOwnerOf ⟨u1, rfl⟩ u4 rfl hi ⟨_, rfl, fun z => ?_, fun z => ?_⟩⟩⟩)
      · rw [hd.2.2.2.2.1.1] at z
        exact absurd z (nI_ge hkU (by omega))
      · have hb : ¬ (mV (mPay M i p k) k).2.2 i = true := fun q => by
          rw [q] at z
          exact absurd z (by decide)
        rw [if_neg hb] at e
        rw [nI_1]
        exact ih (k + 1) d _ (by omega) kc ks (by rw [e]; exact hd)
      · have hb : (mV (mPay M i p k) k).2.2 i = true := by
          cases hb : (mV (mPay M i p k) k).2.2 i with
          | true => rfl
          | false => rw [hb] at z; exact absurd rfl z
        rw [if_pos hb] at e
        have ev : nI (mV (mPay M i p k) k).1 + (if (2147483647 - nI (mV (mPay M i p k) k).1) < nI p then (2147483647 - nI (mV (mPay M i p k) k).1) else nI p) = nI (pyd (mV (mPay M i p k) k) p).1 := by
          rw [show (2147483647 : Int32) - nI (mV (mPay M i p k) k).1 = nI (2147483647 - (mV (mPay M i p k) k).1) from pk_sub (a := 2147483647) (by omega)]
          show _ = nI (if 2147483647 < (mV (mPay M i p k) k).1 + p then 2147483647 else (mV (mPay M i p k) k).1 + p)
          by_cases hlt : 2147483647 - (mV (mPay M i p k) k).1 < p
          · rw [if_pos (nI_lt hlt (by omega)), if_pos (by omega), nI_add, show (mV (mPay M i p k) k).1 + (2147483647 - (mV (mPay M i p k) k).1) = 2147483647 by omega]
          · rw [if_neg (nI_nlt (by omega) (by omega)), if_neg (by omega), nI_add]
        have eP : ∀ v, cP (cset d 640 k 0 v) 0 0 = mP (mPay M i p k) := fun v => hd.2.2.2.2.2
        rw [u2, ev, eP, nI_1]
        have hf : fq (fun f j _ => f = 640 ∧ j = k) d (cpset (cset d 640 k 0 (nI (pyd (mV (mPay M i p k) k) p).1)) 0 0 (mP (mPay M i p k) - (nI p).toInt64)) := (fq_rfl.set (by omega)).pset
        refine ih (k + 1) _ _ (by omega) (kc.trans (kC_fq hf (fun f i j z => by omega))) ⟨hf.1.trans ks.1, hf.2.1.trans ks.2⟩ ?_
        rw [e]
        refine CL_cust (v := pyd (mV (mPay M i p k) k) p) hf (fun f i j z => by omega) ⟨?_, ?_, fun j hj => ?_⟩ (cP_at _ _ _ _) hd
        · exact cS_at d 640 k 0 _
        · exact (hf.2.2.2.2 641 k 0 (by omega)).trans u3
        · exact (hf.2.2.2.2 680 k j (by omega)).trans (u4 j hj)
  exact mk_X8_payBack_0 s (loop (mU M) 0 c none (by omega) kC_rfl ⟨rfl, rfl⟩ hC)
end
