/-! what customers and the press have, together -/
def sm3 (f : Nat → Nat) : Int := (f 0 : Int) + (f 1 : Int) + (f 2 : Int)
def mon (M : cc_M) (A : Int) (B : Nat) : Prop := mU M = 3 ∧ mP M = Int64.ofInt (A - sm3 (fun q => (mV M q).1)) ∧ ∀ q, q < 3 → (mV M q).1 ≤ B
theorem l64 {a : Nat} (h : a < 2 ^ 31) : (nI a).toInt64 = Int64.ofInt (a : Int) := by
  have e := Int64.ofInt_int32ToInt (nI a)
  rw [nI_toInt h] at e
  exact e.symm
theorem mon_le {M : cc_M} {A : Int} {B B' : Nat} (h : mon M A B) (hb : B ≤ B') : mon M A B' := ⟨h.1, h.2.1, fun q hq => Nat.le_trans (h.2.2 q hq) hb⟩
theorem sm3_up {V : Nat → cc_Us} {q : Nat} {v : cc_Us} (hq : q < 3) : sm3 (fun z => (upF V q v z).1) = sm3 (fun z => (V z).1) - ((V q).1 : Int) + (v.1 : Int) := by
  have hh : q = 0 ∨ q = 1 ∨ q = 2 := by omega
  rcases hh with rfl | rfl | rfl
  · show (v.1 : Int) + ((V 1).1 : Int) + ((V 2).1 : Int) = ((V 0).1 : Int) + ((V 1).1 : Int) + ((V 2).1 : Int) - ((V 0).1 : Int) + (v.1 : Int)
    omega
  · show ((V 0).1 : Int) + (v.1 : Int) + ((V 2).1 : Int) = ((V 0).1 : Int) + ((V 1).1 : Int) + ((V 2).1 : Int) - ((V 1).1 : Int) + (v.1 : Int)
    omega
  · show ((V 0).1 : Int) + ((V 1).1 : Int) + (v.1 : Int) = ((V 0).1 : Int) + ((V 1).1 : Int) + ((V 2).1 : Int) - ((V 2).1 : Int) + (v.1 : Int)
    omega
theorem mon_up {M : cc_M} {A A' d : Int} {B B' q : Nat} {v : cc_Us} {p : Int64} (h : mon M A B) (hq : q < 3) (hb : B ≤ B') (hv : v.1 ≤ B') (hp : p = mP M + Int64.ofInt d) (hA : A' = A + d + (v.1 : Int) - ((mV M q).1 : Int)) : mon (sP (sV M (mU M) (upF (mV M) q v)) p) A' B' := by
  refine ⟨h.1, ?_, fun z hz => ?_⟩
  · show p = Int64.ofInt (A' - sm3 (fun z => (upF (mV M) q v z).1))
    rw [hp, h.2.1, sm3_up hq, ← Int64.ofInt_add]
    refine congrArg Int64.ofInt ?_
    omega
  · show (upF (mV M) q v z).1 ≤ B'
    by_cases e : z = q
    · rw [e, upF_at]
      exact hv
    · rw [upF_ne e]
      exact Nat.le_trans (h.2.2 z hz) hb
theorem ofInt_0 (x : Int64) : x + Int64.ofInt 0 = x := by
  have e : Int64.ofInt 0 = 0 := by decide
  rw [e]
  exact Int64.add_zero x
section
variable {M : cc_M} {A : Int} {B t : Nat} {x y : Int32}
/-- what leaves customers and the press alone -/
theorem mon_same {N : cc_M} (h : mon M A B) (e1 : mU N = mU M) (e2 : ∀ q, (mV N q).1 = (mV M q).1) (e3 : mP N = mP M) : mon N A B := by
  refine ⟨e1.trans h.1, ?_, fun q hq => by rw [e2]; exact h.2.2 q hq⟩
  rw [e3, h.2.1]
  unfold sm3
  simp only [e2]
theorem ixm_m {o : Option Nat} {F : Nat → cc_Sp} {P : cc_M → Prop} (g : P M) (h : ∀ r, o = some r → P (F r).2.2) : P (ixm o M F).2.2 := by
  cases o with
  | none => exact g
  | some r => exact h r rfl
theorem m_prove (h : mon M A B) : mon (spProve M x).2.2 A B := by
  unfold spProve
  refine ixm_m (P := fun N => mon N A B) h (fun r hr => ?_)
  split
  · exact h
  · exact mon_same h rfl (fun _ => rfl) rfl
theorem m_put (h : mon M A B) : mon (spPut M x y).2.2 A B := by
  unfold spPut
  refine ixm_m (P := fun N => mon N A B) h (fun i hi => ixm_m (P := fun N => mon N A B) h (fun r hr => ?_))
  split
  · split
    · exact h
    · exact mon_same h rfl (fun _ => rfl) rfl
  · exact h
theorem m_issue (h : mon M A B) : mon (spIssue M).2.2 A B := by
  unfold spIssue
  split
  · exact h
  · exact mon_same h rfl (fun _ => rfl) rfl
theorem m_sub (h : mon M A B) : mon (spSub M x y).2.2 A B := by
  unfold spSub
  refine ixm_m (P := fun N => mon N A B) h (fun q hq => ?_)
  have hq' : q < 3 := by
    have := ixo_lt1 (by rw [h.1]; decide) hq
    rw [h.1] at this
    exact this
  split
  · exact h
  · refine mon_up h hq' (Nat.le_refl B) (h.2.2 q hq') (ofInt_0 _).symm ?_
    show A = A + 0 + ((mV M q).1 : Int) - ((mV M q).1 : Int)
    omega
theorem m_sell {q i p : Nat} (h : mon M A B) (hq : q < 3) (hp : p ≤ (mV M q).1) (hp2 : p ≤ 1000) : mon (mSell M q i p) A B := by
  refine mon_up h hq (Nat.le_refl B) (Nat.le_trans (Nat.sub_le _ _) (h.2.2 q hq)) (d := (p : Int)) (by rw [l64 (by omega)]) ?_
  show A = A + (p : Int) + (((mV M q).1 - p : Nat) : Int) - ((mV M q).1 : Int)
  omega
theorem m_buy (h : mon M A B) (w : wfM M t) : mon (spBuy M x y).2.2 A B := by
  unfold spBuy
  refine ixm_m (P := fun N => mon N A B) h (fun q hq => ixm_m (P := fun N => mon N A B) h (fun i hi => ?_))
  have hq' : q < 3 := by
    have := ixo_lt1 (by rw [h.1]; decide) hq
    rw [h.1] at this
    exact this
  split
  · rename_i hc
    exact m_sell h hq' hc.2.2 (w.2.2.1.2 i (ixo_lt1 (by have := w.2.2.1.1; omega) hi)).2
  · exact h
theorem m_dep (h : mon M A B) {q a : Nat} (hq : q < 3) (hB : B + a ≤ 2147483647) (h1 : 1 ≤ a) (h2 : a ≤ 2000000000) : spDep M (nI q) (nI a) = (0, nI ((mV M q).1 + a), sP (sV M (mU M) (upF (mV M) q (vC (mV M q) ((mV M q).1 + a)))) (mP M)) ∧ mon (spDep M (nI q) (nI a)).2.2 (A + a) (B + a) := by
  have e : spDep M (nI q) (nI a) = (0, nI ((mV M q).1 + a), sP (sV M (mU M) (upF (mV M) q (vC (mV M q) ((mV M q).1 + a)))) (mP M)) := by
    unfold spDep
    rw [ixo_at (by rw [h.1]; decide) (by rw [h.1]; exact hq)]
    show (if nI a < 1 ∨ ¬ nI a ≤ 2000000000 then _ else _) = _
    rw [if_neg (fun z => by
      rcases z with z | z
      · exact nI_nlt (a := a) (b := 1) h1 (by omega) z
      · exact z (nI_le (b := 2000000000) h2 (by omega))), nI_clamp (by omega), if_neg (by have := h.2.2 q hq; omega)]
  refine ⟨e, ?_⟩
  rw [e]
  refine mon_up h hq (Nat.le_add_right B a) (by show (mV M q).1 + a ≤ B + a; have := h.2.2 q hq; omega) (ofInt_0 _).symm ?_
  show A + (a : Int) = A + 0 + (((mV M q).1 + a : Nat) : Int) - ((mV M q).1 : Int)
  omega
theorem m_dec {q : Nat} (h : mon M A B) (hq : q < 3) : mon (mDec M q) A B := by
  refine mon_up h hq (Nat.le_refl B) (h.2.2 q hq) (ofInt_0 _).symm ?_
  show A = A + 0 + ((mV M q).1 : Int) - ((mV M q).1 : Int)
  omega
theorem m_subs {i p : Nat} (h : mon M A B) (hp : p ≤ 1000) : ∀ k, k ≤ 3 → mon (mSubs M i p k).1 A B
  | 0, _ => h
  | k + 1, hk => by
    have ih := m_subs (i := i) h hp k (by omega)
    rw [mSubs_s]
    split
    · rename_i hc
      have h1 := m_dec ih (q := k) (by omega)
      refine m_sell h1 (by omega) ?_ hp
      show p ≤ (upF (mV (mSubs M i p k).1) k (vD (mV (mSubs M i p k).1 k)) k).1
      rw [upF_at]
      exact hc.2
    · exact ih
theorem m_publish (h : mon M A B) (w : wfM M t) : mon (spPub M x y).2.2 A B := by
  unfold spPub
  refine ixm_m (P := fun N => mon N A B) h (fun i hi => ?_)
  split
  · exact h
  · rename_i hy
    split
    · have h1 : mon (mPub M i y.toNatClampNeg) A B := mon_same h rfl (fun _ => rfl) rfl
      have hp : y.toNatClampNeg ≤ 1000 := by
        have y0 : ¬ y < 0 := fun z => hy (Or.inl z)
        have y1 : y ≤ 1000 := Classical.byContradiction fun z => hy (Or.inr z)
        have y2 : y < nI 1001 := Int32.lt_of_le_of_lt y1 (by decide)
        obtain ⟨j, hj, rfl⟩ := ix_of (by decide) y0 y2
        rw [nI_clamp (by omega)]
        omega
      exact m_subs h1 hp _ (by rw [h.1]; exact Nat.le_refl 3)
    · exact h
theorem m_pay {i p : Nat} (h : mon M A B) (hp : p ≤ 1000) (hB : B + 1000 ≤ 2147483647) : ∀ k, k ≤ 3 → mon (mPay M i p k) A (B + 1000) ∧ ∀ q, q < 3 → k ≤ q → (mV (mPay M i p k) q).1 ≤ B
  | 0, _ => ⟨mon_le h (Nat.le_add_right B 1000), fun q hq _ => h.2.2 q hq⟩
  | k + 1, hk => by
    obtain ⟨ih, ib⟩ := m_pay (i := i) h hp hB k (by omega)
    rw [mPay_s]
    split
    · have hc := ib k (by omega) (Nat.le_refl k)
      have e : (pyd (mV (mPay M i p k) k) p).1 = (mV (mPay M i p k) k).1 + p := by
        show (if 2147483647 < (mV (mPay M i p k) k).1 + p then 2147483647 else (mV (mPay M i p k) k).1 + p) = _
        rw [if_neg (by omega)]
      refine ⟨mon_up ih (by omega) (Nat.le_refl _) (by rw [e]; omega) (d := -(p : Int)) ?_ (by rw [e]; omega), fun q hq hkq => ?_⟩
      · rw [l64 (by omega), Int64.ofInt_neg, Int64.sub_eq_add_neg]
      · show (upF (mV (mPay M i p k)) k (pyd (mV (mPay M i p k) k) p) q).1 ≤ B
        rw [upF_ne (by omega)]
        exact ib q hq (by omega)
    · exact ⟨ih, fun q hq hkq => ib q hq (by omega)⟩
theorem m_recall {i ru : Nat} (h : mon M A B) (w : wfM M t) (hi : i < mI M) (hB : B + 1000 ≤ 2147483647) : mon (mRecall M i ru) A (B + 1000) := by
  have h1 : mon (mRec0 M i) A B := mon_same h rfl (fun _ => rfl) rfl
  have h2 := (m_pay (i := i) h1 (w.2.2.1.2 i hi).2 hB 3 (Nat.le_refl 3)).1
  have h3 : mon (mPay (mRec0 M i) i (mJ M i).2 (mU M)) A (B + 1000) := by
    rw [h.1]
    exact h2
  exact mon_same h3 rfl (fun _ => rfl) rfl
theorem m_falls {ru : Nat} (h : mon M A B) (w : wfM M t) (hB : B + 12000 ≤ 2147483647) : ∀ k, k ≤ mI M → mI (mFalls M ru k).1 = mI M ∧ mon (mFalls M ru k).1 A (B + 1000 * k)
  | 0, _ => ⟨rfl, h⟩
  | k + 1, hk => by
    have h12 := w.2.2.1.1
    obtain ⟨e, ih⟩ := m_falls (ru := ru) h w hB k (by omega)
    have wk := w_falls (ru := ru) w k (by omega)
    rw [mFalls_s]
    split
    · refine ⟨?_, ?_⟩
      · obtain ⟨-, -, e3, -⟩ := sameU_pay (M := mRec0 (mFalls M ru k).1 k) (i := k) (p := (mJ (mFalls M ru k).1 k).2) (mU (mFalls M ru k).1)
        show mI (mPay (mRec0 (mFalls M ru k).1 k) k (mJ (mFalls M ru k).1 k).2 (mU (mFalls M ru k).1)) = mI M
        have e0 : mI (mRec0 (mFalls M ru k).1 k) = mI M := e
        unfold mI at e0 ⊢
        rw [e3]
        exact e0
      · have := m_recall (ru := ru) (i := k) ih wk (by rw [e]; omega) (by omega)
        rw [show B + 1000 * (k + 1) = B + 1000 * k + 1000 by omega]
        exact this
    · exact ⟨e, mon_le ih (by omega)⟩
theorem m_lose {ru : Nat} (h : mon M A B) : ∀ k, mon (mLose M ru k) A B
  | 0 => h
  | k + 1 => by
    rw [mLose_s]
    split
    · exact mon_same (m_lose h k) rfl (fun _ => rfl) rfl
    · exact m_lose h k
theorem m_fall (h : mon M A B) (w : wfM M t) (hB : B + 12000 ≤ 2147483647) : mon (spFall M x).2.2 A (B + 12000) := by
  unfold spFall
  refine ixm_m (P := fun N => mon N A (B + 12000)) (mon_le h (Nat.le_add_right B 12000)) (fun u hu => ?_)
  split
  · exact mon_le h (Nat.le_add_right B 12000)
  · have h0 : mon (mFall0 M u) A B := mon_same h rfl (fun _ => rfl) rfl
    have w0 := w_fall0 (u := u) w
    have h12 := w.2.2.1.1
    have := (m_falls (ru := 10 + u) h0 w0 hB (mI M) (Nat.le_refl _)).2
    exact m_lose (mon_le this (by omega)) _
end
