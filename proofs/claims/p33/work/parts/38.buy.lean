/-! sales -/
def vS (v : cc_Us) (i p : Nat) : cc_Us := (v.1 - p, v.2.1, fun k => if k = i then true else v.2.2 k)
def mSell (M : cc_M) (q i p : Nat) : cc_M := sP (sV M (mU M) (upF (mV M) q (vS (mV M q) i p))) (mP M + (nI p).toInt64)
def spBuy (M : cc_M) (x y : Int32) : cc_Sp := ixm (ixo (mU M) x) M fun q => ixm (ixo (mI M) y) M fun i => if (mJ M i).1 = 115 ∧ (mV M q).2.2 i = false ∧ (mJ M i).2 ≤ (mV M q).1 then (0, nI ((mV M q).1 - (mJ M i).2), mSell M q i (mJ M i).2) else (2, 0, M)
def xIU : List String := ["java/lang/IndexOutOfBoundsException", "java/lang/UnsupportedOperationException"]
section
variable {g : Nat → Nat} {c : cc_C} {M : cc_M} {a e t : Nat} {x y : Int32} {X : String → cc_C → Prop}
theorem nb1 : vp_nar .boolean 1 = 1 := by decide
def kS (c d : cc_C) : Prop := cA d = cA c ∧ cV d = cV c
theorem s_sell {R : Option Value → cc_C → Prop} {q i p : Nat} {x1 x2 : Int32} (s : sl c 0 0 0 a) (hC : CL c M) (hq : q < mU M) (h1 : x1 = nI i) (h2 : x2 = nI p) (hi : i < 12) (hp : p ≤ (mV M q).1) (hb : (mV M q).1 < 2 ^ 31) (H : ∀ d, kC c d → kS c d → CL d (mSell M q i p) → R none d) : wc g (wp_X8_sell g) c [.ref a, .ref (cA c 16 q 0), .int x1, .int x2] R X := by
  subst h1 h2
  obtain ⟨u1, u2, u3, u4⟩ := hC.2.2.2.2.1.2.2.1 q hq
  have eP : cP (cset c 640 q 0 (cS c 640 q 0 - nI p)) 0 0 = mP M := hC.2.2.2.2.2
  refine mk_X8_sell_0 s ⟨u1, rfl⟩ ?_
  rw [eP, u2, pk_sub hp]
  refine mk_X1_addIssue_0 ⟨u1, rfl⟩ ⟨fun z => absurd z (nI_pos (by omega)), fun _ => ⟨fun z => absurd z (nI_ge (b := 12) (by omega) (by omega)), fun _ => ⟨vp_in_nI hi (by omega), rfl, ?_⟩⟩⟩
  rw [nb1, nI_clamp (by omega)]
  have hf : fq (fun f i' j => i' = q ∧ (f = 640 ∨ f = 680)) c (cset (cpset (cset c 640 q 0 (nI ((mV M q).1 - p))) 0 0 (mP M + (nI p).toInt64)) 680 q i 1) := ((fq_rfl.set (by omega)).pset).set (by omega)
  refine H _ (kC_fq hf (fun f i j z => by omega)) ⟨hf.1, hf.2.1⟩ (CL_cust hf (fun f i j z => by omega) ⟨?_, ?_, fun k hk => ?_⟩ ?_ hC)
  · rw [cS_f (by decide)]
    exact cS_at _ _ _ _ _
  · rw [cS_f (by decide)]
    show cS (cset c 640 q 0 (nI ((mV M q).1 - p))) 641 q 0 = _
    exact (cS_f (by decide)).trans u3
  · show _ = bI (if k = i then true else (mV M q).2.2 k)
    by_cases hk' : k = i
    · rw [if_pos hk', hk', cS_at]
      rfl
    · rw [if_neg hk', cS_ne (by omega)]
      show cS (cset c 640 q 0 (nI ((mV M q).1 - p))) 680 q k = _
      exact (cS_f (by decide)).trans (u4 k hk)
  · exact cP_at _ _ _ _
theorem c_buy (s : sl c 0 0 0 a) (hC : CL c M) (w : wfM M t) : wc g (wp_X8_buy g) c [.ref a, .int x, .int y] (okC (spBuy M x y) c) (okX xIU (spBuy M x y) c) := by
  have b12 := w.2.2.1.1
  refine mk_X8_buy_0 s (s_findCustomer s hC.2.2.2.2.1 w.2.2.2.1.1 (fun h => lX 0 (no1 h) rfl kC_rfl hC) (fun q hq hx => ?_))
  obtain ⟨h1, h2, h3, h4⟩ := hC.2.2.2.2.1.2.2.1 q hq
  have e1 : spBuy M x y = _ := at1 hx hq (by have := w.2.2.2.1.1; omega)
  refine ⟨_, q, rfl, ⟨h1, rfl⟩, s_findIssue s hC.2.2.2.1 b12 (fun h => lX 0 (e1.trans (no1 h)) rfl kC_rfl hC) (fun i hi hy => ?_)⟩
  have e2 := e1.trans (at1 hy hi (by omega))
  obtain ⟨i1, i2, i3⟩ := hC.2.2.2.1.2.2.1 i hi
  have bp := (w.2.2.1.2 i hi).2
  have bc := (w.2.2.2.1.2 q hq).1
  refine ⟨_, i, rfl, ⟨i1, rfl⟩, ?_⟩
  rw [i2]
  refine ⟨fun z => s_isOwnerOf ⟨h1, rfl⟩ h4 hy (by omega) ⟨_, rfl, fun z2 => ⟨fun z3 => ?_, fun z3 => ?_⟩, fun z2 => ?_⟩, fun z => lX 1 (e2.trans (if_neg fun q => z q.1)) rfl kC_rfl hC⟩
  · have hb : (mV M q).2.2 i = false := by
      cases hb : (mV M q).2.2 i with
      | false => rfl
      | true => rw [hb] at z2; exact absurd z2 (by decide)
    rw [i3, h2] at z3
    have hle := (nI_leI (by omega) bc).mp z3
    have e3 := e2.trans (if_pos ⟨z, hb, hle⟩)
    refine s_sell s hC hq hy i3 (by omega) hle bc (fun d hd _ hC' => ⟨rfl, ?_⟩)
    refine lC e3 ?_ hd hC'
    have := (hC'.2.2.2.2.1.2.2.1 q hq).2.1
    rw [this]
    show nI (upF (mV M) q (vS (mV M q) i (mJ M i).2) q).1 = _
    rw [upF_at]
    rfl
  · rw [i3, h2] at z3
    exact lX 1 (e2.trans (if_neg fun q => z3 (nI_le q.2.2 bc))) rfl kC_rfl hC
  · have hb : (mV M q).2.2 i = true := by
      cases hb : (mV M q).2.2 i with
      | true => rfl
      | false => rw [hb] at z2; exact absurd rfl z2
    exact lX 1 (e2.trans (if_neg fun q => by rw [hb] at q; exact absurd q.2.1 (by decide))) rfl kC_rfl hC
theorem w_sell {q i p : Nat} (w : wfM M t) (hq : q < mU M) : wfM (mSell M q i p) t := by
  obtain ⟨w1, w2, w3, w4, w5⟩ := w
  refine ⟨w1, w2, w3, ⟨w4.1, fun k hk => ?_⟩, w5⟩
  show (upF (mV M) q (vS (mV M q) i p) k).1 < 2 ^ 31 ∧ (upF (mV M) q (vS (mV M q) i p) k).2.1 ≤ 12 * t
  have := w4.2 q hq
  by_cases hkq : k = q
  · rw [hkq, upF_at]
    exact ⟨by show (mV M q).1 - p < 2 ^ 31; omega, this.2⟩
  · rw [upF_ne hkq]
    exact w4.2 k hk
theorem w_buy (w : wfM M t) (ht : t < 512) : wfM (spBuy M x y).2.2 (t + 1) := by
  unfold spBuy ixm
  split
  · exact wf_s w ht
  · rename_i q hq
    dsimp only
    split
    · exact wf_s w ht
    · try dsimp only
      split
      · exact wf_s (w_sell w (ixo_lt hq)) ht
      · exact wf_s w ht
end
