/-! the acts -/
def sz (M N : cc_M) : Prop := mR N = mR M ∧ mU N = mU M ∧ mW N = mW M
section
variable {M : cc_M} {t : Nat} {x y : Int32}
theorem sz_rfl : sz M M := ⟨rfl, rfl, rfl⟩
theorem ixm_s {o : Option Nat} {F : Nat → cc_Sp} (h : ∀ r, o = some r → sz M (F r).2.2) : sz M (ixm o M F).2.2 := by
  cases o with
  | none => exact sz_rfl
  | some r => exact h r rfl
theorem z_prove : sz M (spProve M x).2.2 := by
  unfold spProve
  refine ixm_s (fun r _ => ?_)
  split
  · exact sz_rfl
  · exact ⟨rfl, rfl, rfl⟩
theorem z_put : sz M (spPut M x y).2.2 := by
  unfold spPut
  refine ixm_s (fun i _ => ixm_s (fun r _ => ?_))
  split
  · split
    · exact sz_rfl
    · exact ⟨rfl, rfl, rfl⟩
  · exact sz_rfl
theorem z_issue : sz M (spIssue M).2.2 := by
  unfold spIssue
  split
  · exact sz_rfl
  · exact ⟨rfl, rfl, rfl⟩
theorem z_sub : sz M (spSub M x y).2.2 := by
  unfold spSub
  refine ixm_s (fun q _ => ?_)
  split
  · exact sz_rfl
  · exact ⟨rfl, rfl, rfl⟩
theorem z_dep : sz M (spDep M x y).2.2 := by
  unfold spDep
  refine ixm_s (fun q _ => ?_)
  split
  · exact sz_rfl
  · split
    · exact sz_rfl
    · exact ⟨rfl, rfl, rfl⟩
theorem z_buy : sz M (spBuy M x y).2.2 := by
  unfold spBuy
  refine ixm_s (fun q _ => ixm_s (fun i _ => ?_))
  split
  · exact ⟨rfl, rfl, rfl⟩
  · exact sz_rfl
theorem z_subs {i p k : Nat} : sz M (mSubs M i p k).1 := by
  obtain ⟨e1, e2, e3, e4⟩ := sameU_subs (M := M) (i := i) (p := p) k
  refine ⟨?_, e4, ?_⟩
  · unfold mR
    rw [e1]
  · unfold mW
    rw [e2]
theorem z_publish : sz M (spPub M x y).2.2 := by
  unfold spPub
  refine ixm_s (fun i _ => ?_)
  split
  · exact sz_rfl
  · split
    · have h := z_subs (M := mPub M i y.toNatClampNeg) (i := i) (p := y.toNatClampNeg) (k := mU M)
      exact ⟨h.1, h.2.1, h.2.2⟩
    · exact sz_rfl
theorem z_fall (g : gM M) (w : wfM M t) : sz M (spFall M x).2.2 := by
  unfold spFall
  refine ixm_s (fun u _ => ?_)
  split
  · exact sz_rfl
  · obtain ⟨-, h1, h2, -, h3⟩ := g_fallen (u := u) g w
    exact ⟨h1, h3, h2⟩
theorem l_nx {N : cc_M} (h : lI M t) (hw : wfM N (t + 1)) (hg : gM N) (hz : sz M N) : lI N (t + 1) := ⟨hw, hg, hz.1.trans h.2.2.1, hz.2.1.trans h.2.2.2.1, by rw [hz.2.2]; exact h.2.2.2.2⟩
end
theorem subs_cnt {M : cc_M} {i p : Nat} : ∀ k, (mSubs M i p k).2 ≤ k
  | 0 => Nat.le_refl _
  | k + 1 => by
    have := subs_cnt (M := M) (i := i) (p := p) k
    rw [mSubs_s]
    split
    · show (mSubs M i p k).2 + 1 ≤ k + 1
      omega
    · omega
theorem falls_cnt {M : cc_M} {ru : Nat} : ∀ k, (mFalls M ru k).2 ≤ k
  | 0 => Nat.le_refl _
  | k + 1 => by
    have := falls_cnt (M := M) (ru := ru) k
    rw [mFalls_s]
    split
    · show (mFalls M ru k).2 + 1 ≤ k + 1
      omega
    · omega
theorem cex_31 (o : Int32 × Nat × Int32 × Nat × Bool) : cexO o < 2 ^ 31 := lcx_31 4 3 (by omega) (by omega)
theorem rdA_31 {x : cc_Rd} (hn : rdN x = 3 ∨ rdN x = 4) : rdA x < 2 ^ 31 := by
  have h2 := cntL_le (n := rdN x) (P := fun l => aF (rdK x) l (rdC x)) (m := fuelN (rdN x)) (l := List.range (rdN x))
  have h3 : fuelN (rdN x) ≤ 719 := by
    rcases hn with e | e <;> rw [e] <;> decide
  unfold rdA
  omega
theorem il_no {X : Nat → cc_Rd} {i ru : Nat} : ∀ {k : Nat}, (∀ r, r < k → rdLn (X r) ru = false) → ilE X i ru k = false
  | 0, _ => rfl
  | k + 1, h => by
    show (ilE X i ru k || (decide (rdI (X k) = i + 1) && rdLn (X k) ru)) = false
    rw [il_no (fun r hr => h r (by omega)), h k (by omega), Bool.and_false]
    rfl
theorem ix_no {M : cc_M} {ru : Nat} (h : ∀ r, r < mR M → rdLn (mX M r) ru = false) : ∀ k, ixC M ru k = 0
  | 0 => rfl
  | k + 1 => by
    show ixC M ru k + (if onS M ru k = true then 1 else 0) = 0
    have e : onS M ru k = false := by
      unfold onS
      rw [il_no h, Bool.and_false]
    rw [ix_no h k, e]
    rfl
section
variable {g : Nat → Nat} {c : cc_C} {M : cc_M} {R : Option Value → cc_C → Prop} {X : String → cc_C → Prop} {a b t r i B : Nat} {A : Int} {a2 a3 a4 a5 : Int32} {o6 o7 o8 o9 : Option Value}
theorem ac_prove (s : sl c 0 0 0 a) (hC : CL c M) (eb : b = g 14) (h : lI M t) (ht : t < 512) (hm : mon M A B) (hr : r < 5) (H : ∀ N d, pS a N d → lI N (t + 1) → mon N A (B + 12000) → R (some (.int 1)) d) : ec g tb_L_acts 84 [some (.ref a), some (.ref b), some (.int a2), some (.int a3), some (.int (nI r)), some (.int a5), o6, o7, o8, o9] [] 0 0 c R X := by
  have hh := h
  obtain ⟨w, gg, h5, hU, hW⟩ := h
  have hr5 : r < mR M := by omega
  have hb20 := w.1.1
  have wx := w.1.2 r hr5
  have hl := l_nx hh (w_prove (x := nI r) w ht) (g_prove gg w) z_prove
  have hmN := mon_le (m_prove (x := nI r) hm) (Nat.le_add_right B 12000)
  refine mk_L_acts_84 s eb ⟨⟨by omega, by omega⟩, q_state s hC w hr5 (fun d1 p1 => ⟨_, rfl, ⟨by omega, by omega⟩, lX_prove p1.1 p1.2 w (fun d2 p2 => ⟨_, rfl, ?_⟩)⟩)⟩
  rw [(zletter wx.2.1).1]
  by_cases hz : rdZ (mX M r) = 105 ∨ rdZ (mX M r) = 115 ∨ rdZ (mX M r) = 98
  · have e : spProve M (nI r) = (2, 0, M) := by
      unfold spProve
      rw [ixo_at (by omega) hr5]
      exact if_pos hz
    have HH : R (some (.int 1)) d2 := H _ d2 p2 hl hmN
    rw [e]
    refine ⟨fun _ => ⟨fun _ => ⟨⟨by omega, by omega⟩, HH⟩, fun z1 => ⟨fun _ => ⟨⟨by omega, by omega⟩, HH⟩, fun z2 => ⟨fun _ => ⟨⟨by omega, by omega⟩, HH⟩, fun z3 => ?_⟩⟩⟩, fun q => absurd rfl q⟩
    rcases hz with e | e | e
    · exact absurd e z1
    · exact absurd e z2
    · exact absurd e z3
  · have e : spProve M (nI r) = (0, ltr (rdO (mX (mMake M r) r)), mSetZ (mMake M r) r (if rdO (mX (mMake M r) r) = 1 then 119 else if rdZ (mX M r) = 104 then 104 else 111)) := by
      unfold spProve
      rw [ixo_at (by omega) hr5]
      exact if_neg hz
    have ez : ∀ z, rdZ (mX (mSetZ (mMake M r) r z) r) = z := fun z => by
      unfold mSetZ
      rw [mX_up]
      rfl
    have ho : rdO (mX (mMake M r) r) = 1 ∨ rdO (mX (mMake M r) r) = 2 ∨ rdO (mX (mMake M r) r) = 3 := by
      rw [show mX (mMake M r) r = prv (mW M) (mO M) (mX M r) from mX_up]
      exact prv_O
    rw [e] at p2 hl hmN ⊢
    have ev : vW cIU (0, ltr (rdO (mX (mMake M r) r)), mSetZ (mMake M r) r (if rdO (mX (mMake M r) r) = 1 then 119 else if rdZ (mX M r) = 104 then 104 else 111)) = ltr (rdO (mX (mMake M r) r)) := rfl
    rw [ev]
    have hrN : r < mR (mSetZ (mMake M r) r (if rdO (mX (mMake M r) r) = 1 then 119 else if rdZ (mX M r) = 104 then 104 else 111)) := hr5
    by_cases o1 : rdO (mX (mMake M r) r) = 1
    · refine ⟨fun q => absurd q (by rw [o1]; decide), fun _ => ⟨fun _ => ⟨⟨by omega, by omega⟩, q_state p2.1 p2.2 hl.1 hrN (fun d3 p3 => ⟨_, rfl, fun _ => ⟨⟨by omega, by omega⟩, H _ d3 p3 hl hmN⟩, fun q => absurd ?_ q⟩)⟩, fun q => absurd (by rw [o1]; rfl) q⟩⟩
      rw [ez, if_pos o1]
    · have n76 : ¬ ltr (rdO (mX (mMake M r) r)) = -76 := by
        rcases ho with z | z | z <;> rw [z] <;> decide
      have n119 : ¬ ltr (rdO (mX (mMake M r) r)) = 119 := by
        rcases ho with z | z | z
        · exact absurd z o1
        · rw [z]; decide
        · rw [z]; decide
      refine ⟨fun q => absurd q n76, fun _ => ⟨fun q => absurd q n119, fun _ => ⟨⟨by omega, by omega⟩, q_state p2.1 p2.2 hl.1 hrN (fun d3 p3 => ⟨_, rfl, fun z1 => ⟨fun _ => ⟨⟨by omega, by omega⟩, H _ d3 p3 hl hmN⟩, fun q => absurd ?_ q⟩, fun z1 => ⟨fun _ => ⟨⟨by omega, by omega⟩, H _ d3 p3 hl hmN⟩, fun q => absurd ?_ q⟩⟩)⟩⟩⟩
      · rw [ez, if_neg o1, if_pos z1]
      · rw [ez, if_neg o1, if_neg z1]
theorem ac_put (s : sl c 0 0 0 a) (hC : CL c M) (eb : b = g 14) (h : lI M t) (ht : t < 512) (hm : mon M A B) (hr : r < 5) (hi : i < 4) (H : ∀ N d, pS a N d → lI N (t + 1) → mon N A (B + 12000) → R (some (.int 1)) d) : ec g tb_L_acts 234 [some (.ref a), some (.ref b), some (.int a2), some (.int a3), some (.int (nI r)), some (.int (nI i)), o6, o7, o8, o9] [] 0 0 c R X := by
  have hh := h
  obtain ⟨w, gg, h5, hU, hW⟩ := h
  have hr5 : r < mR M := by omega
  have hb20 := w.1.1
  have hb12 := w.2.2.1.1
  have wx := w.1.2 r hr5
  have hl := l_nx hh (w_put (x := nI i) (y := nI r) w ht) (g_put gg w) z_put
  have hmN := mon_le (m_put (x := nI i) (y := nI r) hm) (Nat.le_add_right B 12000)
  refine mk_L_acts_234 s eb ⟨⟨by omega, by omega⟩, q_state s hC w hr5 (fun d1 p1 => ⟨_, rfl, ⟨by omega, by omega⟩, lX_put p1.1 p1.2 w (fun d2 p2 => ⟨_, rfl, ?_⟩)⟩)⟩
  rw [(zletter wx.2.1).1]
  have neg : ∀ {sp : cc_Sp}, spPut M (nI i) (nI r) = sp → vW cIUS sp < 0 → (vW cIUS (spPut M (nI i) (nI r)) < 0 ∧ R (some (.int 1)) d2) := fun e q => ⟨by rw [e]; exact q, H _ d2 p2 hl hmN⟩
  by_cases hiI : i < mI M
  · by_cases hz : (mJ M i).1 = 109 ∧ (rdZ (mX M r) = 119 ∨ rdZ (mX M r) = 98)
    · by_cases h4 : 4 ≤ cnI (mX M) i (mR M)
      · have e : spPut M (nI i) (nI r) = (3, 0, M) := by
          unfold spPut
          rw [ixo_at (by omega) hiI, ixo_at (by omega) hr5]
          exact (if_pos hz).trans (if_pos h4)
        obtain ⟨n1, n2⟩ := neg e (show (-79 : Int32) < 0 by decide)
        exact ⟨fun _ => ⟨⟨by omega, by omega⟩, n2⟩, fun q => absurd n1 q⟩
      · have e : spPut M (nI i) (nI r) = (0, nI (cnI (mX M) i (mR M) + 1), sX M (mR M) (upF (mX M) r (putX (mX M r) i))) := by
          unfold spPut
          rw [ixo_at (by omega) hiI, ixo_at (by omega) hr5]
          exact (if_pos hz).trans (if_neg h4)
        rw [e] at p2 hl hmN ⊢
        have ev : vW cIUS (0, nI (cnI (mX M) i (mR M) + 1), sX M (mR M) (upF (mX M) r (putX (mX M r) i))) = nI (cnI (mX M) i (mR M) + 1) := rfl
        rw [ev]
        have hrN : r < mR (sX M (mR M) (upF (mX M) r (putX (mX M r) i))) := hr5
        have L272 : ∀ (a6 a7 : Int32) (o8 o9 : Option Value), ec g tb_L_acts 272 [some (.ref a), some (.ref b), some (.int a2), some (.int a3), some (.int (nI r)), some (.int (nI i)), some (.int a6), some (.int a7), o8, o9] [] (0 + 1 + 3) (0 + 6 + 18) d2 R X := fun a6 a7 o8 o9 => by
          refine mk_L_acts_272 p2.1 eb ⟨⟨by omega, by omega⟩, q_state p2.1 p2.2 hl.1 hrN (fun d3 p3 => ⟨_, rfl, fun _ => ⟨⟨by omega, by omega⟩, H _ d3 p3 hl hmN⟩, fun q => absurd ?_ q⟩)⟩
          rw [mX_up]
          rfl
        refine ⟨fun q => absurd q (nI_pos (by omega)), fun _ => ⟨fun _ => L272 _ _ _ _, fun z1 => ⟨fun _ => L272 _ _ _ _, fun z2 => ?_⟩⟩⟩
        rcases hz.2 with z | z
        · exact absurd z z1
        · exact absurd z z2
    · have e : spPut M (nI i) (nI r) = (2, 0, M) := by
        unfold spPut
        rw [ixo_at (by omega) hiI, ixo_at (by omega) hr5]
        exact if_neg hz
      obtain ⟨n1, n2⟩ := neg e (show (-76 : Int32) < 0 by decide)
      exact ⟨fun _ => ⟨⟨by omega, by omega⟩, n2⟩, fun q => absurd n1 q⟩
  · have e : spPut M (nI i) (nI r) = (1, 0, M) := by
      unfold spPut
      rw [ixo_ge (by omega) (by omega)]
      rfl
    obtain ⟨n1, n2⟩ := neg e (show (-77 : Int32) < 0 by decide)
    exact ⟨fun _ => ⟨⟨by omega, by omega⟩, n2⟩, fun q => absurd n1 q⟩
theorem ac_issue (s : sl c 0 0 0 a) (hC : CL c M) (h : lI M t) (ht : t < 500) (hm : mon M A B) (H : ∀ N d, pS a N d → lI N (t + 1) → mon N A (B + 12000) → R (some (.int 1)) d) : wc g (wp_L_issue g) c [.ref a] (fun v d => ∃ x : Int32, v = some (.int x) ∧ ((x = (-79 : Int32) → R (some (.int (1 : Int32))) d) ∧ (¬ x = (-79 : Int32) → wc g (wp_L_issueState g) d [.ref a, .int x] (fun v d => ∃ y : Int32, v = some (.int y) ∧ ((y = (109 : Int32) → wc g (wp_L_publish g) d [.ref a, .int x, .int (1 : Int32)] (fun v d => ∃ z : Int32, v = some (.int z) ∧ ((z = (-76 : Int32) → R (some (.int (1 : Int32))) d) ∧ (¬ z = (-76 : Int32) → R (some (.int (0 : Int32))) d))) (fun _ _ => False)) ∧ (¬ y = (109 : Int32) → R (some (.int (0 : Int32))) d))) (fun _ _ => False)))) (fun _ _ => False) := by
  have hh := h
  obtain ⟨w, gg, h5, hU, hW⟩ := h
  have hb12 := w.2.2.1.1
  have hl := l_nx hh (w_issue w (by omega)) (g_issue gg) z_issue
  have hmN := mon_le (m_issue hm) (Nat.le_add_right B 12000)
  refine lX_issue s hC w (fun d1 p1 => ⟨_, rfl, ?_⟩)
  by_cases h12 : mI M = 12
  · have e : spIssue M = (1, 0, M) := if_pos h12
    have HH : R (some (.int 1)) d1 := H _ d1 p1 hl hmN
    rw [e]
    exact ⟨fun _ => HH, fun q => absurd rfl q⟩
  · have e : spIssue M = (0, nI (mI M), sJ M (mI M + 1) (upF (mJ M) (mI M) (109, 0))) := if_neg h12
    rw [e] at p1 hl hmN ⊢
    have ev : vW c_S (0, nI (mI M), sJ M (mI M + 1) (upF (mJ M) (mI M) (109, 0))) = nI (mI M) := rfl
    rw [ev]
    refine ⟨fun q => absurd q ?_, fun _ => q_issueState p1.1 p1.2 hl.1 (by omega) (fun d2 p2 => ⟨_, rfl, fun _ => ?_, fun q => absurd ?_ q⟩)⟩
    · intro z
      exact absurd (show nI (mI M) < 0 by rw [z]; decide) (nI_pos (by omega))
    · have e2 : spPub (sJ M (mI M + 1) (upF (mJ M) (mI M) (109, 0))) (nI (mI M)) 1 = (3, 0, sJ M (mI M + 1) (upF (mJ M) (mI M) (109, 0))) := by
        unfold spPub
        rw [ixo_at (by show mI M + 1 < 2 ^ 31; omega) (by show mI M < mI M + 1; omega)]
        have q0 : ¬ ((mJ (sJ M (mI M + 1) (upF (mJ M) (mI M) (109, 0))) (mI M)).1 = 109 ∧ cnI (mX (sJ M (mI M + 1) (upF (mJ M) (mI M) (109, 0)))) (mI M) (mR (sJ M (mI M + 1) (upF (mJ M) (mI M) (109, 0)))) ≠ 0) → (if (mJ (sJ M (mI M + 1) (upF (mJ M) (mI M) (109, 0))) (mI M)).1 = 109 ∧ cnI (mX (sJ M (mI M + 1) (upF (mJ M) (mI M) (109, 0)))) (mI M) (mR (sJ M (mI M + 1) (upF (mJ M) (mI M) (109, 0)))) ≠ 0 then (0, nI (mSubs (mPub (sJ M (mI M + 1) (upF (mJ M) (mI M) (109, 0))) (mI M) (1 : Int32).toNatClampNeg) (mI M) (1 : Int32).toNatClampNeg (mU M)).2, (mSubs (mPub (sJ M (mI M + 1) (upF (mJ M) (mI M) (109, 0))) (mI M) (1 : Int32).toNatClampNeg) (mI M) (1 : Int32).toNatClampNeg (mU M)).1) else (3, 0, sJ M (mI M + 1) (upF (mJ M) (mI M) (109, 0))) : cc_Sp) = (3, 0, sJ M (mI M + 1) (upF (mJ M) (mI M) (109, 0))) := fun h => if_neg h
        refine q0 (fun q => q.2 ?_)
        have key : ∀ k, k ≤ mR M → cnI (mX M) (mI M) k = 0 := by
          intro k
          induction k with
          | zero => intro _; rfl
          | succ k ih =>
            intro hk
            show cnI (mX M) (mI M) k + (if rdI (mX M k) = mI M + 1 then 1 else 0) = 0
            rw [ih (by omega), if_neg (by have := (w.1.2 k (by omega)).2.2.2.1.1; omega)]
        exact key (mR M) (Nat.le_refl _)
      refine lX_publish p2.1 p2.2 hl.1 (fun d3 p3 => ⟨_, rfl, ?_⟩)
      rw [e2] at p3 ⊢
      exact ⟨fun _ => H _ d3 p3 hl hmN, fun q => absurd rfl q⟩
    · unfold isV
      rw [if_pos (by show mI M < mI M + 1; omega)]
      show (upF (mJ M) (mI M) (109, 0) (mI M)).1 = 109
      rw [upF_at]
theorem ac_publish (s : sl c 0 0 0 a) (hC : CL c M) (h : lI M t) (ht : t < 500) (hm : mon M A B) (hr : r < 5) (hi : i < 4) (H : ∀ N d, pS a N d → lI N (t + 1) → mon N A (B + 12000) → R (some (.int 1)) d) : wc g (wp_L_publish g) c [.ref a, .int (nI i), .int ((3 : Int32) * nI r)] (fun v d => ∃ x : Int32, v = some (.int x) ∧ ((x < 0 → R (some (.int (1 : Int32))) d) ∧ (¬ x < 0 → wc g (wp_L_issueState g) d [.ref a, .int (nI i)] (fun v d => ∃ y : Int32, v = some (.int y) ∧ ((y = (115 : Int32) → (((3 : Int32) < x → R (some (.int (0 : Int32))) d) ∧ (¬ (3 : Int32) < x → R (some (.int (1 : Int32))) d))) ∧ (¬ y = (115 : Int32) → R (some (.int (0 : Int32))) d))) (fun _ _ => False)))) (fun _ _ => False) := by
  have hh := h
  obtain ⟨w, gg, h5, hU, hW⟩ := h
  have hb12 := w.2.2.1.1
  have e3 : (3 : Int32) * nI r = nI (3 * r) := by
    show nI 3 * nI r = _
    rw [pk_mul]
  rw [e3]
  have hl := l_nx hh (w_publish (x := nI i) (y := nI (3 * r)) w (by omega)) (g_publish gg w) z_publish
  have hmN := mon_le (m_publish (x := nI i) (y := nI (3 * r)) hm w) (Nat.le_add_right B 12000)
  refine lX_publish s hC w (fun d1 p1 => ⟨_, rfl, ?_⟩)
  have hp : ¬ (nI (3 * r) < 0 ∨ ¬ nI (3 * r) ≤ 1000) := fun q => by
    rcases q with q | q
    · exact nI_pos (by omega) q
    · exact q (nI_le (b := 1000) (by omega) (by omega))
  by_cases hiI : i < mI M
  · by_cases hz : (mJ M i).1 = 109 ∧ cnI (mX M) i (mR M) ≠ 0
    · have e : spPub M (nI i) (nI (3 * r)) = (0, nI (mSubs (mPub M i (3 * r)) i (3 * r) (mU M)).2, (mSubs (mPub M i (3 * r)) i (3 * r) (mU M)).1) := by
        unfold spPub
        rw [ixo_at (by omega) hiI]
        refine (if_neg hp).trans ?_
        rw [nI_clamp (by omega)]
        exact if_pos hz
      rw [e] at p1 hl hmN ⊢
      have ev : vW cIAU (0, nI (mSubs (mPub M i (3 * r)) i (3 * r) (mU M)).2, (mSubs (mPub M i (3 * r)) i (3 * r) (mU M)).1) = nI (mSubs (mPub M i (3 * r)) i (3 * r) (mU M)).2 := rfl
      rw [ev]
      have hc := subs_cnt (M := mPub M i (3 * r)) (i := i) (p := 3 * r) (mU M)
      refine ⟨fun q => absurd q (nI_pos (by omega)), fun _ => q_issueState p1.1 p1.2 hl.1 (by omega) (fun d2 p2 => ⟨_, rfl, fun _ => ⟨fun q => absurd q (nI_nlt (a := 3) (by omega) (by omega)), fun _ => H _ d2 p2 hl hmN⟩, fun q => absurd ?_ q⟩)⟩
      obtain ⟨-, -, q3, -⟩ := sameU_subs (M := mPub M i (3 * r)) (i := i) (p := 3 * r) (mU M)
      have eI : mI (mSubs (mPub M i (3 * r)) i (3 * r) (mU M)).1 = mI M := by
        unfold mI
        rw [q3]
        rfl
      have eJ : mJ (mSubs (mPub M i (3 * r)) i (3 * r) (mU M)).1 = upF (mJ M) i (115, 3 * r) := by
        unfold mJ
        rw [q3]
        rfl
      unfold isV
      rw [eI, if_pos hiI, eJ, upF_at]
    · have e : spPub M (nI i) (nI (3 * r)) = (3, 0, M) := by
        unfold spPub
        rw [ixo_at (by omega) hiI]
        exact (if_neg hp).trans (if_neg hz)
      have HH : R (some (.int 1)) d1 := H _ d1 p1 hl hmN
      rw [e]
      exact ⟨fun _ => HH, fun q => absurd (show (-76 : Int32) < 0 by decide) q⟩
  · have e : spPub M (nI i) (nI (3 * r)) = (1, 0, M) := by
      unfold spPub
      rw [ixo_ge (by omega) (by omega)]
      rfl
    have HH : R (some (.int 1)) d1 := H _ d1 p1 hl hmN
    rw [e]
    exact ⟨fun _ => HH, fun q => absurd (show (-77 : Int32) < 0 by decide) q⟩
theorem r3 (hr : r < 5) : nI r - nI r / (3 : Int32) * (3 : Int32) = nI (r % 3) := pk_rem (a := r) (d := 3) (by omega) (by omega) (by omega)
theorem ac_subscribe (s : sl c 0 0 0 a) (hC : CL c M) (h : lI M t) (ht : t < 500) (hm : mon M A B) (hr : r < 5) (hi : i < 4) (H : ∀ N d, pS a N d → lI N (t + 1) → mon N A (B + 12000) → R (some (.int 1)) d) : wc g (wp_L_subscribe g) c [.ref a, .int (nI r - nI r / (3 : Int32) * (3 : Int32)), .int ((1 : Int32) + nI i)] (fun v d => ∃ x : Int32, v = some (.int x) ∧ ((x ≤ 0 → R (some (.int (0 : Int32))) d) ∧ (¬ x ≤ 0 → R (some (.int (1 : Int32))) d))) (fun _ _ => False) := by
  have hh := h
  obtain ⟨w, gg, h5, hU, hW⟩ := h
  have e1 : (1 : Int32) + nI i = nI (1 + i) := nI_add 1 i
  rw [r3 hr, e1]
  have hq : r % 3 < mU M := by rw [hU]; exact Nat.mod_lt _ (by decide)
  have wu := w.2.2.2.1.2 (r % 3) hq
  have hl := l_nx hh (w_sub (x := nI (r % 3)) (y := nI (1 + i)) w (by omega)) (g_sub gg w) z_sub
  have hmN := mon_le (m_sub (x := nI (r % 3)) (y := nI (1 + i)) hm) (Nat.le_add_right B 12000)
  refine lX_subscribe s hC w (fun d1 p1 => ⟨_, rfl, ?_⟩)
  have e : spSub M (nI (r % 3)) (nI (1 + i)) = (0, nI ((mV M (r % 3)).2.1 + (1 + i)), sP (sV M (mU M) (upF (mV M) (r % 3) (vB (mV M (r % 3)) ((mV M (r % 3)).2.1 + (1 + i))))) (mP M)) := by
    unfold spSub
    rw [ixo_at (by omega) hq]
    refine (if_neg (fun z => ?_)).trans (by rw [nI_clamp (by omega)])
    rcases z with z | z
    · exact nI_nlt (a := 1 + i) (b := 1) (by omega) (by omega) z
    · exact z (nI_le (b := 12) (by omega) (by omega))
  have HH : R (some (.int 1)) d1 := H _ d1 p1 hl hmN
  rw [e]
  exact ⟨fun q => absurd q (nI_nle (n := (mV M (r % 3)).2.1 + (1 + i)) (by omega) (by omega)), fun _ => HH⟩
theorem ac_deposit (s : sl c 0 0 0 a) (hC : CL c M) (h : lI M t) (ht : t < 500) (hm : mon M A B) (hB : B + 13000 ≤ 2147483647) (hr : r < 5) (H : ∀ N d, pS a N d → lI N (t + 1) → mon N (A + 10) (B + 12000) → R (some (.int 1)) d) : wc g (wp_L_deposit g) c [.ref a, .int (nI r - nI r / (3 : Int32) * (3 : Int32)), .int (10 : Int32)] (fun v d => ∃ x : Int32, v = some (.int x) ∧ ((x ≤ (9 : Int32) → R (some (.int (0 : Int32))) d) ∧ (¬ x ≤ (9 : Int32) → R (some (.int (1 : Int32))) d))) (fun _ _ => False) := by
  have hh := h
  obtain ⟨w, gg, h5, hU, hW⟩ := h
  rw [r3 hr]
  have hq : r % 3 < 3 := Nat.mod_lt _ (by decide)
  have hb := hm.2.2 (r % 3) hq
  obtain ⟨e, hm2⟩ := m_dep (q := r % 3) (a := 10) hm hq (by omega) (by omega) (by omega)
  have hl := l_nx hh (w_dep (x := nI (r % 3)) (y := nI 10) w (by omega)) (g_dep gg w) z_dep
  refine lX_deposit (y := nI 10) s hC w (fun d1 p1 => ⟨_, rfl, ?_⟩)
  have HH : R (some (.int 1)) d1 := H _ d1 p1 hl (mon_le hm2 (by omega))
  rw [e]
  exact ⟨fun q => absurd q (nI_ge (a := 9) (b := (mV M (r % 3)).1 + 10) (by omega) (by omega)), fun _ => HH⟩
theorem ac_buy (s : sl c 0 0 0 a) (hC : CL c M) (h : lI M t) (ht : t < 500) (hm : mon M A B) (hB : B + 13000 ≤ 2147483647) (hr : r < 5) (hi : i < 4) (H : ∀ N d, pS a N d → lI N (t + 1) → mon N A (B + 12000) → R (some (.int 1)) d) : wc g (wp_L_credits g) c [.ref a, .int (nI r - nI r / (3 : Int32) * (3 : Int32))] (fun v64 c64 => ∃ x68 : Int32, v64 = some (.int x68) ∧ ((¬ (3 : Int32) = 0) ∧ wc g (wp_L_buy g) c64 [.ref a, .int (nI r - nI r / (3 : Int32) * (3 : Int32)), .int (nI i)] (fun v92 c69 => ∃ x73 : Int32, v92 = some (.int x73) ∧ ((x73 < 0 → R (some (.int (1 : Int32))) c69) ∧ (¬ x73 < 0 → ((¬ (3 : Int32) = 0) ∧ wc g (wp_L_has g) c69 [.ref a, .int (nI r - nI r / (3 : Int32) * (3 : Int32)), .int (nI i)] (fun v89 c74 => ∃ x78 : Int32, v89 = some (.int x78) ∧ ((x78 = (1 : Int32) → ((x68 < x73 → R (some (.int (0 : Int32))) c74) ∧ (¬ x68 < x73 → ((¬ (3 : Int32) = 0) ∧ wc g (wp_L_credits g) c74 [.ref a, .int (nI r - nI r / (3 : Int32) * (3 : Int32))] (fun v85 c79 => ∃ x83 : Int32, v85 = some (.int x83) ∧ ((x83 = x73 → R (some (.int (1 : Int32))) c79) ∧ (¬ x83 = x73 → R (some (.int (0 : Int32))) c79))) (fun _ _ => False))))) ∧ (¬ x78 = (1 : Int32) → R (some (.int (0 : Int32))) c74))) (fun _ _ => False))))) (fun _ _ => False))) (fun _ _ => False) := by
  have hh := h
  obtain ⟨w, gg, h5, hU, hW⟩ := h
  have hb12 := w.2.2.1.1
  rw [r3 hr]
  have hq3 : r % 3 < 3 := Nat.mod_lt _ (by decide)
  have hq : r % 3 < mU M := by rw [hU]; exact hq3
  have hb := hm.2.2 (r % 3) hq3
  have hl := l_nx hh (w_buy (x := nI (r % 3)) (y := nI i) w (by omega)) (g_buy gg w) z_buy
  have hmN := mon_le (m_buy (x := nI (r % 3)) (y := nI i) hm w) (Nat.le_add_right B 12000)
  have n3 : ¬ (3 : Int32) = 0 := by decide
  refine q_credits s hC w hq (fun d0 p0 => ⟨_, rfl, n3, lX_buy p0.1 p0.2 w (fun d1 p1 => ⟨_, rfl, ?_⟩)⟩)
  by_cases hiI : i < mI M
  · by_cases hz : (mJ M i).1 = 115 ∧ (mV M (r % 3)).2.2 i = false ∧ (mJ M i).2 ≤ (mV M (r % 3)).1
    · have e : spBuy M (nI (r % 3)) (nI i) = (0, nI ((mV M (r % 3)).1 - (mJ M i).2), mSell M (r % 3) i (mJ M i).2) := by
        unfold spBuy
        rw [ixo_at (by omega) hq, ixo_at (by omega) hiI]
        exact if_pos hz
      rw [e] at p1 hl hmN ⊢
      have ev : vW cIU (0, nI ((mV M (r % 3)).1 - (mJ M i).2), mSell M (r % 3) i (mJ M i).2) = nI ((mV M (r % 3)).1 - (mJ M i).2) := rfl
      rw [ev]
      have eV : mV (mSell M (r % 3) i (mJ M i).2) (r % 3) = vS (mV M (r % 3)) i (mJ M i).2 := upF_at
      refine ⟨fun q => absurd q (nI_pos (by omega)), fun _ => ⟨n3, q_has p1.1 p1.2 hl.1 hq (by omega) (fun d2 p2 => ⟨_, rfl, fun _ => ⟨fun q => absurd q (nI_nlt (by omega) (by omega)), fun _ => ⟨n3, q_credits p2.1 p2.2 hl.1 hq (fun d3 p3 => ⟨_, rfl, fun _ => H _ d3 p3 hl hmN, fun q => absurd ?_ q⟩)⟩⟩, fun q => absurd ?_ q⟩)⟩⟩
      · rw [eV]
        rfl
      · unfold haV
        rw [if_pos (show i < mI (mSell M (r % 3) i (mJ M i).2) from hiI), eV]
        show bI (if i = i then true else (mV M (r % 3)).2.2 i) = 1
        rw [if_pos rfl]
        rfl
    · have e : spBuy M (nI (r % 3)) (nI i) = (2, 0, M) := by
        unfold spBuy
        rw [ixo_at (by omega) hq, ixo_at (by omega) hiI]
        exact if_neg hz
      have HH : R (some (.int 1)) d1 := H _ d1 p1 hl hmN
      rw [e]
      exact ⟨fun _ => HH, fun q => absurd (show (-76 : Int32) < 0 by decide) q⟩
  · have e : spBuy M (nI (r % 3)) (nI i) = (1, 0, M) := by
      unfold spBuy
      rw [ixo_at (by omega) hq, ixo_ge (by omega) (by omega)]
      rfl
    have HH : R (some (.int 1)) d1 := H _ d1 p1 hl hmN
    rw [e]
    exact ⟨fun _ => HH, fun q => absurd (show (-77 : Int32) < 0 by decide) q⟩
end
