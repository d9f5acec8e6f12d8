/-! does a proof lean on a rule -/
def lnS (S : cc_St) (ru : Nat) : Nat → Bool
  | 0 => false
  | k + 1 => lnS S ru k || decide ((S k).1 = ru)
theorem lnS_mono {S : cc_St} {ru i : Nat} (h : lnS S ru i = true) : ∀ w, lnS S ru (i + w) = true
  | 0 => h
  | w + 1 => by
    show (lnS S ru (i + w) || _) = true
    rw [lnS_mono h w]
    rfl
theorem and_or3 (x y z : Int32) : (x ||| y) &&& z = (x &&& z) ||| (y &&& z) := by
  apply Int32.toBitVec_inj.1
  rw [Int32.toBitVec_and, Int32.toBitVec_or, Int32.toBitVec_or, Int32.toBitVec_and, Int32.toBitVec_and]
  apply BitVec.eq_of_getElem_eq
  intro i hi
  rw [BitVec.getElem_and, BitVec.getElem_or, BitVec.getElem_or, BitVec.getElem_and, BitVec.getElem_and]
  cases x.toBitVec[i] <;> cases y.toBitVec[i] <;> cases z.toBitVec[i] <;> rfl
theorem bits_ne : ∀ a, a < 16 → ∀ b, b < 16 → (((1 : Int32) <<< (nI a &&& 31)) &&& ((1 : Int32) <<< (nI b &&& 31)) = 0 ↔ a ≠ b) := by decide +kernel
theorem mkI_ln {S : cc_St} {ru : Nat} (hr : ru < 16) : ∀ {k : Nat}, (∀ i, i < k → (S i).1 < 16) → (mkI S k &&& ((1 : Int32) <<< (nI ru &&& 31)) = 0 ↔ lnS S ru k = false)
  | 0, _ => ⟨fun _ => rfl, fun _ => Int32.zero_and⟩
  | k + 1, h => by
    have ih := mkI_ln hr (k := k) (fun i hi => h i (by omega))
    have hb := bits_ne (S k).1 (h k (by omega)) ru hr
    show ((mkI S k ||| ((1 : Int32) <<< (nI (S k).1 &&& 31))) &&& _ = 0 ↔ (lnS S ru k || decide ((S k).1 = ru)) = false)
    rw [and_or3, Int32.or_eq_zero_iff, ih, hb, Bool.or_eq_false_iff, decide_eq_false_iff_not]
section
variable {g : Nat → Nat} {R : Option Value → cc_C → Prop} {X : String → cc_C → Prop}
theorem s_hasStepBy {c : cc_C} {r a k ru : Nat} {S : cc_St} {x : Int32} (s : sl c 7 r 0 a) (st : stC c r k S) (hS : ∀ i, i < k → (S i).1 < 16) (hx : x = nI ru) (hr : ru < 16) (H : R (some (.int (bI (lnS S ru k)))) c) : wc g (wp_X6_hasStepBy g) c [.ref a, .int x] R X := by
  subst hx
  refine mk_X6_hasStepBy_0 s ?_
  rw [st.2.2.2]
  have key := mkI_ln hr hS
  refine ⟨fun q => ?_, fun q => ?_⟩
  · rw [key.mp q] at H
    exact H
  · have : lnS S ru k = true := by
      cases h : lnS S ru k with
      | true => rfl
      | false => exact absurd (key.mpr h) q
    rw [this] at H
    exact H
theorem m_leans {c : cc_C} {r e k ru o : Nat} {S : cc_St} {x1 x2 : Int32} (s : sl c 21 0 0 e) (hr : r < 20) (h1 : x1 = nI r) (h2 : x2 = nI ru) (hru : ru < 100) (ho : cS c 880 3 r = nI o) (o4 : o < 4) (st : o ≠ 0 → stM c r k S) (hS : ∀ i, i < k → (S i).1 < 16) (k0 : o = 0 → k = 0) (H : R (some (.int (bI (lnS S ru k)))) c) : wc g (wp_X9_leans g) c [.ref e, .int x1, .int x2] R X := by
  subst h1 h2
  have cr : (nI r).toNatClampNeg = r := nI_clamp (by omega)
  have vr := vp_in_nI hr (show 20 < 2 ^ 31 by omega)
  refine mk_X9_leans_0 s ?_
  by_cases h0 : o = 0
  · obtain rfl := k0 h0
    refine mk_X9_leans_5 s ?_
    rw [cr, ho, h0]
    exact ⟨vr, fun _ => ⟨nb_bI false, H⟩, fun _ => ⟨vr, fun _ => ⟨nb_bI false, H⟩, fun q => absurd rfl q⟩⟩
  · obtain ⟨t1, t2, t3⟩ := st h0
    have loop : ∀ (w i : Nat), i + w = k → ec g tb_X9_leans 5 [some (.ref e), some (.int (nI r)), some (.int (nI ru)), some (.int (bI (lnS S ru i))), some (.int (nI i))] [] 0 0 c R X := by
      intro w
      induction w with
      | zero =>
        intro i hi
        obtain rfl : i = k := by omega
        refine mk_X9_leans_5 s ?_
        rw [cr, ho, t1]
        exact ⟨vr, fun _ => ⟨nb_bI _, H⟩, fun q => absurd (nI_le (Nat.le_refl i) (by omega)) q⟩
      | succ w ih =>
        intro i hi
        have r1 := ih (i + 1) (by omega)
        have e1 : lnS S ru (i + 1) = (lnS S ru i || decide ((S i).1 = ru)) := rfl
        rw [e1] at r1
        obtain ⟨u1, -, -⟩ := t3 i (by omega)
        have ci : nI 36 * nI r + nI i = nI (36 * r + i) := by rw [pk_mul, nI_add]
        have si := hS i (by omega)
        refine mk_X9_leans_5 s ?_
        rw [cr, ho, t1, show (36 : Int32) = nI 36 from rfl, ci, nI_clamp (show 36 * r + i < 2 ^ 31 by omega), u1, nI_1]
        refine ⟨vr, fun q => absurd q (nI_ge (by omega) (by omega)), fun _ => ⟨vr, fun q => absurd q (nI_ne0 (by omega) (by omega)), fun _ => ⟨fun q => ?_, fun q => ?_⟩⟩⟩
        · have hb : lnS S ru i = false := by
            cases h : lnS S ru i with
            | false => rfl
            | true => rw [h] at q; exact absurd q (by decide)
          rw [hb, Bool.false_or] at r1
          refine ⟨vp_in_nI (by omega) (by omega), fun q2 => ?_, fun q2 => ?_⟩
          · rw [decide_eq_true ((nI_eq (by omega) (by omega)).mp q2)] at r1
            exact r1
          · rw [decide_eq_false (fun z => q2 ((nI_eq (by omega) (by omega)).mpr z))] at r1
            exact r1
        · have hb : lnS S ru i = true := by
            cases h : lnS S ru i with
            | true => rfl
            | false => rw [h] at q; exact absurd rfl q
          rw [hb, Bool.true_or] at r1
          exact r1
    exact loop k 0 (by omega)
end
