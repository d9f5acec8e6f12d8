/-! does a proof lean on a rule -/
def lnS (S : cc_St) (ru : Nat) : Nat → Bool
  | 0 => false
  | k + 1 => lnS S ru k || decide ((S k).1 = ru)
theorem lnS_mono {S : cc_St} {ru i : Nat} (h : lnS S ru i = true) : ∀ w, lnS S ru (i + w) = true
  | 0 => h
  | w + 1 => by
    show (lnS S ru (i + w) || _) = true
    rw [lnS_mono h w]
    rfl
theorem and_or3 (x y z : Int32) : (x ||| y) &&& z = (x &&& z) ||| (y &&& z) := by
  apply Int32.toBitVec_inj.1
  rw [Int32.toBitVec_and, Int32.toBitVec_or, Int32.toBitVec_or, Int32.toBitVec_and, Int32.toBitVec_and]
  apply BitVec.eq_of_getElem_eq
  intro i hi
  rw [BitVec.getElem_and, BitVec.getElem_or, BitVec.getElem_or, BitVec.getElem_and, BitVec.getElem_and]
  cases x.toBitVec[i] <;> cases y.toBitVec[i] <;> cases z.toBitVec[i] <;> rfl
theorem bits_ne : ∀ a, a < 16 → ∀ b, b < 16 → (((1 : Int32) <<< (nI a &&& 31)) &&& ((1 : Int32) <<< (nI b &&& 31)) = 0 ↔ a ≠ b) := by decide +kernel
theorem mkI_ln {S : cc_St} {ru : Nat} (hr : ru < 16) : ∀ {k : Nat}, (∀ i, i < k → (S i).1 < 16) → (mkI S k &&& ((1 : Int32) <<< (nI ru &&& 31)) = 0 ↔ lnS S ru k = false)
  | 0, _ => ⟨fun _ => rfl, fun _ => Int32.zero_and⟩
  | k + 1, h => by
    have ih := mkI_ln hr (k := k) (fun i hi => h i (by omega))
    have hb := bits_ne (S k).1 (h k (by omega)) ru hr
    show ((mkI S k ||| ((1 : Int32) <<< (nI (S k).1 &&& 31))) &&& _ = 0 ↔ (lnS S ru k || decide ((S k).1 = ru)) = false)
    rw [and_or3, Int32.or_eq_zero_iff, ih, hb, Bool.or_eq_false_iff, decide_eq_false_iff_not]
section
variable {g : Nat → Nat} {R : Option Value → cc_C → Prop} {X : String → cc_C → Prop}
theorem s_hasStepBy {c : cc_C} {r a k ru : Nat} {S : cc_St} {x : Int32} (s : sl c 7 r 0 a) (st : stC c r k S) (hS : ∀ i, i < k → (S i).1 < 16) (hx : x = nI ru) (hr : ru < 16) (H : R (some (.int (bI (lnS S ru k)))) c) : wc g (wp_X6_hasStepBy g) c [.ref a, .int x] R X := by
  subst hx
  refine mk_X6_hasStepBy_0 s ?_
  rw [st.2.2.2]
  have key := mkI_ln hr hS
  refine ⟨fun q => ?_, fun q => ?_⟩
  · rw [key.mp q] at H
    exact H
  · have : lnS S ru k = true := by
      cases h : lnS S ru k with
      | true => rfl
      | false => exact absurd (key.mpr h) q
    rw [this] at H
    exact H
end
