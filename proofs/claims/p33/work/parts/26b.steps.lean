/-! steps are noted -/
abbrev cc_St : Type := Nat → Nat × Nat × Nat
def mkI (S : cc_St) : Nat → Int32
  | 0 => 0
  | k + 1 => mkI S k ||| ((1 : Int32) <<< (nI (S k).1 &&& 31))
def puS (S : cc_St) (k : Nat) (x : Nat × Nat × Nat) : cc_St := fun i => if i = k then x else S i
theorem mkI_pu {S : cc_St} {k : Nat} {x : Nat × Nat × Nat} : ∀ i, i ≤ k → mkI (puS S k x) i = mkI S i
  | 0, _ => rfl
  | i + 1, h => by
    show mkI (puS S k x) i ||| _ = mkI S i ||| _
    rw [mkI_pu i (by omega)]
    unfold puS
    rw [if_neg (by omega)]
/-- the class's rows of steps: k steps of riddle r -/
def stC (c : cc_C) (r k : Nat) (S : cc_St) : Prop := cS c 283 r 0 = nI k ∧ k ≤ 36 ∧ (∀ i, i < k → cS c 320 r i = nI (S i).1 ∧ cS c 360 r i = nI (S i).2.1 ∧ cS c 400 r i = nI (S i).2.2) ∧ cS c 286 r 0 = mkI S k
/-- the reference's -/
def stM (c : cc_C) (r k : Nat) (S : cc_St) : Prop := cS c 880 4 r = nI k ∧ k ≤ 36 ∧ (∀ i, i < k → cS c 880 10 (36 * r + i) = nI (S i).1 ∧ cS c 880 11 (36 * r + i) = nI (S i).2.1 ∧ cS c 880 12 (36 * r + i) = nI (S i).2.2)
def pStp (r f i : Nat) : Prop := i = r ∧ (f = 283 ∨ f = 320 ∨ f = 360 ∨ f = 400 ∨ f = 286)
/-- other riddles' steps stay in the reference's rows -/
def kpM (r : Nat) (c d : cc_C) : Prop := (∀ i, i ≠ r → cS d 880 4 i = cS c 880 4 i) ∧ ∀ f, f = 10 ∨ f = 11 ∨ f = 12 → ∀ i, ¬ (36 * r ≤ i ∧ i < 36 * r + 36) → cS d 880 f i = cS c 880 f i
def pStM (f i : Nat) : Prop := f = 880 ∧ (i = 4 ∨ i = 10 ∨ i = 11 ∨ i = 12)
theorem kpM_rfl {r : Nat} {c : cc_C} : kpM r c c := ⟨fun _ _ => rfl, fun _ _ _ _ => rfl⟩
theorem kpM.trans {r : Nat} {c d e : cc_C} (h : kpM r c d) (h2 : kpM r d e) : kpM r c e := ⟨fun i hi => (h2.1 i hi).trans (h.1 i hi), fun f hf i hi => (h2.2 f hf i hi).trans (h.2 f hf i hi)⟩
theorem kpM_fr {P : Nat → Nat → Prop} {r : Nat} {c d : cc_C} (h : fr P c d) (hp : ∀ i, i = 4 ∨ i = 10 ∨ i = 11 ∨ i = 12 → ¬ P 880 i) : kpM r c d := ⟨fun i _ => by rw [h.row (hp 4 (by omega))], fun f hf i _ => by rw [h.row (hp f (by omega))]⟩
section
variable {g : Nat → Nat} {R : Option Value → cc_C → Prop} {X : String → cc_C → Prop}
theorem s_addStep {c : cc_C} {r e k ru ca t : Nat} {S : cc_St} {x1 x2 x3 : Int32} (s : sl c 7 r 0 e) (h : stC c r k S) (hk : k < 36) (h1 : x1 = nI ru) (h2 : x2 = nI ca) (h3 : x3 = nI t) (ht : t < 1000) (hZ : t = 0 → R (some (.int 0)) c) (hS : t ≠ 0 → ∀ d, fr (pStp r) c d → stC d r (k + 1) (puS S k (ru, ca, t)) → R (some (.int 1)) d) : wc g (wp_X6_addStep g) c [.ref e, .int x1, .int x2, .int x3] R X := by
  subst h1 h2 h3
  obtain ⟨a1, a2, a3, a4⟩ := h
  have vk := vp_in_nI hk (show 36 < 2 ^ 31 by omega)
  have e1 : cS (cset c 320 r k (nI ru)) 283 r 0 = nI k := (cS_f (by decide)).trans a1
  have e2 : cS (cset (cset c 320 r k (nI ru)) 360 r k (nI ca)) 283 r 0 = nI k := (cS_f (by decide)).trans e1
  have e3 : cS (cset (cset (cset c 320 r k (nI ru)) 360 r k (nI ca)) 400 r k (nI t)) 286 r 0 = mkI S k := (cS_f (by decide)).trans ((cS_f (by decide)).trans ((cS_f (by decide)).trans a4))
  have e4 : cS (cset (cset (cset (cset c 320 r k (nI ru)) 360 r k (nI ca)) 400 r k (nI t)) 286 r 0 (mkI S k ||| ((1) <<< (nI ru &&& 31)))) 283 r 0 = nI k := (cS_f (by decide)).trans ((cS_f (by decide)).trans e2)
  refine mk_X6_addStep_0 s ⟨fun q => hZ ?_, fun q => ?_⟩
  · exact (nI_eq (a := t) (b := 0) (by omega) (by omega)).mp q
  · have t0 : t ≠ 0 := fun z => q (by rw [z]; rfl)
    rw [a1, nI_clamp (show k < 2 ^ 31 by omega), e1, nI_clamp (show k < 2 ^ 31 by omega), e2, nI_clamp (show k < 2 ^ 31 by omega), e3, e4, nI_1]
    refine ⟨fun z => absurd z (nI_pos (by omega)), fun _ => ⟨fun _ => ⟨vk, vk, vk, hS t0 _ ?_ ⟨cS_at _ _ _ _ _, by omega, fun i hi => ?_, ?_⟩⟩, fun z => absurd (nI_lt (b := 36) hk (by omega)) z⟩⟩
    · refine ((((fr_rfl.set ?_).set ?_).set ?_).set ?_).set ?_
      · exact ⟨rfl, by omega⟩
      · exact ⟨rfl, by omega⟩
      · exact ⟨rfl, by omega⟩
      · exact ⟨rfl, by omega⟩
      · exact ⟨rfl, by omega⟩
    · have f1 : ∀ x, cS (cset (cset (cset (cset (cset c 320 r k (nI ru)) 360 r k (nI ca)) 400 r k (nI t)) 286 r 0 (mkI S k ||| ((1) <<< (nI ru &&& 31)))) 283 r 0 x) 320 r = upd (cS c 320 r) k (nI ru) := fun x => (cS_fn (by omega)).trans ((cS_fn (by omega)).trans ((cS_fn (by omega)).trans ((cS_fn (by omega)).trans (cS_row _ _ _ _ _))))
      have f2 : ∀ x, cS (cset (cset (cset (cset (cset c 320 r k (nI ru)) 360 r k (nI ca)) 400 r k (nI t)) 286 r 0 (mkI S k ||| ((1) <<< (nI ru &&& 31)))) 283 r 0 x) 360 r = upd (cS c 360 r) k (nI ca) := fun x => (cS_fn (by omega)).trans ((cS_fn (by omega)).trans ((cS_fn (by omega)).trans ((cS_row _ _ _ _ _).trans (by rw [cS_fn (by omega)]))))
      have f3 : ∀ x, cS (cset (cset (cset (cset (cset c 320 r k (nI ru)) 360 r k (nI ca)) 400 r k (nI t)) 286 r 0 (mkI S k ||| ((1) <<< (nI ru &&& 31)))) 283 r 0 x) 400 r = upd (cS c 400 r) k (nI t) := fun x => (cS_fn (by omega)).trans ((cS_fn (by omega)).trans ((cS_row _ _ _ _ _).trans (by rw [cS_fn (by omega), cS_fn (by omega)])))
      rw [f1, f2, f3]
      unfold upd puS
      by_cases hik : i = k
      · rw [if_pos hik, if_pos hik, if_pos hik, if_pos hik]
        exact ⟨rfl, rfl, rfl⟩
      · rw [if_neg hik, if_neg hik, if_neg hik, if_neg hik]
        exact a3 i (by omega)
    · rw [cS_f (by decide), cS_at]
      show _ = mkI (puS S k (ru, ca, t)) k ||| ((1 : Int32) <<< (nI (puS S k (ru, ca, t) k).1 &&& 31))
      rw [mkI_pu k (Nat.le_refl k)]
      unfold puS
      rw [if_pos rfl]
end
