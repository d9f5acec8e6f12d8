section
variable {g : Nat → Nat} {R : Option Value → cc_C → Prop} {X : String → cc_C → Prop}
def fullM (n : Nat) : Nat → Nat := fun _ => 2 ^ n - 1
theorem full_ok {n : Nat} (h3 : 3 ≤ n) (h6 : n ≤ 6) : eE (fullM n) n = false ∧ smB (fullM n) n ≤ 36 ∧ okM n (fullM n) := by
  rcases (show n = 3 ∨ n = 4 ∨ n = 5 ∨ n = 6 by omega) with rfl | rfl | rfl | rfl
  · exact ⟨by decide, by decide, fun _ _ => (by decide : 2 ^ 3 - 1 ≠ 0), fun _ _ => (by decide : 2 ^ 3 - 1 < 2 ^ 3)⟩
  · exact ⟨by decide, by decide, fun _ _ => (by decide : 2 ^ 4 - 1 ≠ 0), fun _ _ => (by decide : 2 ^ 4 - 1 < 2 ^ 4)⟩
  · exact ⟨by decide, by decide, fun _ _ => (by decide : 2 ^ 5 - 1 ≠ 0), fun _ _ => (by decide : 2 ^ 5 - 1 < 2 ^ 5)⟩
  · exact ⟨by decide, by decide, fun _ _ => (by decide : 2 ^ 6 - 1 ≠ 0), fun _ _ => (by decide : 2 ^ 6 - 1 < 2 ^ 6)⟩
/-- a proof made anew -/
def prf (K : cc_K) (O : cc_O) (n nc nO : Nat) : (Nat → Nat) × Nat × cc_St := rnS K O n nc nO 36 (fullM n) 0 (fun _ => (0, 0, 0))
theorem s_make {c : cc_C} {r n nc nO e a b : Nat} {O : cc_O} (s : sl c 7 r 0 e) (s2 : sl c 1 (r + 4) 0 a) (s3 : sl c 1 1 0 b) (o : ansOk c r n nc) (ow : owC c nO O) (oO : okO nO O) (H : ∀ z, fr (pMk r) c z → stC z r (prf (clC c r) O n nc nO).2.1 (prf (clC c r) O n nc nO).2.2 → cS z 284 r 0 = outS (prf (clC c r) O n nc nO).1 n → R none z) : wc g (wp_X6_make g) c [.ref e, .ref a, .ref b] R X := by
  have o5 := o.2.2.2.2.1
  have o4 := o.2.2.2.1
  obtain ⟨f1, f2, f3⟩ := full_ok o5 o4
  refine mk_X6_make_0 s s2 s3 (s_lose s (fun d hd h283 h284 h286 => ⟨rfl, ?_⟩))
  have hd2 : fr (pMk r) c d := hd.mono (fun f i h => ⟨h.1, by omega⟩)
  have v11 : cV d 11 r 0 := by
    rw [hd.2.1]
    exact (o.2.1.2.2.2.1 r s.1).2.2.2
  have h120 : cN d 120 r = n := (hd.nn (by omega)).trans o.2.2.1
  refine s_giveAll ⟨v11, rfl⟩ h120 o4 (fun d2 hd3 hs => ⟨rfl, ?_⟩)
  refine s_makeLoop s s2 s3 o ow oO 36 0 d2 (fullM n) (fun _ => (0, 0, 0)) _ (by omega) (hd2.trans (hd3.mono (fun f i h => ⟨h.2, Or.inl h.1⟩))) hs ?_ f1 (by omega) H
  have r283 : cS d2 283 r = cS d 283 r := hd3.row (by unfold pSe; omega)
  have r286 : cS d2 286 r = cS d 286 r := hd3.row (by unfold pSe; omega)
  refine ⟨by rw [r283]; exact h283, by omega, fun i hi => absurd hi (Nat.not_lt_zero i), by rw [r286]; exact h286⟩
end
