/-! states with new places -/
def dO (c : cc_C) (a : Nat) (q : Nat) (n : Nat) : cc_C := (fun k i j => if k = 18 ∧ i = a ∧ j = 0 then a else if k = 19 ∧ i = a ∧ j = 0 then q else cA c k i j, fun k i j => cV c k i j ∨ ((k = 18 ∧ i = a ∧ j = 0) ∨ (k = 19 ∧ i = a ∧ j = 0)), fun f i j => if f = 720 ∧ i = a then (nI n) else if f = 760 ∧ i = a then (if j < n then nI j else 0) else cS c f i j, cP c, cD c)
theorem dO_A {c : cc_C} {a : Nat} {q : Nat} {n : Nat} {k i j : Nat} (h : ¬ ((k = 18 ∧ i = a ∧ j = 0) ∨ (k = 19 ∧ i = a ∧ j = 0))) : cA (dO c a q n) k i j = cA c k i j := by
  show (if k = 18 ∧ i = a ∧ j = 0 then a else if k = 19 ∧ i = a ∧ j = 0 then q else cA c k i j) = _
  rw [if_neg (fun q => h (Or.inl q)), if_neg (fun q => h (Or.inr (q)))]
theorem dO_S {c : cc_C} {a : Nat} {q : Nat} {n : Nat} {f i j : Nat} (h : ¬ ((f = 720 ∧ i = a) ∨ (f = 760 ∧ i = a))) : cS (dO c a q n) f i j = cS c f i j := by
  show (if f = 720 ∧ i = a then (nI n) else if f = 760 ∧ i = a then (if j < n then nI j else 0) else cS c f i j) = _
  rw [if_neg (fun q => h (Or.inl q)), if_neg (fun q => h (Or.inr (q)))]
theorem dO_a18 {c : cc_C} {a : Nat} {q : Nat} {n : Nat} : cA (dO c a q n) 18 a 0 = a := by
  show (if 18 = 18 ∧ a = a ∧ 0 = 0 then a else if 18 = 19 ∧ a = a ∧ 0 = 0 then q else cA c 18 a 0) = _
  rw [if_pos ⟨rfl, rfl, rfl⟩]
theorem dO_a19 {c : cc_C} {a : Nat} {q : Nat} {n : Nat} : cA (dO c a q n) 19 a 0 = q := by
  show (if 19 = 18 ∧ a = a ∧ 0 = 0 then a else if 19 = 19 ∧ a = a ∧ 0 = 0 then q else cA c 19 a 0) = _
  rw [if_neg (by omega), if_pos ⟨rfl, rfl, rfl⟩]
theorem dO_s720 {c : cc_C} {a : Nat} {q : Nat} {n : Nat} {j : Nat} : cS (dO c a q n) 720 a j = (nI n) := by
  show (if 720 = 720 ∧ a = a then (nI n) else if 720 = 760 ∧ a = a then (if j < n then nI j else 0) else cS c 720 a j) = _
  rw [if_pos ⟨rfl, rfl⟩]
theorem dO_s760 {c : cc_C} {a : Nat} {q : Nat} {n : Nat} {j : Nat} : cS (dO c a q n) 760 a j = (if j < n then nI j else 0) := by
  show (if 760 = 720 ∧ a = a then (nI n) else if 760 = 760 ∧ a = a then (if j < n then nI j else 0) else cS c 760 a j) = _
  rw [if_neg (by omega), if_pos ⟨rfl, rfl⟩]
theorem dO_le {c : cc_C} {a : Nat} {q : Nat} {n : Nat} (w18 : ¬ cV c 18 a 0) (w19 : ¬ cV c 19 a 0) : cle c (dO c a q n) := fun k i j _ hv => ⟨Or.inl hv, dO_A fun e => by
  rcases e with ⟨rfl, rfl, rfl⟩ | ⟨rfl, rfl, rfl⟩
  · exact w18 hv
  · exact w19 hv⟩
theorem CC_dO {g : Nat → Nat} {L L' : List Nat} {h h' : ab_H} {c : cc_C} {a : Nat} {q : Nat} {n : Nat} (cc : CC g c L h) (hL : ∀ b, b ∈ L → b ∈ L') (hh : ∀ b, b ∈ L → h' b = h b) (n0 : a ∉ L) (m0 : a ∈ L') (k0 : h' a = ct18 g (dO c a q n) a 0) (n1 : q ∉ L) (m1 : q ∈ L') (k1 : h' q = ct19 g (dO c a q n) a 0) (e0_1 : a ≠ q) (w18 : ¬ cV c 18 a 0) (w19 : ¬ cV c 19 a 0)  : CC g (dO c a q n) L' h' := by
  refine CC_ext2 (N := fun k i j => (k = 18 ∧ i = a ∧ j = 0) ∨ (k = 19 ∧ i = a ∧ j = 0)) cc hL hh (fun _ _ _ q => q) (fun _ _ _ q => Or.inl q) (fun k i hv => dO_A fun e => ?_) (fun r e _ _ => dO_A (by omega)) (fun k i f hv hs => ?_) rfl rfl (fun k i j hn => ?_) (fun k i j k' i' j' hn hn' e => ?_) (fun k i j hn => by omega) (fun hn => ?_) (fun i hn => ?_) (fun i hn => ?_) (fun i hn => ?_) (fun i hn => ?_) (fun i hn => ?_) (fun i hn => ?_) (fun hn => ?_) (fun i => ⟨fun hn => ?_, fun hn => ?_⟩) (fun i hn => ?_)
  · rcases e with ⟨rfl, rfl, -⟩ | ⟨rfl, rfl, -⟩
    · exact w18 hv
    · exact w19 hv
  · have hr := seesR hs
    funext j
    refine dO_S fun q => ?_
    rcases q with ⟨rfl, rfl⟩ | ⟨rfl, rfl⟩
    · rcases (show k = 18 ∨ k = 19 by omega) with rfl | rfl
      · exact w18 hv
      · exact w19 hv
    · obtain rfl : k = 19 := by omega
      exact w19 hv
  · rcases hn with ⟨rfl, rfl, rfl⟩ | ⟨rfl, rfl, rfl⟩
    · rw [dO_a18]
      exact ⟨n0, m0, k0⟩
    · rw [dO_a19]
      exact ⟨n1, m1, k1⟩
  · rcases hn with ⟨rfl, rfl, rfl⟩ | ⟨rfl, rfl, rfl⟩ <;> rcases hn' with ⟨rfl, rfl, rfl⟩ | ⟨rfl, rfl, rfl⟩
    · exact ⟨rfl, rfl, rfl⟩
    · exfalso
      rw [dO_a18, dO_a19] at e
      exact e0_1 e
    · exfalso
      rw [dO_a19, dO_a18] at e
      exact e0_1 e.symm
    · exact ⟨rfl, rfl, rfl⟩
  · exact absurd hn (by omega)
  · exact absurd hn (by omega)
  · exact absurd hn (by omega)
  · exact absurd hn (by omega)
  · exact absurd hn (by omega)
  · obtain rfl : i = a := by omega
    exact ⟨Or.inr (Or.inr (⟨rfl, rfl, rfl⟩)), dO_a18⟩
  · exact absurd hn (by omega)
  · exact absurd hn (by omega)
  · exact absurd hn (by omega)
  · obtain rfl : i = a := by omega
    exact Or.inr (Or.inl ⟨rfl, rfl, rfl⟩)
  · exact absurd hn (by omega)
def dI (c : cc_C) (m : Nat) (a : Nat) : cc_C := (fun k i j => if k = 15 ∧ i = m ∧ j = 0 then a else cA c k i j, fun k i j => cV c k i j ∨ ((k = 15 ∧ i = m ∧ j = 0)), fun f i j => if f = 600 ∧ i = m then 109 else if f = 601 ∧ i = m then 0 else cS c f i j, cP c, cD c)
theorem dI_A {c : cc_C} {m : Nat} {a : Nat} {k i j : Nat} (h : ¬ ((k = 15 ∧ i = m ∧ j = 0))) : cA (dI c m a) k i j = cA c k i j := by
  show (if k = 15 ∧ i = m ∧ j = 0 then a else cA c k i j) = _
  rw [if_neg (fun q => h (q))]
theorem dI_S {c : cc_C} {m : Nat} {a : Nat} {f i j : Nat} (h : ¬ ((f = 600 ∧ i = m) ∨ (f = 601 ∧ i = m))) : cS (dI c m a) f i j = cS c f i j := by
  show (if f = 600 ∧ i = m then 109 else if f = 601 ∧ i = m then 0 else cS c f i j) = _
  rw [if_neg (fun q => h (Or.inl q)), if_neg (fun q => h (Or.inr (q)))]
theorem dI_a15 {c : cc_C} {m : Nat} {a : Nat} : cA (dI c m a) 15 m 0 = a := by
  show (if 15 = 15 ∧ m = m ∧ 0 = 0 then a else cA c 15 m 0) = _
  rw [if_pos ⟨rfl, rfl, rfl⟩]
theorem dI_s600 {c : cc_C} {m : Nat} {a : Nat} {j : Nat} : cS (dI c m a) 600 m j = 109 := by
  show (if 600 = 600 ∧ m = m then 109 else if 600 = 601 ∧ m = m then 0 else cS c 600 m j) = _
  rw [if_pos ⟨rfl, rfl⟩]
theorem dI_s601 {c : cc_C} {m : Nat} {a : Nat} {j : Nat} : cS (dI c m a) 601 m j = 0 := by
  show (if 601 = 600 ∧ m = m then 109 else if 601 = 601 ∧ m = m then 0 else cS c 601 m j) = _
  rw [if_neg (by omega), if_pos ⟨rfl, rfl⟩]
theorem dI_le {c : cc_C} {m : Nat} {a : Nat} (w15 : ¬ cV c 15 m 0) : cle c (dI c m a) := fun k i j _ hv => ⟨Or.inl hv, dI_A fun e => by
  rcases e with ⟨rfl, rfl, rfl⟩
  · exact w15 hv⟩
theorem CC_dI {g : Nat → Nat} {L L' : List Nat} {h h' : ab_H} {c : cc_C} {m : Nat} {a : Nat} (cc : CC g c L h) (hL : ∀ b, b ∈ L → b ∈ L') (hh : ∀ b, b ∈ L → h' b = h b) (n0 : a ∉ L) (m0 : a ∈ L') (k0 : h' a = ct15 g (dI c m a) m 0)  (w15 : ¬ cV c 15 m 0)  : CC g (dI c m a) L' h' := by
  refine CC_ext2 (N := fun k i j => (k = 15 ∧ i = m ∧ j = 0)) cc hL hh (fun _ _ _ q => q) (fun _ _ _ q => Or.inl q) (fun k i hv => dI_A fun e => ?_) (fun r e _ _ => dI_A (by omega)) (fun k i f hv hs => ?_) rfl rfl (fun k i j hn => ?_) (fun k i j k' i' j' hn hn' e => ?_) (fun k i j hn => by omega) (fun hn => ?_) (fun i hn => ?_) (fun i hn => ?_) (fun i hn => ?_) (fun i hn => ?_) (fun i hn => ?_) (fun i hn => ?_) (fun hn => ?_) (fun i => ⟨fun hn => ?_, fun hn => ?_⟩) (fun i hn => ?_)
  · rcases e with ⟨rfl, rfl, -⟩
    · exact w15 hv
  · have hr := seesR hs
    funext j
    refine dI_S fun q => ?_
    rcases q with ⟨rfl, rfl⟩ | ⟨rfl, rfl⟩
    · obtain rfl : k = 15 := by omega
      exact w15 hv
    · obtain rfl : k = 15 := by omega
      exact w15 hv
  · rcases hn with ⟨rfl, rfl, rfl⟩
    · rw [dI_a15]
      exact ⟨n0, m0, k0⟩
  · rcases hn with ⟨rfl, rfl, rfl⟩ <;> rcases hn' with ⟨rfl, rfl, rfl⟩
    · exact ⟨rfl, rfl, rfl⟩
  · exact absurd hn (by omega)
  · exact absurd hn (by omega)
  · exact absurd hn (by omega)
  · exact absurd hn (by omega)
  · exact absurd hn (by omega)
  · exact absurd hn (by omega)
  · exact absurd hn (by omega)
  · exact absurd hn (by omega)
  · exact absurd hn (by omega)
  · exact absurd hn (by omega)
  · exact absurd hn (by omega)
def dU (c : cc_C) (m : Nat) (a : Nat) (q : Nat) : cc_C := (fun k i j => if k = 16 ∧ i = m ∧ j = 0 then a else if k = 17 ∧ i = m ∧ j = 0 then q else cA c k i j, fun k i j => cV c k i j ∨ ((k = 16 ∧ i = m ∧ j = 0) ∨ (k = 17 ∧ i = m ∧ j = 0)), fun f i j => if f = 640 ∧ i = m then 0 else if f = 641 ∧ i = m then 0 else if f = 680 ∧ i = m then 0 else cS c f i j, cP c, cD c)
theorem dU_A {c : cc_C} {m : Nat} {a : Nat} {q : Nat} {k i j : Nat} (h : ¬ ((k = 16 ∧ i = m ∧ j = 0) ∨ (k = 17 ∧ i = m ∧ j = 0))) : cA (dU c m a q) k i j = cA c k i j := by
  show (if k = 16 ∧ i = m ∧ j = 0 then a else if k = 17 ∧ i = m ∧ j = 0 then q else cA c k i j) = _
  rw [if_neg (fun q => h (Or.inl q)), if_neg (fun q => h (Or.inr (q)))]
theorem dU_S {c : cc_C} {m : Nat} {a : Nat} {q : Nat} {f i j : Nat} (h : ¬ ((f = 640 ∧ i = m) ∨ (f = 641 ∧ i = m) ∨ (f = 680 ∧ i = m))) : cS (dU c m a q) f i j = cS c f i j := by
  show (if f = 640 ∧ i = m then 0 else if f = 641 ∧ i = m then 0 else if f = 680 ∧ i = m then 0 else cS c f i j) = _
  rw [if_neg (fun q => h (Or.inl q)), if_neg (fun q => h (Or.inr (Or.inl q))), if_neg (fun q => h (Or.inr (Or.inr (q))))]
theorem dU_a16 {c : cc_C} {m : Nat} {a : Nat} {q : Nat} : cA (dU c m a q) 16 m 0 = a := by
  show (if 16 = 16 ∧ m = m ∧ 0 = 0 then a else if 16 = 17 ∧ m = m ∧ 0 = 0 then q else cA c 16 m 0) = _
  rw [if_pos ⟨rfl, rfl, rfl⟩]
theorem dU_a17 {c : cc_C} {m : Nat} {a : Nat} {q : Nat} : cA (dU c m a q) 17 m 0 = q := by
  show (if 17 = 16 ∧ m = m ∧ 0 = 0 then a else if 17 = 17 ∧ m = m ∧ 0 = 0 then q else cA c 17 m 0) = _
  rw [if_neg (by omega), if_pos ⟨rfl, rfl, rfl⟩]
theorem dU_s640 {c : cc_C} {m : Nat} {a : Nat} {q : Nat} {j : Nat} : cS (dU c m a q) 640 m j = 0 := by
  show (if 640 = 640 ∧ m = m then 0 else if 640 = 641 ∧ m = m then 0 else if 640 = 680 ∧ m = m then 0 else cS c 640 m j) = _
  rw [if_pos ⟨rfl, rfl⟩]
theorem dU_s641 {c : cc_C} {m : Nat} {a : Nat} {q : Nat} {j : Nat} : cS (dU c m a q) 641 m j = 0 := by
  show (if 641 = 640 ∧ m = m then 0 else if 641 = 641 ∧ m = m then 0 else if 641 = 680 ∧ m = m then 0 else cS c 641 m j) = _
  rw [if_neg (by omega), if_pos ⟨rfl, rfl⟩]
theorem dU_s680 {c : cc_C} {m : Nat} {a : Nat} {q : Nat} {j : Nat} : cS (dU c m a q) 680 m j = 0 := by
  show (if 680 = 640 ∧ m = m then 0 else if 680 = 641 ∧ m = m then 0 else if 680 = 680 ∧ m = m then 0 else cS c 680 m j) = _
  rw [if_neg (by omega), if_neg (by omega), if_pos ⟨rfl, rfl⟩]
theorem dU_le {c : cc_C} {m : Nat} {a : Nat} {q : Nat} (w16 : ¬ cV c 16 m 0) (w17 : ¬ cV c 17 m 0) : cle c (dU c m a q) := fun k i j _ hv => ⟨Or.inl hv, dU_A fun e => by
  rcases e with ⟨rfl, rfl, rfl⟩ | ⟨rfl, rfl, rfl⟩
  · exact w16 hv
  · exact w17 hv⟩
theorem CC_dU {g : Nat → Nat} {L L' : List Nat} {h h' : ab_H} {c : cc_C} {m : Nat} {a : Nat} {q : Nat} (cc : CC g c L h) (hL : ∀ b, b ∈ L → b ∈ L') (hh : ∀ b, b ∈ L → h' b = h b) (n0 : a ∉ L) (m0 : a ∈ L') (k0 : h' a = ct16 g (dU c m a q) m 0) (n1 : q ∉ L) (m1 : q ∈ L') (k1 : h' q = ct17 g (dU c m a q) m 0) (e0_1 : a ≠ q) (w16 : ¬ cV c 16 m 0) (w17 : ¬ cV c 17 m 0)  : CC g (dU c m a q) L' h' := by
  refine CC_ext2 (N := fun k i j => (k = 16 ∧ i = m ∧ j = 0) ∨ (k = 17 ∧ i = m ∧ j = 0)) cc hL hh (fun _ _ _ q => q) (fun _ _ _ q => Or.inl q) (fun k i hv => dU_A fun e => ?_) (fun r e _ _ => dU_A (by omega)) (fun k i f hv hs => ?_) rfl rfl (fun k i j hn => ?_) (fun k i j k' i' j' hn hn' e => ?_) (fun k i j hn => by omega) (fun hn => ?_) (fun i hn => ?_) (fun i hn => ?_) (fun i hn => ?_) (fun i hn => ?_) (fun i hn => ?_) (fun i hn => ?_) (fun hn => ?_) (fun i => ⟨fun hn => ?_, fun hn => ?_⟩) (fun i hn => ?_)
  · rcases e with ⟨rfl, rfl, -⟩ | ⟨rfl, rfl, -⟩
    · exact w16 hv
    · exact w17 hv
  · have hr := seesR hs
    funext j
    refine dU_S fun q => ?_
    rcases q with ⟨rfl, rfl⟩ | ⟨rfl, rfl⟩ | ⟨rfl, rfl⟩
    · obtain rfl : k = 16 := by omega
      exact w16 hv
    · obtain rfl : k = 16 := by omega
      exact w16 hv
    · obtain rfl : k = 17 := by omega
      exact w17 hv
  · rcases hn with ⟨rfl, rfl, rfl⟩ | ⟨rfl, rfl, rfl⟩
    · rw [dU_a16]
      exact ⟨n0, m0, k0⟩
    · rw [dU_a17]
      exact ⟨n1, m1, k1⟩
  · rcases hn with ⟨rfl, rfl, rfl⟩ | ⟨rfl, rfl, rfl⟩ <;> rcases hn' with ⟨rfl, rfl, rfl⟩ | ⟨rfl, rfl, rfl⟩
    · exact ⟨rfl, rfl, rfl⟩
    · exfalso
      rw [dU_a16, dU_a17] at e
      exact e0_1 e
    · exfalso
      rw [dU_a17, dU_a16] at e
      exact e0_1 e.symm
    · exact ⟨rfl, rfl, rfl⟩
  · exact absurd hn (by omega)
  · exact absurd hn (by omega)
  · exact absurd hn (by omega)
  · exact absurd hn (by omega)
  · obtain rfl : i = m := by omega
    exact Or.inr (Or.inr (⟨rfl, rfl, rfl⟩))
  · exact absurd hn (by omega)
  · exact absurd hn (by omega)
  · exact absurd hn (by omega)
  · exact absurd hn (by omega)
  · exact absurd hn (by omega)
  · exact absurd hn (by omega)
def dW (c : cc_C) (m : Nat) (a : Nat) (kd : Int32) (p : Int32) (fst : Int32) (x : Int32) : cc_C := (fun k i j => if k = 14 ∧ i = m ∧ j = 0 then a else cA c k i j, fun k i j => cV c k i j ∨ ((k = 14 ∧ i = m ∧ j = 0)), fun f i j => if f = 560 ∧ i = m then kd else if f = 561 ∧ i = m then 1 else if f = 562 ∧ i = m then 0 else if f = 563 ∧ i = m then p else if f = 564 ∧ i = m then fst else if f = 565 ∧ i = m then x else cS c f i j, cP c, cD c)
theorem dW_A {c : cc_C} {m : Nat} {a : Nat} {kd : Int32} {p : Int32} {fst : Int32} {x : Int32} {k i j : Nat} (h : ¬ ((k = 14 ∧ i = m ∧ j = 0))) : cA (dW c m a kd p fst x) k i j = cA c k i j := by
  show (if k = 14 ∧ i = m ∧ j = 0 then a else cA c k i j) = _
  rw [if_neg (fun q => h (q))]
theorem dW_S {c : cc_C} {m : Nat} {a : Nat} {kd : Int32} {p : Int32} {fst : Int32} {x : Int32} {f i j : Nat} (h : ¬ ((f = 560 ∧ i = m) ∨ (f = 561 ∧ i = m) ∨ (f = 562 ∧ i = m) ∨ (f = 563 ∧ i = m) ∨ (f = 564 ∧ i = m) ∨ (f = 565 ∧ i = m))) : cS (dW c m a kd p fst x) f i j = cS c f i j := by
  show (if f = 560 ∧ i = m then kd else if f = 561 ∧ i = m then 1 else if f = 562 ∧ i = m then 0 else if f = 563 ∧ i = m then p else if f = 564 ∧ i = m then fst else if f = 565 ∧ i = m then x else cS c f i j) = _
  rw [if_neg (fun q => h (Or.inl q)), if_neg (fun q => h (Or.inr (Or.inl q))), if_neg (fun q => h (Or.inr (Or.inr (Or.inl q)))), if_neg (fun q => h (Or.inr (Or.inr (Or.inr (Or.inl q))))), if_neg (fun q => h (Or.inr (Or.inr (Or.inr (Or.inr (Or.inl q)))))), if_neg (fun q => h (Or.inr (Or.inr (Or.inr (Or.inr (Or.inr (q)))))))]
theorem dW_a14 {c : cc_C} {m : Nat} {a : Nat} {kd : Int32} {p : Int32} {fst : Int32} {x : Int32} : cA (dW c m a kd p fst x) 14 m 0 = a := by
  show (if 14 = 14 ∧ m = m ∧ 0 = 0 then a else cA c 14 m 0) = _
  rw [if_pos ⟨rfl, rfl, rfl⟩]
theorem dW_s560 {c : cc_C} {m : Nat} {a : Nat} {kd : Int32} {p : Int32} {fst : Int32} {x : Int32} {j : Nat} : cS (dW c m a kd p fst x) 560 m j = kd := by
  show (if 560 = 560 ∧ m = m then kd else if 560 = 561 ∧ m = m then 1 else if 560 = 562 ∧ m = m then 0 else if 560 = 563 ∧ m = m then p else if 560 = 564 ∧ m = m then fst else if 560 = 565 ∧ m = m then x else cS c 560 m j) = _
  rw [if_pos ⟨rfl, rfl⟩]
theorem dW_s561 {c : cc_C} {m : Nat} {a : Nat} {kd : Int32} {p : Int32} {fst : Int32} {x : Int32} {j : Nat} : cS (dW c m a kd p fst x) 561 m j = 1 := by
  show (if 561 = 560 ∧ m = m then kd else if 561 = 561 ∧ m = m then 1 else if 561 = 562 ∧ m = m then 0 else if 561 = 563 ∧ m = m then p else if 561 = 564 ∧ m = m then fst else if 561 = 565 ∧ m = m then x else cS c 561 m j) = _
  rw [if_neg (by omega), if_pos ⟨rfl, rfl⟩]
theorem dW_s562 {c : cc_C} {m : Nat} {a : Nat} {kd : Int32} {p : Int32} {fst : Int32} {x : Int32} {j : Nat} : cS (dW c m a kd p fst x) 562 m j = 0 := by
  show (if 562 = 560 ∧ m = m then kd else if 562 = 561 ∧ m = m then 1 else if 562 = 562 ∧ m = m then 0 else if 562 = 563 ∧ m = m then p else if 562 = 564 ∧ m = m then fst else if 562 = 565 ∧ m = m then x else cS c 562 m j) = _
  rw [if_neg (by omega), if_neg (by omega), if_pos ⟨rfl, rfl⟩]
theorem dW_s563 {c : cc_C} {m : Nat} {a : Nat} {kd : Int32} {p : Int32} {fst : Int32} {x : Int32} {j : Nat} : cS (dW c m a kd p fst x) 563 m j = p := by
  show (if 563 = 560 ∧ m = m then kd else if 563 = 561 ∧ m = m then 1 else if 563 = 562 ∧ m = m then 0 else if 563 = 563 ∧ m = m then p else if 563 = 564 ∧ m = m then fst else if 563 = 565 ∧ m = m then x else cS c 563 m j) = _
  rw [if_neg (by omega), if_neg (by omega), if_neg (by omega), if_pos ⟨rfl, rfl⟩]
theorem dW_s564 {c : cc_C} {m : Nat} {a : Nat} {kd : Int32} {p : Int32} {fst : Int32} {x : Int32} {j : Nat} : cS (dW c m a kd p fst x) 564 m j = fst := by
  show (if 564 = 560 ∧ m = m then kd else if 564 = 561 ∧ m = m then 1 else if 564 = 562 ∧ m = m then 0 else if 564 = 563 ∧ m = m then p else if 564 = 564 ∧ m = m then fst else if 564 = 565 ∧ m = m then x else cS c 564 m j) = _
  rw [if_neg (by omega), if_neg (by omega), if_neg (by omega), if_neg (by omega), if_pos ⟨rfl, rfl⟩]
theorem dW_s565 {c : cc_C} {m : Nat} {a : Nat} {kd : Int32} {p : Int32} {fst : Int32} {x : Int32} {j : Nat} : cS (dW c m a kd p fst x) 565 m j = x := by
  show (if 565 = 560 ∧ m = m then kd else if 565 = 561 ∧ m = m then 1 else if 565 = 562 ∧ m = m then 0 else if 565 = 563 ∧ m = m then p else if 565 = 564 ∧ m = m then fst else if 565 = 565 ∧ m = m then x else cS c 565 m j) = _
  rw [if_neg (by omega), if_neg (by omega), if_neg (by omega), if_neg (by omega), if_neg (by omega), if_pos ⟨rfl, rfl⟩]
theorem dW_le {c : cc_C} {m : Nat} {a : Nat} {kd : Int32} {p : Int32} {fst : Int32} {x : Int32} (w14 : ¬ cV c 14 m 0) : cle c (dW c m a kd p fst x) := fun k i j _ hv => ⟨Or.inl hv, dW_A fun e => by
  rcases e with ⟨rfl, rfl, rfl⟩
  · exact w14 hv⟩
theorem CC_dW {g : Nat → Nat} {L L' : List Nat} {h h' : ab_H} {c : cc_C} {m : Nat} {a : Nat} {kd : Int32} {p : Int32} {fst : Int32} {x : Int32} (cc : CC g c L h) (hL : ∀ b, b ∈ L → b ∈ L') (hh : ∀ b, b ∈ L → h' b = h b) (n0 : a ∉ L) (m0 : a ∈ L') (k0 : h' a = ct14 g (dW c m a kd p fst x) m 0)  (w14 : ¬ cV c 14 m 0)  : CC g (dW c m a kd p fst x) L' h' := by
  refine CC_ext2 (N := fun k i j => (k = 14 ∧ i = m ∧ j = 0)) cc hL hh (fun _ _ _ q => q) (fun _ _ _ q => Or.inl q) (fun k i hv => dW_A fun e => ?_) (fun r e _ _ => dW_A (by omega)) (fun k i f hv hs => ?_) rfl rfl (fun k i j hn => ?_) (fun k i j k' i' j' hn hn' e => ?_) (fun k i j hn => by omega) (fun hn => ?_) (fun i hn => ?_) (fun i hn => ?_) (fun i hn => ?_) (fun i hn => ?_) (fun i hn => ?_) (fun i hn => ?_) (fun hn => ?_) (fun i => ⟨fun hn => ?_, fun hn => ?_⟩) (fun i hn => ?_)
  · rcases e with ⟨rfl, rfl, -⟩
    · exact w14 hv
  · have hr := seesR hs
    funext j
    refine dW_S fun q => ?_
    rcases q with ⟨rfl, rfl⟩ | ⟨rfl, rfl⟩ | ⟨rfl, rfl⟩ | ⟨rfl, rfl⟩ | ⟨rfl, rfl⟩ | ⟨rfl, rfl⟩
    · obtain rfl : k = 14 := by omega
      exact w14 hv
    · obtain rfl : k = 14 := by omega
      exact w14 hv
    · obtain rfl : k = 14 := by omega
      exact w14 hv
    · obtain rfl : k = 14 := by omega
      exact w14 hv
    · obtain rfl : k = 14 := by omega
      exact w14 hv
    · obtain rfl : k = 14 := by omega
      exact w14 hv
  · rcases hn with ⟨rfl, rfl, rfl⟩
    · rw [dW_a14]
      exact ⟨n0, m0, k0⟩
  · rcases hn with ⟨rfl, rfl, rfl⟩ <;> rcases hn' with ⟨rfl, rfl, rfl⟩
    · exact ⟨rfl, rfl, rfl⟩
  · exact absurd hn (by omega)
  · exact absurd hn (by omega)
  · exact absurd hn (by omega)
  · exact absurd hn (by omega)
  · exact absurd hn (by omega)
  · exact absurd hn (by omega)
  · exact absurd hn (by omega)
  · exact absurd hn (by omega)
  · exact absurd hn (by omega)
  · exact absurd hn (by omega)
  · exact absurd hn (by omega)
def dR (c : cc_C) (r : Nat) (n : Nat) (a3 : Nat) (a1 : Nat) (a7 : Nat) (a8 : Nat) (a9 : Nat) (a10 : Nat) (a11 : Nat) (a12 : Nat) (a13 : Nat) : cc_C := (fun k i j => if k = 3 ∧ i = r ∧ j = 0 then a3 else if k = 1 ∧ i = (r + 4) ∧ j = 0 then a1 else if k = 7 ∧ i = r ∧ j = 0 then a7 else if k = 8 ∧ i = r ∧ j = 0 then a8 else if k = 9 ∧ i = r ∧ j = 0 then a9 else if k = 10 ∧ i = r ∧ j = 0 then a10 else if k = 11 ∧ i = r ∧ j = 0 then a11 else if k = 12 ∧ i = r ∧ j = 0 then a12 else if k = 13 ∧ i = r ∧ j = 0 then a13 else cA c k i j, fun k i j => cV c k i j ∨ ((k = 3 ∧ i = r ∧ j = 0) ∨ (k = 1 ∧ i = (r + 4) ∧ j = 0) ∨ (k = 7 ∧ i = r ∧ j = 0) ∨ (k = 8 ∧ i = r ∧ j = 0) ∨ (k = 9 ∧ i = r ∧ j = 0) ∨ (k = 10 ∧ i = r ∧ j = 0) ∨ (k = 11 ∧ i = r ∧ j = 0) ∨ (k = 12 ∧ i = r ∧ j = 0) ∨ (k = 13 ∧ i = r ∧ j = 0)), fun f i j => if f = 120 ∧ i = r then (nI n) else if f = 124 ∧ i = r then (-1) else if f = 125 ∧ i = r then 111 else if f = 126 ∧ i = r then 0 else if f = 283 ∧ i = r then 0 else if f = 284 ∧ i = r then 45 else if f = 286 ∧ i = r then 0 else if f = 320 ∧ i = r then 0 else if f = 360 ∧ i = r then 0 else if f = 400 ∧ i = r then 0 else if f = 480 ∧ i = r then 0 else if f = 520 ∧ i = r then 0 else if f = 40 ∧ i = (r + 4) then 0 else if f = 42 ∧ i = (r + 4) then 0 else if f = 80 ∧ i = (r + 4) then 0 else cS c f i j, cP c, cD c)
theorem dR_A {c : cc_C} {r : Nat} {n : Nat} {a3 : Nat} {a1 : Nat} {a7 : Nat} {a8 : Nat} {a9 : Nat} {a10 : Nat} {a11 : Nat} {a12 : Nat} {a13 : Nat} {k i j : Nat} (h : ¬ ((k = 3 ∧ i = r ∧ j = 0) ∨ (k = 1 ∧ i = (r + 4) ∧ j = 0) ∨ (k = 7 ∧ i = r ∧ j = 0) ∨ (k = 8 ∧ i = r ∧ j = 0) ∨ (k = 9 ∧ i = r ∧ j = 0) ∨ (k = 10 ∧ i = r ∧ j = 0) ∨ (k = 11 ∧ i = r ∧ j = 0) ∨ (k = 12 ∧ i = r ∧ j = 0) ∨ (k = 13 ∧ i = r ∧ j = 0))) : cA (dR c r n a3 a1 a7 a8 a9 a10 a11 a12 a13) k i j = cA c k i j := by
  show (if k = 3 ∧ i = r ∧ j = 0 then a3 else if k = 1 ∧ i = (r + 4) ∧ j = 0 then a1 else if k = 7 ∧ i = r ∧ j = 0 then a7 else if k = 8 ∧ i = r ∧ j = 0 then a8 else if k = 9 ∧ i = r ∧ j = 0 then a9 else if k = 10 ∧ i = r ∧ j = 0 then a10 else if k = 11 ∧ i = r ∧ j = 0 then a11 else if k = 12 ∧ i = r ∧ j = 0 then a12 else if k = 13 ∧ i = r ∧ j = 0 then a13 else cA c k i j) = _
  rw [if_neg (fun q => h (Or.inl q)), if_neg (fun q => h (Or.inr (Or.inl q))), if_neg (fun q => h (Or.inr (Or.inr (Or.inl q)))), if_neg (fun q => h (Or.inr (Or.inr (Or.inr (Or.inl q))))), if_neg (fun q => h (Or.inr (Or.inr (Or.inr (Or.inr (Or.inl q)))))), if_neg (fun q => h (Or.inr (Or.inr (Or.inr (Or.inr (Or.inr (Or.inl q))))))), if_neg (fun q => h (Or.inr (Or.inr (Or.inr (Or.inr (Or.inr (Or.inr (Or.inl q)))))))), if_neg (fun q => h (Or.inr (Or.inr (Or.inr (Or.inr (Or.inr (Or.inr (Or.inr (Or.inl q))))))))), if_neg (fun q => h (Or.inr (Or.inr (Or.inr (Or.inr (Or.inr (Or.inr (Or.inr (Or.inr (q))))))))))]
theorem dR_S {c : cc_C} {r : Nat} {n : Nat} {a3 : Nat} {a1 : Nat} {a7 : Nat} {a8 : Nat} {a9 : Nat} {a10 : Nat} {a11 : Nat} {a12 : Nat} {a13 : Nat} {f i j : Nat} (h : ¬ ((f = 120 ∧ i = r) ∨ (f = 124 ∧ i = r) ∨ (f = 125 ∧ i = r) ∨ (f = 126 ∧ i = r) ∨ (f = 283 ∧ i = r) ∨ (f = 284 ∧ i = r) ∨ (f = 286 ∧ i = r) ∨ (f = 320 ∧ i = r) ∨ (f = 360 ∧ i = r) ∨ (f = 400 ∧ i = r) ∨ (f = 480 ∧ i = r) ∨ (f = 520 ∧ i = r) ∨ (f = 40 ∧ i = (r + 4)) ∨ (f = 42 ∧ i = (r + 4)) ∨ (f = 80 ∧ i = (r + 4)))) : cS (dR c r n a3 a1 a7 a8 a9 a10 a11 a12 a13) f i j = cS c f i j := by
  show (if f = 120 ∧ i = r then (nI n) else if f = 124 ∧ i = r then (-1) else if f = 125 ∧ i = r then 111 else if f = 126 ∧ i = r then 0 else if f = 283 ∧ i = r then 0 else if f = 284 ∧ i = r then 45 else if f = 286 ∧ i = r then 0 else if f = 320 ∧ i = r then 0 else if f = 360 ∧ i = r then 0 else if f = 400 ∧ i = r then 0 else if f = 480 ∧ i = r then 0 else if f = 520 ∧ i = r then 0 else if f = 40 ∧ i = (r + 4) then 0 else if f = 42 ∧ i = (r + 4) then 0 else if f = 80 ∧ i = (r + 4) then 0 else cS c f i j) = _
  rw [if_neg (fun q => h (Or.inl q)), if_neg (fun q => h (Or.inr (Or.inl q))), if_neg (fun q => h (Or.inr (Or.inr (Or.inl q)))), if_neg (fun q => h (Or.inr (Or.inr (Or.inr (Or.inl q))))), if_neg (fun q => h (Or.inr (Or.inr (Or.inr (Or.inr (Or.inl q)))))), if_neg (fun q => h (Or.inr (Or.inr (Or.inr (Or.inr (Or.inr (Or.inl q))))))), if_neg (fun q => h (Or.inr (Or.inr (Or.inr (Or.inr (Or.inr (Or.inr (Or.inl q)))))))), if_neg (fun q => h (Or.inr (Or.inr (Or.inr (Or.inr (Or.inr (Or.inr (Or.inr (Or.inl q))))))))), if_neg (fun q => h (Or.inr (Or.inr (Or.inr (Or.inr (Or.inr (Or.inr (Or.inr (Or.inr (Or.inl q)))))))))), if_neg (fun q => h (Or.inr (Or.inr (Or.inr (Or.inr (Or.inr (Or.inr (Or.inr (Or.inr (Or.inr (Or.inl q))))))))))), if_neg (fun q => h (Or.inr (Or.inr (Or.inr (Or.inr (Or.inr (Or.inr (Or.inr (Or.inr (Or.inr (Or.inr (Or.inl q)))))))))))), if_neg (fun q => h (Or.inr (Or.inr (Or.inr (Or.inr (Or.inr (Or.inr (Or.inr (Or.inr (Or.inr (Or.inr (Or.inr (Or.inl q))))))))))))), if_neg (fun q => h (Or.inr (Or.inr (Or.inr (Or.inr (Or.inr (Or.inr (Or.inr (Or.inr (Or.inr (Or.inr (Or.inr (Or.inr (Or.inl q)))))))))))))), if_neg (fun q => h (Or.inr (Or.inr (Or.inr (Or.inr (Or.inr (Or.inr (Or.inr (Or.inr (Or.inr (Or.inr (Or.inr (Or.inr (Or.inr (Or.inl q))))))))))))))), if_neg (fun q => h (Or.inr (Or.inr (Or.inr (Or.inr (Or.inr (Or.inr (Or.inr (Or.inr (Or.inr (Or.inr (Or.inr (Or.inr (Or.inr (Or.inr (q))))))))))))))))]
theorem dR_a3 {c : cc_C} {r : Nat} {n : Nat} {a3 : Nat} {a1 : Nat} {a7 : Nat} {a8 : Nat} {a9 : Nat} {a10 : Nat} {a11 : Nat} {a12 : Nat} {a13 : Nat} : cA (dR c r n a3 a1 a7 a8 a9 a10 a11 a12 a13) 3 r 0 = a3 := by
  show (if 3 = 3 ∧ r = r ∧ 0 = 0 then a3 else if 3 = 1 ∧ r = (r + 4) ∧ 0 = 0 then a1 else if 3 = 7 ∧ r = r ∧ 0 = 0 then a7 else if 3 = 8 ∧ r = r ∧ 0 = 0 then a8 else if 3 = 9 ∧ r = r ∧ 0 = 0 then a9 else if 3 = 10 ∧ r = r ∧ 0 = 0 then a10 else if 3 = 11 ∧ r = r ∧ 0 = 0 then a11 else if 3 = 12 ∧ r = r ∧ 0 = 0 then a12 else if 3 = 13 ∧ r = r ∧ 0 = 0 then a13 else cA c 3 r 0) = _
  rw [if_pos ⟨rfl, rfl, rfl⟩]
theorem dR_a1 {c : cc_C} {r : Nat} {n : Nat} {a3 : Nat} {a1 : Nat} {a7 : Nat} {a8 : Nat} {a9 : Nat} {a10 : Nat} {a11 : Nat} {a12 : Nat} {a13 : Nat} : cA (dR c r n a3 a1 a7 a8 a9 a10 a11 a12 a13) 1 (r + 4) 0 = a1 := by
  show (if 1 = 3 ∧ (r + 4) = r ∧ 0 = 0 then a3 else if 1 = 1 ∧ (r + 4) = (r + 4) ∧ 0 = 0 then a1 else if 1 = 7 ∧ (r + 4) = r ∧ 0 = 0 then a7 else if 1 = 8 ∧ (r + 4) = r ∧ 0 = 0 then a8 else if 1 = 9 ∧ (r + 4) = r ∧ 0 = 0 then a9 else if 1 = 10 ∧ (r + 4) = r ∧ 0 = 0 then a10 else if 1 = 11 ∧ (r + 4) = r ∧ 0 = 0 then a11 else if 1 = 12 ∧ (r + 4) = r ∧ 0 = 0 then a12 else if 1 = 13 ∧ (r + 4) = r ∧ 0 = 0 then a13 else cA c 1 (r + 4) 0) = _
  rw [if_neg (by omega), if_pos ⟨rfl, rfl, rfl⟩]
theorem dR_a7 {c : cc_C} {r : Nat} {n : Nat} {a3 : Nat} {a1 : Nat} {a7 : Nat} {a8 : Nat} {a9 : Nat} {a10 : Nat} {a11 : Nat} {a12 : Nat} {a13 : Nat} : cA (dR c r n a3 a1 a7 a8 a9 a10 a11 a12 a13) 7 r 0 = a7 := by
  show (if 7 = 3 ∧ r = r ∧ 0 = 0 then a3 else if 7 = 1 ∧ r = (r + 4) ∧ 0 = 0 then a1 else if 7 = 7 ∧ r = r ∧ 0 = 0 then a7 else if 7 = 8 ∧ r = r ∧ 0 = 0 then a8 else if 7 = 9 ∧ r = r ∧ 0 = 0 then a9 else if 7 = 10 ∧ r = r ∧ 0 = 0 then a10 else if 7 = 11 ∧ r = r ∧ 0 = 0 then a11 else if 7 = 12 ∧ r = r ∧ 0 = 0 then a12 else if 7 = 13 ∧ r = r ∧ 0 = 0 then a13 else cA c 7 r 0) = _
  rw [if_neg (by omega), if_neg (by omega), if_pos ⟨rfl, rfl, rfl⟩]
theorem dR_a8 {c : cc_C} {r : Nat} {n : Nat} {a3 : Nat} {a1 : Nat} {a7 : Nat} {a8 : Nat} {a9 : Nat} {a10 : Nat} {a11 : Nat} {a12 : Nat} {a13 : Nat} : cA (dR c r n a3 a1 a7 a8 a9 a10 a11 a12 a13) 8 r 0 = a8 := by
  show (if 8 = 3 ∧ r = r ∧ 0 = 0 then a3 else if 8 = 1 ∧ r = (r + 4) ∧ 0 = 0 then a1 else if 8 = 7 ∧ r = r ∧ 0 = 0 then a7 else if 8 = 8 ∧ r = r ∧ 0 = 0 then a8 else if 8 = 9 ∧ r = r ∧ 0 = 0 then a9 else if 8 = 10 ∧ r = r ∧ 0 = 0 then a10 else if 8 = 11 ∧ r = r ∧ 0 = 0 then a11 else if 8 = 12 ∧ r = r ∧ 0 = 0 then a12 else if 8 = 13 ∧ r = r ∧ 0 = 0 then a13 else cA c 8 r 0) = _
  rw [if_neg (by omega), if_neg (by omega), if_neg (by omega), if_pos ⟨rfl, rfl, rfl⟩]
theorem dR_a9 {c : cc_C} {r : Nat} {n : Nat} {a3 : Nat} {a1 : Nat} {a7 : Nat} {a8 : Nat} {a9 : Nat} {a10 : Nat} {a11 : Nat} {a12 : Nat} {a13 : Nat} : cA (dR c r n a3 a1 a7 a8 a9 a10 a11 a12 a13) 9 r 0 = a9 := by
  show (if 9 = 3 ∧ r = r ∧ 0 = 0 then a3 else if 9 = 1 ∧ r = (r + 4) ∧ 0 = 0 then a1 else if 9 = 7 ∧ r = r ∧ 0 = 0 then a7 else if 9 = 8 ∧ r = r ∧ 0 = 0 then a8 else if 9 = 9 ∧ r = r ∧ 0 = 0 then a9 else if 9 = 10 ∧ r = r ∧ 0 = 0 then a10 else if 9 = 11 ∧ r = r ∧ 0 = 0 then a11 else if 9 = 12 ∧ r = r ∧ 0 = 0 then a12 else if 9 = 13 ∧ r = r ∧ 0 = 0 then a13 else cA c 9 r 0) = _
  rw [if_neg (by omega), if_neg (by omega), if_neg (by omega), if_neg (by omega), if_pos ⟨rfl, rfl, rfl⟩]
theorem dR_a10 {c : cc_C} {r : Nat} {n : Nat} {a3 : Nat} {a1 : Nat} {a7 : Nat} {a8 : Nat} {a9 : Nat} {a10 : Nat} {a11 : Nat} {a12 : Nat} {a13 : Nat} : cA (dR c r n a3 a1 a7 a8 a9 a10 a11 a12 a13) 10 r 0 = a10 := by
  show (if 10 = 3 ∧ r = r ∧ 0 = 0 then a3 else if 10 = 1 ∧ r = (r + 4) ∧ 0 = 0 then a1 else if 10 = 7 ∧ r = r ∧ 0 = 0 then a7 else if 10 = 8 ∧ r = r ∧ 0 = 0 then a8 else if 10 = 9 ∧ r = r ∧ 0 = 0 then a9 else if 10 = 10 ∧ r = r ∧ 0 = 0 then a10 else if 10 = 11 ∧ r = r ∧ 0 = 0 then a11 else if 10 = 12 ∧ r = r ∧ 0 = 0 then a12 else if 10 = 13 ∧ r = r ∧ 0 = 0 then a13 else cA c 10 r 0) = _
  rw [if_neg (by omega), if_neg (by omega), if_neg (by omega), if_neg (by omega), if_neg (by omega), if_pos ⟨rfl, rfl, rfl⟩]
theorem dR_a11 {c : cc_C} {r : Nat} {n : Nat} {a3 : Nat} {a1 : Nat} {a7 : Nat} {a8 : Nat} {a9 : Nat} {a10 : Nat} {a11 : Nat} {a12 : Nat} {a13 : Nat} : cA (dR c r n a3 a1 a7 a8 a9 a10 a11 a12 a13) 11 r 0 = a11 := by
  show (if 11 = 3 ∧ r = r ∧ 0 = 0 then a3 else if 11 = 1 ∧ r = (r + 4) ∧ 0 = 0 then a1 else if 11 = 7 ∧ r = r ∧ 0 = 0 then a7 else if 11 = 8 ∧ r = r ∧ 0 = 0 then a8 else if 11 = 9 ∧ r = r ∧ 0 = 0 then a9 else if 11 = 10 ∧ r = r ∧ 0 = 0 then a10 else if 11 = 11 ∧ r = r ∧ 0 = 0 then a11 else if 11 = 12 ∧ r = r ∧ 0 = 0 then a12 else if 11 = 13 ∧ r = r ∧ 0 = 0 then a13 else cA c 11 r 0) = _
  rw [if_neg (by omega), if_neg (by omega), if_neg (by omega), if_neg (by omega), if_neg (by omega), if_neg (by omega), if_pos ⟨rfl, rfl, rfl⟩]
theorem dR_a12 {c : cc_C} {r : Nat} {n : Nat} {a3 : Nat} {a1 : Nat} {a7 : Nat} {a8 : Nat} {a9 : Nat} {a10 : Nat} {a11 : Nat} {a12 : Nat} {a13 : Nat} : cA (dR c r n a3 a1 a7 a8 a9 a10 a11 a12 a13) 12 r 0 = a12 := by
  show (if 12 = 3 ∧ r = r ∧ 0 = 0 then a3 else if 12 = 1 ∧ r = (r + 4) ∧ 0 = 0 then a1 else if 12 = 7 ∧ r = r ∧ 0 = 0 then a7 else if 12 = 8 ∧ r = r ∧ 0 = 0 then a8 else if 12 = 9 ∧ r = r ∧ 0 = 0 then a9 else if 12 = 10 ∧ r = r ∧ 0 = 0 then a10 else if 12 = 11 ∧ r = r ∧ 0 = 0 then a11 else if 12 = 12 ∧ r = r ∧ 0 = 0 then a12 else if 12 = 13 ∧ r = r ∧ 0 = 0 then a13 else cA c 12 r 0) = _
  rw [if_neg (by omega), if_neg (by omega), if_neg (by omega), if_neg (by omega), if_neg (by omega), if_neg (by omega), if_neg (by omega), if_pos ⟨rfl, rfl, rfl⟩]
theorem dR_a13 {c : cc_C} {r : Nat} {n : Nat} {a3 : Nat} {a1 : Nat} {a7 : Nat} {a8 : Nat} {a9 : Nat} {a10 : Nat} {a11 : Nat} {a12 : Nat} {a13 : Nat} : cA (dR c r n a3 a1 a7 a8 a9 a10 a11 a12 a13) 13 r 0 = a13 := by
  show (if 13 = 3 ∧ r = r ∧ 0 = 0 then a3 else if 13 = 1 ∧ r = (r + 4) ∧ 0 = 0 then a1 else if 13 = 7 ∧ r = r ∧ 0 = 0 then a7 else if 13 = 8 ∧ r = r ∧ 0 = 0 then a8 else if 13 = 9 ∧ r = r ∧ 0 = 0 then a9 else if 13 = 10 ∧ r = r ∧ 0 = 0 then a10 else if 13 = 11 ∧ r = r ∧ 0 = 0 then a11 else if 13 = 12 ∧ r = r ∧ 0 = 0 then a12 else if 13 = 13 ∧ r = r ∧ 0 = 0 then a13 else cA c 13 r 0) = _
  rw [if_neg (by omega), if_neg (by omega), if_neg (by omega), if_neg (by omega), if_neg (by omega), if_neg (by omega), if_neg (by omega), if_neg (by omega), if_pos ⟨rfl, rfl, rfl⟩]
theorem dR_s120 {c : cc_C} {r : Nat} {n : Nat} {a3 : Nat} {a1 : Nat} {a7 : Nat} {a8 : Nat} {a9 : Nat} {a10 : Nat} {a11 : Nat} {a12 : Nat} {a13 : Nat} {j : Nat} : cS (dR c r n a3 a1 a7 a8 a9 a10 a11 a12 a13) 120 r j = (nI n) := by
  show (if 120 = 120 ∧ r = r then (nI n) else if 120 = 124 ∧ r = r then (-1) else if 120 = 125 ∧ r = r then 111 else if 120 = 126 ∧ r = r then 0 else if 120 = 283 ∧ r = r then 0 else if 120 = 284 ∧ r = r then 45 else if 120 = 286 ∧ r = r then 0 else if 120 = 320 ∧ r = r then 0 else if 120 = 360 ∧ r = r then 0 else if 120 = 400 ∧ r = r then 0 else if 120 = 480 ∧ r = r then 0 else if 120 = 520 ∧ r = r then 0 else if 120 = 40 ∧ r = (r + 4) then 0 else if 120 = 42 ∧ r = (r + 4) then 0 else if 120 = 80 ∧ r = (r + 4) then 0 else cS c 120 r j) = _
  rw [if_pos ⟨rfl, rfl⟩]
theorem dR_s124 {c : cc_C} {r : Nat} {n : Nat} {a3 : Nat} {a1 : Nat} {a7 : Nat} {a8 : Nat} {a9 : Nat} {a10 : Nat} {a11 : Nat} {a12 : Nat} {a13 : Nat} {j : Nat} : cS (dR c r n a3 a1 a7 a8 a9 a10 a11 a12 a13) 124 r j = (-1) := by
  show (if 124 = 120 ∧ r = r then (nI n) else if 124 = 124 ∧ r = r then (-1) else if 124 = 125 ∧ r = r then 111 else if 124 = 126 ∧ r = r then 0 else if 124 = 283 ∧ r = r then 0 else if 124 = 284 ∧ r = r then 45 else if 124 = 286 ∧ r = r then 0 else if 124 = 320 ∧ r = r then 0 else if 124 = 360 ∧ r = r then 0 else if 124 = 400 ∧ r = r then 0 else if 124 = 480 ∧ r = r then 0 else if 124 = 520 ∧ r = r then 0 else if 124 = 40 ∧ r = (r + 4) then 0 else if 124 = 42 ∧ r = (r + 4) then 0 else if 124 = 80 ∧ r = (r + 4) then 0 else cS c 124 r j) = _
  rw [if_neg (by omega), if_pos ⟨rfl, rfl⟩]
theorem dR_s125 {c : cc_C} {r : Nat} {n : Nat} {a3 : Nat} {a1 : Nat} {a7 : Nat} {a8 : Nat} {a9 : Nat} {a10 : Nat} {a11 : Nat} {a12 : Nat} {a13 : Nat} {j : Nat} : cS (dR c r n a3 a1 a7 a8 a9 a10 a11 a12 a13) 125 r j = 111 := by
  show (if 125 = 120 ∧ r = r then (nI n) else if 125 = 124 ∧ r = r then (-1) else if 125 = 125 ∧ r = r then 111 else if 125 = 126 ∧ r = r then 0 else if 125 = 283 ∧ r = r then 0 else if 125 = 284 ∧ r = r then 45 else if 125 = 286 ∧ r = r then 0 else if 125 = 320 ∧ r = r then 0 else if 125 = 360 ∧ r = r then 0 else if 125 = 400 ∧ r = r then 0 else if 125 = 480 ∧ r = r then 0 else if 125 = 520 ∧ r = r then 0 else if 125 = 40 ∧ r = (r + 4) then 0 else if 125 = 42 ∧ r = (r + 4) then 0 else if 125 = 80 ∧ r = (r + 4) then 0 else cS c 125 r j) = _
  rw [if_neg (by omega), if_neg (by omega), if_pos ⟨rfl, rfl⟩]
theorem dR_s126 {c : cc_C} {r : Nat} {n : Nat} {a3 : Nat} {a1 : Nat} {a7 : Nat} {a8 : Nat} {a9 : Nat} {a10 : Nat} {a11 : Nat} {a12 : Nat} {a13 : Nat} {j : Nat} : cS (dR c r n a3 a1 a7 a8 a9 a10 a11 a12 a13) 126 r j = 0 := by
  show (if 126 = 120 ∧ r = r then (nI n) else if 126 = 124 ∧ r = r then (-1) else if 126 = 125 ∧ r = r then 111 else if 126 = 126 ∧ r = r then 0 else if 126 = 283 ∧ r = r then 0 else if 126 = 284 ∧ r = r then 45 else if 126 = 286 ∧ r = r then 0 else if 126 = 320 ∧ r = r then 0 else if 126 = 360 ∧ r = r then 0 else if 126 = 400 ∧ r = r then 0 else if 126 = 480 ∧ r = r then 0 else if 126 = 520 ∧ r = r then 0 else if 126 = 40 ∧ r = (r + 4) then 0 else if 126 = 42 ∧ r = (r + 4) then 0 else if 126 = 80 ∧ r = (r + 4) then 0 else cS c 126 r j) = _
  rw [if_neg (by omega), if_neg (by omega), if_neg (by omega), if_pos ⟨rfl, rfl⟩]
theorem dR_s283 {c : cc_C} {r : Nat} {n : Nat} {a3 : Nat} {a1 : Nat} {a7 : Nat} {a8 : Nat} {a9 : Nat} {a10 : Nat} {a11 : Nat} {a12 : Nat} {a13 : Nat} {j : Nat} : cS (dR c r n a3 a1 a7 a8 a9 a10 a11 a12 a13) 283 r j = 0 := by
  show (if 283 = 120 ∧ r = r then (nI n) else if 283 = 124 ∧ r = r then (-1) else if 283 = 125 ∧ r = r then 111 else if 283 = 126 ∧ r = r then 0 else if 283 = 283 ∧ r = r then 0 else if 283 = 284 ∧ r = r then 45 else if 283 = 286 ∧ r = r then 0 else if 283 = 320 ∧ r = r then 0 else if 283 = 360 ∧ r = r then 0 else if 283 = 400 ∧ r = r then 0 else if 283 = 480 ∧ r = r then 0 else if 283 = 520 ∧ r = r then 0 else if 283 = 40 ∧ r = (r + 4) then 0 else if 283 = 42 ∧ r = (r + 4) then 0 else if 283 = 80 ∧ r = (r + 4) then 0 else cS c 283 r j) = _
  rw [if_neg (by omega), if_neg (by omega), if_neg (by omega), if_neg (by omega), if_pos ⟨rfl, rfl⟩]
theorem dR_s284 {c : cc_C} {r : Nat} {n : Nat} {a3 : Nat} {a1 : Nat} {a7 : Nat} {a8 : Nat} {a9 : Nat} {a10 : Nat} {a11 : Nat} {a12 : Nat} {a13 : Nat} {j : Nat} : cS (dR c r n a3 a1 a7 a8 a9 a10 a11 a12 a13) 284 r j = 45 := by
  show (if 284 = 120 ∧ r = r then (nI n) else if 284 = 124 ∧ r = r then (-1) else if 284 = 125 ∧ r = r then 111 else if 284 = 126 ∧ r = r then 0 else if 284 = 283 ∧ r = r then 0 else if 284 = 284 ∧ r = r then 45 else if 284 = 286 ∧ r = r then 0 else if 284 = 320 ∧ r = r then 0 else if 284 = 360 ∧ r = r then 0 else if 284 = 400 ∧ r = r then 0 else if 284 = 480 ∧ r = r then 0 else if 284 = 520 ∧ r = r then 0 else if 284 = 40 ∧ r = (r + 4) then 0 else if 284 = 42 ∧ r = (r + 4) then 0 else if 284 = 80 ∧ r = (r + 4) then 0 else cS c 284 r j) = _
  rw [if_neg (by omega), if_neg (by omega), if_neg (by omega), if_neg (by omega), if_neg (by omega), if_pos ⟨rfl, rfl⟩]
theorem dR_s286 {c : cc_C} {r : Nat} {n : Nat} {a3 : Nat} {a1 : Nat} {a7 : Nat} {a8 : Nat} {a9 : Nat} {a10 : Nat} {a11 : Nat} {a12 : Nat} {a13 : Nat} {j : Nat} : cS (dR c r n a3 a1 a7 a8 a9 a10 a11 a12 a13) 286 r j = 0 := by
  show (if 286 = 120 ∧ r = r then (nI n) else if 286 = 124 ∧ r = r then (-1) else if 286 = 125 ∧ r = r then 111 else if 286 = 126 ∧ r = r then 0 else if 286 = 283 ∧ r = r then 0 else if 286 = 284 ∧ r = r then 45 else if 286 = 286 ∧ r = r then 0 else if 286 = 320 ∧ r = r then 0 else if 286 = 360 ∧ r = r then 0 else if 286 = 400 ∧ r = r then 0 else if 286 = 480 ∧ r = r then 0 else if 286 = 520 ∧ r = r then 0 else if 286 = 40 ∧ r = (r + 4) then 0 else if 286 = 42 ∧ r = (r + 4) then 0 else if 286 = 80 ∧ r = (r + 4) then 0 else cS c 286 r j) = _
  rw [if_neg (by omega), if_neg (by omega), if_neg (by omega), if_neg (by omega), if_neg (by omega), if_neg (by omega), if_pos ⟨rfl, rfl⟩]
theorem dR_s320 {c : cc_C} {r : Nat} {n : Nat} {a3 : Nat} {a1 : Nat} {a7 : Nat} {a8 : Nat} {a9 : Nat} {a10 : Nat} {a11 : Nat} {a12 : Nat} {a13 : Nat} {j : Nat} : cS (dR c r n a3 a1 a7 a8 a9 a10 a11 a12 a13) 320 r j = 0 := by
  show (if 320 = 120 ∧ r = r then (nI n) else if 320 = 124 ∧ r = r then (-1) else if 320 = 125 ∧ r = r then 111 else if 320 = 126 ∧ r = r then 0 else if 320 = 283 ∧ r = r then 0 else if 320 = 284 ∧ r = r then 45 else if 320 = 286 ∧ r = r then 0 else if 320 = 320 ∧ r = r then 0 else if 320 = 360 ∧ r = r then 0 else if 320 = 400 ∧ r = r then 0 else if 320 = 480 ∧ r = r then 0 else if 320 = 520 ∧ r = r then 0 else if 320 = 40 ∧ r = (r + 4) then 0 else if 320 = 42 ∧ r = (r + 4) then 0 else if 320 = 80 ∧ r = (r + 4) then 0 else cS c 320 r j) = _
  rw [if_neg (by omega), if_neg (by omega), if_neg (by omega), if_neg (by omega), if_neg (by omega), if_neg (by omega), if_neg (by omega), if_pos ⟨rfl, rfl⟩]
theorem dR_s360 {c : cc_C} {r : Nat} {n : Nat} {a3 : Nat} {a1 : Nat} {a7 : Nat} {a8 : Nat} {a9 : Nat} {a10 : Nat} {a11 : Nat} {a12 : Nat} {a13 : Nat} {j : Nat} : cS (dR c r n a3 a1 a7 a8 a9 a10 a11 a12 a13) 360 r j = 0 := by
  show (if 360 = 120 ∧ r = r then (nI n) else if 360 = 124 ∧ r = r then (-1) else if 360 = 125 ∧ r = r then 111 else if 360 = 126 ∧ r = r then 0 else if 360 = 283 ∧ r = r then 0 else if 360 = 284 ∧ r = r then 45 else if 360 = 286 ∧ r = r then 0 else if 360 = 320 ∧ r = r then 0 else if 360 = 360 ∧ r = r then 0 else if 360 = 400 ∧ r = r then 0 else if 360 = 480 ∧ r = r then 0 else if 360 = 520 ∧ r = r then 0 else if 360 = 40 ∧ r = (r + 4) then 0 else if 360 = 42 ∧ r = (r + 4) then 0 else if 360 = 80 ∧ r = (r + 4) then 0 else cS c 360 r j) = _
  rw [if_neg (by omega), if_neg (by omega), if_neg (by omega), if_neg (by omega), if_neg (by omega), if_neg (by omega), if_neg (by omega), if_neg (by omega), if_pos ⟨rfl, rfl⟩]
theorem dR_s400 {c : cc_C} {r : Nat} {n : Nat} {a3 : Nat} {a1 : Nat} {a7 : Nat} {a8 : Nat} {a9 : Nat} {a10 : Nat} {a11 : Nat} {a12 : Nat} {a13 : Nat} {j : Nat} : cS (dR c r n a3 a1 a7 a8 a9 a10 a11 a12 a13) 400 r j = 0 := by
  show (if 400 = 120 ∧ r = r then (nI n) else if 400 = 124 ∧ r = r then (-1) else if 400 = 125 ∧ r = r then 111 else if 400 = 126 ∧ r = r then 0 else if 400 = 283 ∧ r = r then 0 else if 400 = 284 ∧ r = r then 45 else if 400 = 286 ∧ r = r then 0 else if 400 = 320 ∧ r = r then 0 else if 400 = 360 ∧ r = r then 0 else if 400 = 400 ∧ r = r then 0 else if 400 = 480 ∧ r = r then 0 else if 400 = 520 ∧ r = r then 0 else if 400 = 40 ∧ r = (r + 4) then 0 else if 400 = 42 ∧ r = (r + 4) then 0 else if 400 = 80 ∧ r = (r + 4) then 0 else cS c 400 r j) = _
  rw [if_neg (by omega), if_neg (by omega), if_neg (by omega), if_neg (by omega), if_neg (by omega), if_neg (by omega), if_neg (by omega), if_neg (by omega), if_neg (by omega), if_pos ⟨rfl, rfl⟩]
theorem dR_s480 {c : cc_C} {r : Nat} {n : Nat} {a3 : Nat} {a1 : Nat} {a7 : Nat} {a8 : Nat} {a9 : Nat} {a10 : Nat} {a11 : Nat} {a12 : Nat} {a13 : Nat} {j : Nat} : cS (dR c r n a3 a1 a7 a8 a9 a10 a11 a12 a13) 480 r j = 0 := by
  show (if 480 = 120 ∧ r = r then (nI n) else if 480 = 124 ∧ r = r then (-1) else if 480 = 125 ∧ r = r then 111 else if 480 = 126 ∧ r = r then 0 else if 480 = 283 ∧ r = r then 0 else if 480 = 284 ∧ r = r then 45 else if 480 = 286 ∧ r = r then 0 else if 480 = 320 ∧ r = r then 0 else if 480 = 360 ∧ r = r then 0 else if 480 = 400 ∧ r = r then 0 else if 480 = 480 ∧ r = r then 0 else if 480 = 520 ∧ r = r then 0 else if 480 = 40 ∧ r = (r + 4) then 0 else if 480 = 42 ∧ r = (r + 4) then 0 else if 480 = 80 ∧ r = (r + 4) then 0 else cS c 480 r j) = _
  rw [if_neg (by omega), if_neg (by omega), if_neg (by omega), if_neg (by omega), if_neg (by omega), if_neg (by omega), if_neg (by omega), if_neg (by omega), if_neg (by omega), if_neg (by omega), if_pos ⟨rfl, rfl⟩]
theorem dR_s520 {c : cc_C} {r : Nat} {n : Nat} {a3 : Nat} {a1 : Nat} {a7 : Nat} {a8 : Nat} {a9 : Nat} {a10 : Nat} {a11 : Nat} {a12 : Nat} {a13 : Nat} {j : Nat} : cS (dR c r n a3 a1 a7 a8 a9 a10 a11 a12 a13) 520 r j = 0 := by
  show (if 520 = 120 ∧ r = r then (nI n) else if 520 = 124 ∧ r = r then (-1) else if 520 = 125 ∧ r = r then 111 else if 520 = 126 ∧ r = r then 0 else if 520 = 283 ∧ r = r then 0 else if 520 = 284 ∧ r = r then 45 else if 520 = 286 ∧ r = r then 0 else if 520 = 320 ∧ r = r then 0 else if 520 = 360 ∧ r = r then 0 else if 520 = 400 ∧ r = r then 0 else if 520 = 480 ∧ r = r then 0 else if 520 = 520 ∧ r = r then 0 else if 520 = 40 ∧ r = (r + 4) then 0 else if 520 = 42 ∧ r = (r + 4) then 0 else if 520 = 80 ∧ r = (r + 4) then 0 else cS c 520 r j) = _
  rw [if_neg (by omega), if_neg (by omega), if_neg (by omega), if_neg (by omega), if_neg (by omega), if_neg (by omega), if_neg (by omega), if_neg (by omega), if_neg (by omega), if_neg (by omega), if_neg (by omega), if_pos ⟨rfl, rfl⟩]
theorem dR_s40 {c : cc_C} {r : Nat} {n : Nat} {a3 : Nat} {a1 : Nat} {a7 : Nat} {a8 : Nat} {a9 : Nat} {a10 : Nat} {a11 : Nat} {a12 : Nat} {a13 : Nat} {j : Nat} : cS (dR c r n a3 a1 a7 a8 a9 a10 a11 a12 a13) 40 (r + 4) j = 0 := by
  show (if 40 = 120 ∧ (r + 4) = r then (nI n) else if 40 = 124 ∧ (r + 4) = r then (-1) else if 40 = 125 ∧ (r + 4) = r then 111 else if 40 = 126 ∧ (r + 4) = r then 0 else if 40 = 283 ∧ (r + 4) = r then 0 else if 40 = 284 ∧ (r + 4) = r then 45 else if 40 = 286 ∧ (r + 4) = r then 0 else if 40 = 320 ∧ (r + 4) = r then 0 else if 40 = 360 ∧ (r + 4) = r then 0 else if 40 = 400 ∧ (r + 4) = r then 0 else if 40 = 480 ∧ (r + 4) = r then 0 else if 40 = 520 ∧ (r + 4) = r then 0 else if 40 = 40 ∧ (r + 4) = (r + 4) then 0 else if 40 = 42 ∧ (r + 4) = (r + 4) then 0 else if 40 = 80 ∧ (r + 4) = (r + 4) then 0 else cS c 40 (r + 4) j) = _
  rw [if_neg (by omega), if_neg (by omega), if_neg (by omega), if_neg (by omega), if_neg (by omega), if_neg (by omega), if_neg (by omega), if_neg (by omega), if_neg (by omega), if_neg (by omega), if_neg (by omega), if_neg (by omega), if_pos ⟨rfl, rfl⟩]
theorem dR_s42 {c : cc_C} {r : Nat} {n : Nat} {a3 : Nat} {a1 : Nat} {a7 : Nat} {a8 : Nat} {a9 : Nat} {a10 : Nat} {a11 : Nat} {a12 : Nat} {a13 : Nat} {j : Nat} : cS (dR c r n a3 a1 a7 a8 a9 a10 a11 a12 a13) 42 (r + 4) j = 0 := by
  show (if 42 = 120 ∧ (r + 4) = r then (nI n) else if 42 = 124 ∧ (r + 4) = r then (-1) else if 42 = 125 ∧ (r + 4) = r then 111 else if 42 = 126 ∧ (r + 4) = r then 0 else if 42 = 283 ∧ (r + 4) = r then 0 else if 42 = 284 ∧ (r + 4) = r then 45 else if 42 = 286 ∧ (r + 4) = r then 0 else if 42 = 320 ∧ (r + 4) = r then 0 else if 42 = 360 ∧ (r + 4) = r then 0 else if 42 = 400 ∧ (r + 4) = r then 0 else if 42 = 480 ∧ (r + 4) = r then 0 else if 42 = 520 ∧ (r + 4) = r then 0 else if 42 = 40 ∧ (r + 4) = (r + 4) then 0 else if 42 = 42 ∧ (r + 4) = (r + 4) then 0 else if 42 = 80 ∧ (r + 4) = (r + 4) then 0 else cS c 42 (r + 4) j) = _
  rw [if_neg (by omega), if_neg (by omega), if_neg (by omega), if_neg (by omega), if_neg (by omega), if_neg (by omega), if_neg (by omega), if_neg (by omega), if_neg (by omega), if_neg (by omega), if_neg (by omega), if_neg (by omega), if_neg (by omega), if_pos ⟨rfl, rfl⟩]
theorem dR_s80 {c : cc_C} {r : Nat} {n : Nat} {a3 : Nat} {a1 : Nat} {a7 : Nat} {a8 : Nat} {a9 : Nat} {a10 : Nat} {a11 : Nat} {a12 : Nat} {a13 : Nat} {j : Nat} : cS (dR c r n a3 a1 a7 a8 a9 a10 a11 a12 a13) 80 (r + 4) j = 0 := by
  show (if 80 = 120 ∧ (r + 4) = r then (nI n) else if 80 = 124 ∧ (r + 4) = r then (-1) else if 80 = 125 ∧ (r + 4) = r then 111 else if 80 = 126 ∧ (r + 4) = r then 0 else if 80 = 283 ∧ (r + 4) = r then 0 else if 80 = 284 ∧ (r + 4) = r then 45 else if 80 = 286 ∧ (r + 4) = r then 0 else if 80 = 320 ∧ (r + 4) = r then 0 else if 80 = 360 ∧ (r + 4) = r then 0 else if 80 = 400 ∧ (r + 4) = r then 0 else if 80 = 480 ∧ (r + 4) = r then 0 else if 80 = 520 ∧ (r + 4) = r then 0 else if 80 = 40 ∧ (r + 4) = (r + 4) then 0 else if 80 = 42 ∧ (r + 4) = (r + 4) then 0 else if 80 = 80 ∧ (r + 4) = (r + 4) then 0 else cS c 80 (r + 4) j) = _
  rw [if_neg (by omega), if_neg (by omega), if_neg (by omega), if_neg (by omega), if_neg (by omega), if_neg (by omega), if_neg (by omega), if_neg (by omega), if_neg (by omega), if_neg (by omega), if_neg (by omega), if_neg (by omega), if_neg (by omega), if_neg (by omega), if_pos ⟨rfl, rfl⟩]
theorem dR_le {c : cc_C} {r : Nat} {n : Nat} {a3 : Nat} {a1 : Nat} {a7 : Nat} {a8 : Nat} {a9 : Nat} {a10 : Nat} {a11 : Nat} {a12 : Nat} {a13 : Nat} (w3 : ¬ cV c 3 r 0) (w1 : ¬ cV c 1 (r + 4) 0) (w7 : ¬ cV c 7 r 0) (w8 : ¬ cV c 8 r 0) (w9 : ¬ cV c 9 r 0) (w10 : ¬ cV c 10 r 0) (w11 : ¬ cV c 11 r 0) (w12 : ¬ cV c 12 r 0) (w13 : ¬ cV c 13 r 0) : cle c (dR c r n a3 a1 a7 a8 a9 a10 a11 a12 a13) := fun k i j _ hv => ⟨Or.inl hv, dR_A fun e => by
  rcases e with ⟨rfl, rfl, rfl⟩ | ⟨rfl, rfl, rfl⟩ | ⟨rfl, rfl, rfl⟩ | ⟨rfl, rfl, rfl⟩ | ⟨rfl, rfl, rfl⟩ | ⟨rfl, rfl, rfl⟩ | ⟨rfl, rfl, rfl⟩ | ⟨rfl, rfl, rfl⟩ | ⟨rfl, rfl, rfl⟩
  · exact w3 hv
  · exact w1 hv
  · exact w7 hv
  · exact w8 hv
  · exact w9 hv
  · exact w10 hv
  · exact w11 hv
  · exact w12 hv
  · exact w13 hv⟩
theorem CC_dR {g : Nat → Nat} {L L' : List Nat} {h h' : ab_H} {c : cc_C} {r : Nat} {n : Nat} {a3 : Nat} {a1 : Nat} {a7 : Nat} {a8 : Nat} {a9 : Nat} {a10 : Nat} {a11 : Nat} {a12 : Nat} {a13 : Nat} (cc : CC g c L h) (hL : ∀ b, b ∈ L → b ∈ L') (hh : ∀ b, b ∈ L → h' b = h b) (n0 : a3 ∉ L) (m0 : a3 ∈ L') (k0 : h' a3 = ct3 g (dR c r n a3 a1 a7 a8 a9 a10 a11 a12 a13) r 0) (n1 : a1 ∉ L) (m1 : a1 ∈ L') (k1 : h' a1 = ct1 g (dR c r n a3 a1 a7 a8 a9 a10 a11 a12 a13) (r + 4) 0) (n2 : a7 ∉ L) (m2 : a7 ∈ L') (k2 : h' a7 = ct7 g (dR c r n a3 a1 a7 a8 a9 a10 a11 a12 a13) r 0) (n3 : a8 ∉ L) (m3 : a8 ∈ L') (k3 : h' a8 = ct8 g (dR c r n a3 a1 a7 a8 a9 a10 a11 a12 a13) r 0) (n4 : a9 ∉ L) (m4 : a9 ∈ L') (k4 : h' a9 = ct9 g (dR c r n a3 a1 a7 a8 a9 a10 a11 a12 a13) r 0) (n5 : a10 ∉ L) (m5 : a10 ∈ L') (k5 : h' a10 = ct10 g (dR c r n a3 a1 a7 a8 a9 a10 a11 a12 a13) r 0) (n6 : a11 ∉ L) (m6 : a11 ∈ L') (k6 : h' a11 = ct11 g (dR c r n a3 a1 a7 a8 a9 a10 a11 a12 a13) r 0) (n7 : a12 ∉ L) (m7 : a12 ∈ L') (k7 : h' a12 = ct12 g (dR c r n a3 a1 a7 a8 a9 a10 a11 a12 a13) r 0) (n8 : a13 ∉ L) (m8 : a13 ∈ L') (k8 : h' a13 = ct13 g (dR c r n a3 a1 a7 a8 a9 a10 a11 a12 a13) r 0) (e0_1 : a3 ≠ a1) (e0_2 : a3 ≠ a7) (e0_3 : a3 ≠ a8) (e0_4 : a3 ≠ a9) (e0_5 : a3 ≠ a10) (e0_6 : a3 ≠ a11) (e0_7 : a3 ≠ a12) (e0_8 : a3 ≠ a13) (e1_2 : a1 ≠ a7) (e1_3 : a1 ≠ a8) (e1_4 : a1 ≠ a9) (e1_5 : a1 ≠ a10) (e1_6 : a1 ≠ a11) (e1_7 : a1 ≠ a12) (e1_8 : a1 ≠ a13) (e2_3 : a7 ≠ a8) (e2_4 : a7 ≠ a9) (e2_5 : a7 ≠ a10) (e2_6 : a7 ≠ a11) (e2_7 : a7 ≠ a12) (e2_8 : a7 ≠ a13) (e3_4 : a8 ≠ a9) (e3_5 : a8 ≠ a10) (e3_6 : a8 ≠ a11) (e3_7 : a8 ≠ a12) (e3_8 : a8 ≠ a13) (e4_5 : a9 ≠ a10) (e4_6 : a9 ≠ a11) (e4_7 : a9 ≠ a12) (e4_8 : a9 ≠ a13) (e5_6 : a10 ≠ a11) (e5_7 : a10 ≠ a12) (e5_8 : a10 ≠ a13) (e6_7 : a11 ≠ a12) (e6_8 : a11 ≠ a13) (e7_8 : a12 ≠ a13) (w3 : ¬ cV c 3 r 0) (w1 : ¬ cV c 1 (r + 4) 0) (w7 : ¬ cV c 7 r 0) (w8 : ¬ cV c 8 r 0) (w9 : ¬ cV c 9 r 0) (w10 : ¬ cV c 10 r 0) (w11 : ¬ cV c 11 r 0) (w12 : ¬ cV c 12 r 0) (w13 : ¬ cV c 13 r 0) (w2 : ¬ cV c 2 (r + 4) 0)  : CC g (dR c r n a3 a1 a7 a8 a9 a10 a11 a12 a13) L' h' := by
  refine CC_ext2 (N := fun k i j => (k = 3 ∧ i = r ∧ j = 0) ∨ (k = 1 ∧ i = (r + 4) ∧ j = 0) ∨ (k = 7 ∧ i = r ∧ j = 0) ∨ (k = 8 ∧ i = r ∧ j = 0) ∨ (k = 9 ∧ i = r ∧ j = 0) ∨ (k = 10 ∧ i = r ∧ j = 0) ∨ (k = 11 ∧ i = r ∧ j = 0) ∨ (k = 12 ∧ i = r ∧ j = 0) ∨ (k = 13 ∧ i = r ∧ j = 0)) cc hL hh (fun _ _ _ q => q) (fun _ _ _ q => Or.inl q) (fun k i hv => dR_A fun e => ?_) (fun r e _ _ => dR_A (by omega)) (fun k i f hv hs => ?_) rfl rfl (fun k i j hn => ?_) (fun k i j k' i' j' hn hn' e => ?_) (fun k i j hn => by omega) (fun hn => ?_) (fun i hn => ?_) (fun i hn => ?_) (fun i hn => ?_) (fun i hn => ?_) (fun i hn => ?_) (fun i hn => ?_) (fun hn => ?_) (fun i => ⟨fun hn => ?_, fun hn => ?_⟩) (fun i hn => ?_)
  · rcases e with ⟨rfl, rfl, -⟩ | ⟨rfl, rfl, -⟩ | ⟨rfl, rfl, -⟩ | ⟨rfl, rfl, -⟩ | ⟨rfl, rfl, -⟩ | ⟨rfl, rfl, -⟩ | ⟨rfl, rfl, -⟩ | ⟨rfl, rfl, -⟩ | ⟨rfl, rfl, -⟩
    · exact w3 hv
    · exact w1 hv
    · exact w7 hv
    · exact w8 hv
    · exact w9 hv
    · exact w10 hv
    · exact w11 hv
    · exact w12 hv
    · exact w13 hv
  · have hr := seesR hs
    funext j
    refine dR_S fun q => ?_
    rcases q with ⟨rfl, rfl⟩ | ⟨rfl, rfl⟩ | ⟨rfl, rfl⟩ | ⟨rfl, rfl⟩ | ⟨rfl, rfl⟩ | ⟨rfl, rfl⟩ | ⟨rfl, rfl⟩ | ⟨rfl, rfl⟩ | ⟨rfl, rfl⟩ | ⟨rfl, rfl⟩ | ⟨rfl, rfl⟩ | ⟨rfl, rfl⟩ | ⟨rfl, rfl⟩ | ⟨rfl, rfl⟩ | ⟨rfl, rfl⟩
    · rcases (show k = 3 ∨ k = 12 ∨ k = 13 by omega) with rfl | rfl | rfl
      · exact w3 hv
      · exact w12 hv
      · exact w13 hv
    · obtain rfl : k = 3 := by omega
      exact w3 hv
    · obtain rfl : k = 3 := by omega
      exact w3 hv
    · obtain rfl : k = 3 := by omega
      exact w3 hv
    · obtain rfl : k = 7 := by omega
      exact w7 hv
    · obtain rfl : k = 7 := by omega
      exact w7 hv
    · obtain rfl : k = 7 := by omega
      exact w7 hv
    · obtain rfl : k = 8 := by omega
      exact w8 hv
    · obtain rfl : k = 9 := by omega
      exact w9 hv
    · obtain rfl : k = 10 := by omega
      exact w10 hv
    · obtain rfl : k = 12 := by omega
      exact w12 hv
    · obtain rfl : k = 13 := by omega
      exact w13 hv
    · obtain rfl : k = 1 := by omega
      exact w1 hv
    · rcases (show k = 1 ∨ k = 2 by omega) with rfl | rfl
      · exact w1 hv
      · exact w2 hv
    · rcases (show k = 1 ∨ k = 2 by omega) with rfl | rfl
      · exact w1 hv
      · exact w2 hv
  · rcases hn with ⟨rfl, rfl, rfl⟩ | ⟨rfl, rfl, rfl⟩ | ⟨rfl, rfl, rfl⟩ | ⟨rfl, rfl, rfl⟩ | ⟨rfl, rfl, rfl⟩ | ⟨rfl, rfl, rfl⟩ | ⟨rfl, rfl, rfl⟩ | ⟨rfl, rfl, rfl⟩ | ⟨rfl, rfl, rfl⟩
    · rw [dR_a3]
      exact ⟨n0, m0, k0⟩
    · rw [dR_a1]
      exact ⟨n1, m1, k1⟩
    · rw [dR_a7]
      exact ⟨n2, m2, k2⟩
    · rw [dR_a8]
      exact ⟨n3, m3, k3⟩
    · rw [dR_a9]
      exact ⟨n4, m4, k4⟩
    · rw [dR_a10]
      exact ⟨n5, m5, k5⟩
    · rw [dR_a11]
      exact ⟨n6, m6, k6⟩
    · rw [dR_a12]
      exact ⟨n7, m7, k7⟩
    · rw [dR_a13]
      exact ⟨n8, m8, k8⟩
  · rcases hn with ⟨rfl, rfl, rfl⟩ | ⟨rfl, rfl, rfl⟩ | ⟨rfl, rfl, rfl⟩ | ⟨rfl, rfl, rfl⟩ | ⟨rfl, rfl, rfl⟩ | ⟨rfl, rfl, rfl⟩ | ⟨rfl, rfl, rfl⟩ | ⟨rfl, rfl, rfl⟩ | ⟨rfl, rfl, rfl⟩ <;> rcases hn' with ⟨rfl, rfl, rfl⟩ | ⟨rfl, rfl, rfl⟩ | ⟨rfl, rfl, rfl⟩ | ⟨rfl, rfl, rfl⟩ | ⟨rfl, rfl, rfl⟩ | ⟨rfl, rfl, rfl⟩ | ⟨rfl, rfl, rfl⟩ | ⟨rfl, rfl, rfl⟩ | ⟨rfl, rfl, rfl⟩
    · exact ⟨rfl, rfl, rfl⟩
    · exfalso
      rw [dR_a3, dR_a1] at e
      exact e0_1 e
    · exfalso
      rw [dR_a3, dR_a7] at e
      exact e0_2 e
    · exfalso
      rw [dR_a3, dR_a8] at e
      exact e0_3 e
    · exfalso
      rw [dR_a3, dR_a9] at e
      exact e0_4 e
    · exfalso
      rw [dR_a3, dR_a10] at e
      exact e0_5 e
    · exfalso
      rw [dR_a3, dR_a11] at e
      exact e0_6 e
    · exfalso
      rw [dR_a3, dR_a12] at e
      exact e0_7 e
    · exfalso
      rw [dR_a3, dR_a13] at e
      exact e0_8 e
    · exfalso
      rw [dR_a1, dR_a3] at e
      exact e0_1 e.symm
    · exact ⟨rfl, rfl, rfl⟩
    · exfalso
      rw [dR_a1, dR_a7] at e
      exact e1_2 e
    · exfalso
      rw [dR_a1, dR_a8] at e
      exact e1_3 e
    · exfalso
      rw [dR_a1, dR_a9] at e
      exact e1_4 e
    · exfalso
      rw [dR_a1, dR_a10] at e
      exact e1_5 e
    · exfalso
      rw [dR_a1, dR_a11] at e
      exact e1_6 e
    · exfalso
      rw [dR_a1, dR_a12] at e
      exact e1_7 e
    · exfalso
      rw [dR_a1, dR_a13] at e
      exact e1_8 e
    · exfalso
      rw [dR_a7, dR_a3] at e
      exact e0_2 e.symm
    · exfalso
      rw [dR_a7, dR_a1] at e
      exact e1_2 e.symm
    · exact ⟨rfl, rfl, rfl⟩
    · exfalso
      rw [dR_a7, dR_a8] at e
      exact e2_3 e
    · exfalso
      rw [dR_a7, dR_a9] at e
      exact e2_4 e
    · exfalso
      rw [dR_a7, dR_a10] at e
      exact e2_5 e
    · exfalso
      rw [dR_a7, dR_a11] at e
      exact e2_6 e
    · exfalso
      rw [dR_a7, dR_a12] at e
      exact e2_7 e
    · exfalso
      rw [dR_a7, dR_a13] at e
      exact e2_8 e
    · exfalso
      rw [dR_a8, dR_a3] at e
      exact e0_3 e.symm
    · exfalso
      rw [dR_a8, dR_a1] at e
      exact e1_3 e.symm
    · exfalso
      rw [dR_a8, dR_a7] at e
      exact e2_3 e.symm
    · exact ⟨rfl, rfl, rfl⟩
    · exfalso
      rw [dR_a8, dR_a9] at e
      exact e3_4 e
    · exfalso
      rw [dR_a8, dR_a10] at e
      exact e3_5 e
    · exfalso
      rw [dR_a8, dR_a11] at e
      exact e3_6 e
    · exfalso
      rw [dR_a8, dR_a12] at e
      exact e3_7 e
    · exfalso
      rw [dR_a8, dR_a13] at e
      exact e3_8 e
    · exfalso
      rw [dR_a9, dR_a3] at e
      exact e0_4 e.symm
    · exfalso
      rw [dR_a9, dR_a1] at e
      exact e1_4 e.symm
    · exfalso
      rw [dR_a9, dR_a7] at e
      exact e2_4 e.symm
    · exfalso
      rw [dR_a9, dR_a8] at e
      exact e3_4 e.symm
    · exact ⟨rfl, rfl, rfl⟩
    · exfalso
      rw [dR_a9, dR_a10] at e
      exact e4_5 e
    · exfalso
      rw [dR_a9, dR_a11] at e
      exact e4_6 e
    · exfalso
      rw [dR_a9, dR_a12] at e
      exact e4_7 e
    · exfalso
      rw [dR_a9, dR_a13] at e
      exact e4_8 e
    · exfalso
      rw [dR_a10, dR_a3] at e
      exact e0_5 e.symm
    · exfalso
      rw [dR_a10, dR_a1] at e
      exact e1_5 e.symm
    · exfalso
      rw [dR_a10, dR_a7] at e
      exact e2_5 e.symm
    · exfalso
      rw [dR_a10, dR_a8] at e
      exact e3_5 e.symm
    · exfalso
      rw [dR_a10, dR_a9] at e
      exact e4_5 e.symm
    · exact ⟨rfl, rfl, rfl⟩
    · exfalso
      rw [dR_a10, dR_a11] at e
      exact e5_6 e
    · exfalso
      rw [dR_a10, dR_a12] at e
      exact e5_7 e
    · exfalso
      rw [dR_a10, dR_a13] at e
      exact e5_8 e
    · exfalso
      rw [dR_a11, dR_a3] at e
      exact e0_6 e.symm
    · exfalso
      rw [dR_a11, dR_a1] at e
      exact e1_6 e.symm
    · exfalso
      rw [dR_a11, dR_a7] at e
      exact e2_6 e.symm
    · exfalso
      rw [dR_a11, dR_a8] at e
      exact e3_6 e.symm
    · exfalso
      rw [dR_a11, dR_a9] at e
      exact e4_6 e.symm
    · exfalso
      rw [dR_a11, dR_a10] at e
      exact e5_6 e.symm
    · exact ⟨rfl, rfl, rfl⟩
    · exfalso
      rw [dR_a11, dR_a12] at e
      exact e6_7 e
    · exfalso
      rw [dR_a11, dR_a13] at e
      exact e6_8 e
    · exfalso
      rw [dR_a12, dR_a3] at e
      exact e0_7 e.symm
    · exfalso
      rw [dR_a12, dR_a1] at e
      exact e1_7 e.symm
    · exfalso
      rw [dR_a12, dR_a7] at e
      exact e2_7 e.symm
    · exfalso
      rw [dR_a12, dR_a8] at e
      exact e3_7 e.symm
    · exfalso
      rw [dR_a12, dR_a9] at e
      exact e4_7 e.symm
    · exfalso
      rw [dR_a12, dR_a10] at e
      exact e5_7 e.symm
    · exfalso
      rw [dR_a12, dR_a11] at e
      exact e6_7 e.symm
    · exact ⟨rfl, rfl, rfl⟩
    · exfalso
      rw [dR_a12, dR_a13] at e
      exact e7_8 e
    · exfalso
      rw [dR_a13, dR_a3] at e
      exact e0_8 e.symm
    · exfalso
      rw [dR_a13, dR_a1] at e
      exact e1_8 e.symm
    · exfalso
      rw [dR_a13, dR_a7] at e
      exact e2_8 e.symm
    · exfalso
      rw [dR_a13, dR_a8] at e
      exact e3_8 e.symm
    · exfalso
      rw [dR_a13, dR_a9] at e
      exact e4_8 e.symm
    · exfalso
      rw [dR_a13, dR_a10] at e
      exact e5_8 e.symm
    · exfalso
      rw [dR_a13, dR_a11] at e
      exact e6_8 e.symm
    · exfalso
      rw [dR_a13, dR_a12] at e
      exact e7_8 e.symm
    · exact ⟨rfl, rfl, rfl⟩
  · exact absurd hn (by omega)
  · obtain rfl : i = r := by omega
    exact ⟨Or.inr (Or.inr (Or.inl ⟨rfl, rfl, rfl⟩)), Or.inr (Or.inr (Or.inr (Or.inl ⟨rfl, rfl, rfl⟩))), Or.inr (Or.inr (Or.inr (Or.inr (Or.inr (Or.inr (Or.inr (Or.inr (Or.inr (⟨rfl, rfl, rfl⟩))))))))), fun q => absurd dR_s126 q⟩
  · obtain rfl : i = r := by omega
    exact ⟨Or.inr (Or.inr (Or.inr (Or.inr (Or.inl ⟨rfl, rfl, rfl⟩)))), Or.inr (Or.inr (Or.inr (Or.inr (Or.inr (Or.inl ⟨rfl, rfl, rfl⟩))))), Or.inr (Or.inr (Or.inr (Or.inr (Or.inr (Or.inr (Or.inl ⟨rfl, rfl, rfl⟩)))))), Or.inr (Or.inr (Or.inr (Or.inr (Or.inr (Or.inr (Or.inr (Or.inl ⟨rfl, rfl, rfl⟩)))))))⟩
  · obtain rfl : i = r := by omega
    exact Or.inr (Or.inr (Or.inr (Or.inr (Or.inr (Or.inr (Or.inr (Or.inr (Or.inl ⟨rfl, rfl, rfl⟩))))))))
  · exact absurd hn (by omega)
  · exact absurd hn (by omega)
  · exact absurd hn (by omega)
  · exact absurd hn (by omega)
  · exact absurd hn (by omega)
  · exact absurd hn (by omega)
  · obtain rfl : i = (r + 4) := by omega
    refine ⟨?_, ?_, fun q => absurd ?_ q, fun e he => absurd he ?_⟩
    · rw [dR_s42]
      decide
    · unfold cN
      rw [dR_s42, dR_s80]
      exact Nat.le_refl _
    · unfold cN
      rw [dR_s80]
      rfl
    · unfold cN
      rw [dR_s42]
      exact Nat.not_lt_zero _
