def kd (ru : Nat) : Int32 := match ru with
  | 0 => 112
  | 1 => 120
  | 2 => 98
  | 3 => 110
  | 4 => 108
  | 5 => 100
  | _ => 109
def clE (ru : Nat) (k xa xb xc : Int32) (m : Nat → Nat) : cc_Ef := if k = kd ru then efI k xa xb xc m else (m, 0)
section
variable {g : Nat → Nat} {R : Option Value → cc_C → Prop} {X : String → cc_C → Prop}
theorem m_kindOf {c : cc_C} {ru : Nat} {x : Int32} (hx : x = nI ru) (h : ru < 7) (H : R (some (.int (kd ru))) c) : wc g (wp_X9_kindOf g) c [.int x] R X := by
  subst hx
  have ne : ∀ k, k < 7 → ru ≠ k → ¬ nI ru = nI k := fun k hk h1 q => h1 ((nI_eq (by omega) (by omega)).mp q)
  rcases (show ru = 0 ∨ ru = 1 ∨ ru = 2 ∨ ru = 3 ∨ ru = 4 ∨ ru = 5 ∨ ru = 6 by omega) with rfl | rfl | rfl | rfl | rfl | rfl | rfl
  · exact mk_X9_kindOf_0 ⟨fun _ => H, fun q => absurd rfl q⟩
  · exact mk_X9_kindOf_0 ⟨fun q => absurd q (by decide), fun _ => ⟨fun _ => H, fun q => absurd rfl q⟩⟩
  · exact mk_X9_kindOf_0 ⟨fun q => absurd q (by decide), fun _ => ⟨fun q => absurd q (by decide), fun _ => ⟨fun _ => H, fun q => absurd rfl q⟩⟩⟩
  · exact mk_X9_kindOf_0 ⟨fun q => absurd q (by decide), fun _ => ⟨fun q => absurd q (by decide), fun _ => ⟨fun q => absurd q (by decide), fun _ => ⟨fun _ => H, fun q => absurd rfl q⟩⟩⟩⟩
  · exact mk_X9_kindOf_0 ⟨fun q => absurd q (by decide), fun _ => ⟨fun q => absurd q (by decide), fun _ => ⟨fun q => absurd q (by decide), fun _ => ⟨fun q => absurd q (by decide), fun _ => ⟨fun _ => H, fun q => absurd rfl q⟩⟩⟩⟩⟩
  · exact mk_X9_kindOf_0 ⟨fun q => absurd q (by decide), fun _ => ⟨fun q => absurd q (by decide), fun _ => ⟨fun q => absurd q (by decide), fun _ => ⟨fun q => absurd q (by decide), fun _ => ⟨fun q => absurd q (by decide), fun _ => ⟨fun _ => H, fun q => absurd rfl q⟩⟩⟩⟩⟩⟩
  · exact mk_X9_kindOf_0 ⟨fun q => absurd q (by decide), fun _ => ⟨fun q => absurd q (by decide), fun _ => ⟨fun q => absurd q (by decide), fun _ => ⟨fun q => absurd q (by decide), fun _ => ⟨fun q => absurd q (by decide), fun _ => ⟨fun q => absurd q (by decide), fun _ => H⟩⟩⟩⟩⟩⟩
theorem m_byClue {c : cc_C} {r e n t ru : Nat} {m : Nat → Nat} {x1 x2 : Int32} (s : sl c 21 0 0 e) (nw : nwR c r n) (h : meR c n m) (hn3 : 3 ≤ n) (hne : ∀ i, i < n → m i ≠ 0) (hf : ∀ i, i < n → m i < 2 ^ n) (h1 : x1 = nI ru) (hru : ru < 7) (h2 : x2 = nI t) (ht : t < 160) (hk : Kv n (cS c 880 6 t) (cS c 880 7 t) (cS c 880 8 t) (cS c 880 9 t)) (H : ∀ d, fr pMay c d → meR d n (clE ru (cS c 880 6 t) (cS c 880 7 t) (cS c 880 8 t) (cS c 880 9 t) m).1 → R (some (.int (nI (clE ru (cS c 880 6 t) (cS c 880 7 t) (cS c 880 8 t) (cS c 880 9 t) m).2))) d) : wc g (wp_X9_byClue g) c [.ref e, .int x1, .int x2] R X := by
  subst h1 h2
  have hn := h.1
  have vt := vp_in_nI ht (show 160 < 2 ^ 31 by omega)
  refine mk_X9_byClue_0 s ⟨vt, vt, fun _ => ⟨vt, m_kindOf rfl hru ⟨_, rfl, ?_⟩⟩, fun q => absurd (nI_lt (a := ru) (b := 10) (by omega) (by omega)) q⟩
  rw [nI_clamp (show t < 2 ^ 31 by omega)]
  unfold clE at H
  refine ⟨fun z => ?_, fun z => ?_⟩
  · rw [if_pos z] at H
    obtain ⟨⟨a, ea, la⟩, ⟨b, eb, lb⟩, hk⟩ := hk
    unfold efI at H
    rw [ea, eb, nI_clamp (show a < 2 ^ 31 by omega), nI_clamp (show b < 2 ^ 31 by omega)] at H
    rw [ea, eb]
    have p2 : ∀ b, b < 6 → 2 ^ b < 64 := by decide
    have h63 : ∀ z, z < 64 → 63 - (63 - z) = z := fun z h => by omega
    have dlt : ∀ k y, dsN k y < 64 := fun k y => lo6_lt _
    rcases (show ru = 0 ∨ ru = 1 ∨ ru = 2 ∨ ru = 3 ∨ ru = 4 ∨ ru = 5 ∨ ru = 6 by omega) with rfl | rfl | rfl | rfl | rfl | rfl | rfl
    · have z' : cS c 880 6 t = 112 := z
      rw [z'] at H
      exact ⟨fun _ => m_kE s h rfl la (nbit6 (by omega)) (p2 b (by omega)) (fun d hd hs => ⟨_, rfl, H d hd hs⟩), fun q => absurd rfl q⟩
    · have z' : cS c 880 6 t = 120 := z
      rw [z'] at H
      have := p2 b (by omega)
      exact ⟨fun q => absurd q (by decide), fun _ => ⟨fun _ => m_kE s h rfl la (σ := 63 - 2 ^ b) (by rw [bit6 (by omega)]; exact (h63 _ this).symm) (Nat.lt_of_le_of_lt (Nat.sub_le _ _) (by decide)) (fun d hd hs => ⟨_, rfl, H d hd hs⟩), fun q => absurd rfl q⟩⟩
    · have z' : cS c 880 6 t = 98 := z
      rw [z'] at H
      exact ⟨fun q => absurd q (by decide), fun _ => ⟨fun q => absurd q (by decide), fun _ => ⟨fun _ => m_before s h rfl rfl la lb (hne b lb) (fun d hd hs => ⟨_, rfl, H d hd hs⟩), fun q => absurd rfl q⟩⟩⟩
    · have z' : cS c 880 6 t = 110 := z
      rw [z'] at H
      exact ⟨fun q => absurd q (by decide), fun _ => ⟨fun q => absurd q (by decide), fun _ => ⟨fun q => absurd q (by decide), fun _ => ⟨fun _ => m_both (k := 1) (dsN 1) (dsN 1) s h rfl rfl rfl la lb (dlt 1) (dlt 1) (fun c y Q _ hq => m_near11 c y Q hq) (fun c y Q _ hq => m_near11 c y Q hq) (fun d hd hs => ⟨_, rfl, H d hd hs⟩), fun q => absurd rfl q⟩⟩⟩⟩
    · have z' : cS c 880 6 t = 108 := z
      rw [z'] at H
      exact ⟨fun q => absurd q (by decide), fun _ => ⟨fun q => absurd q (by decide), fun _ => ⟨fun q => absurd q (by decide), fun _ => ⟨fun q => absurd q (by decide), fun _ => ⟨fun _ => m_both (k := 1) lsN l2N s h rfl rfl rfl la lb (fun y => lo6_lt _) (fun y => lo6_lt _) (fun c y Q _ hq => m_near10 c y Q hq) (fun c y Q _ hq => m_near01 c y Q hq) (fun d hd hs => ⟨_, rfl, H d hd hs⟩), fun q => absurd rfl q⟩⟩⟩⟩⟩
    · have z' : cS c 880 6 t = 100 := z
      rw [z'] at H hk
      obtain ⟨cc, exc⟩ : ∃ cc, cS c 880 9 t = nI cc ∧ 1 ≤ cc ∧ cc ≤ 5 := by
        rcases hk with q | q | q | q | q | ⟨-, q⟩ | ⟨q, -⟩
        · exact absurd q (by decide)
        · exact absurd q (by decide)
        · exact absurd q (by decide)
        · exact absurd q (by decide)
        · exact absurd q (by decide)
        · exact q
        · exact absurd q (by decide)
      rw [exc.1, nI_clamp (by omega)] at H
      rw [exc.1]
      exact ⟨fun q => absurd q (by decide), fun _ => ⟨fun q => absurd q (by decide), fun _ => ⟨fun q => absurd q (by decide), fun _ => ⟨fun q => absurd q (by decide), fun _ => ⟨fun q => absurd q (by decide), fun _ => ⟨fun _ => ⟨vt, m_both (k := cc) (dsN cc) (dsN cc) s h rfl rfl rfl la lb (dlt cc) (dlt cc) (fun c y Q _ hq => m_near11 c y Q hq) (fun c y Q _ hq => m_near11 c y Q hq) (fun d hd hs => ⟨_, rfl, H d hd hs⟩)⟩, fun q => absurd rfl q⟩⟩⟩⟩⟩⟩
    · have z' : cS c 880 6 t = 109 := z
      rw [z'] at H hk
      obtain ⟨cc, exc, hc⟩ : ∃ cc, cS c 880 9 t = nI cc ∧ cc < n := by
        rcases hk with q | q | q | q | q | ⟨q, -⟩ | ⟨-, q⟩
        · exact absurd q (by decide)
        · exact absurd q (by decide)
        · exact absurd q (by decide)
        · exact absurd q (by decide)
        · exact absurd q (by decide)
        · exact absurd q (by decide)
        · exact q
      rw [exc, nI_clamp (by omega)] at H
      rw [exc]
      exact ⟨fun q => absurd q (by decide), fun _ => ⟨fun q => absurd q (by decide), fun _ => ⟨fun q => absurd q (by decide), fun _ => ⟨fun q => absurd q (by decide), fun _ => ⟨fun q => absurd q (by decide), fun _ => ⟨fun q => absurd q (by decide), fun _ => ⟨vt, m_between s nw h hn3 rfl rfl rfl la lb hc (hne a la) (hne b lb) (hf cc hc) (fun d hd hs => ⟨_, rfl, H d hd hs⟩)⟩⟩⟩⟩⟩⟩⟩
  · rw [if_neg z] at H
    exact H c fr_rfl h
end
