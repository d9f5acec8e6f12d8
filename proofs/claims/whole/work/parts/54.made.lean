/-! the reference is made: its rows -/
set_option maxRecDepth 100000 in
theorem bk_X9_init_0 {g : Nat → Nat} {R2 : ab_R} {XP : ab_XP} {L : List Nat} {h : ab_H} {a0 : Nat} (H : ab_Ev (tb_X9_init g R2 XP) 4 [some (.ref a0)] [] L h 0 0) : wp_X9_init g [.ref a0] L h R2 XP := en_X9_init (ab_blk [4, 12, 20, 28, 36, 44, 52, 61, 70, 79, 88, 97, 106, 115, 123, 131, 139, 147, 155, 163, 171, 179, 187, 195, 203, 211, 219, 227, 235] 3 H)
set_option maxRecDepth 100000 in
theorem bk_X9_init_4 {g : Nat → Nat} {R2 : ab_R} {XP : ab_XP} {L : List Nat} {h : ab_H} {a0 : Nat} {k : Nat} {n : Nat} (H : (¬ (20 : Int32) < 0 ∧ ((20 : Int32)).toNatClampNeg ≤ 65536 ∧ (k + 1) ≤ 28 ∧ n + ((20 : Int32)).toNatClampNeg ≤ 3164 ∧ ∀ q1, q1 ∉ L → (a0 ∈ (L ++ [q1]) ∧ ∃ fs2 : List Value, (va_up h q1 (.inl (0, ((20 : Int32)).toNatClampNeg, (.inl (fun _ => 0))))) a0 = .inr (12, fs2) ∧ 0 < fs2.length ∧ ab_Ev (tb_X9_init g R2 XP) 12 [some (.ref a0)] [] (L ++ [q1]) (va_up (va_up h q1 (.inl (0, ((20 : Int32)).toNatClampNeg, (.inl (fun _ => 0))))) a0 (.inr (12, fs2.set 0 (.ref q1)))) (k + 1) (n + ((20 : Int32)).toNatClampNeg)))) : ab_Ev (tb_X9_init g R2 XP) 4 [some (.ref a0)] [] L h k n := ab_blk [4, 12, 20, 28, 36, 44, 52, 61, 70, 79, 88, 97, 106, 115, 123, 131, 139, 147, 155, 163, 171, 179, 187, 195, 203, 211, 219, 227, 235] 5 H
set_option maxRecDepth 100000 in
theorem bk_X9_init_12 {g : Nat → Nat} {R2 : ab_R} {XP : ab_XP} {L : List Nat} {h : ab_H} {a0 : Nat} {k : Nat} {n : Nat} (H : (¬ (20 : Int32) < 0 ∧ ((20 : Int32)).toNatClampNeg ≤ 65536 ∧ (k + 1) ≤ 28 ∧ n + ((20 : Int32)).toNatClampNeg ≤ 3164 ∧ ∀ q1, q1 ∉ L → (a0 ∈ (L ++ [q1]) ∧ ∃ fs2 : List Value, (va_up h q1 (.inl (0, ((20 : Int32)).toNatClampNeg, (.inl (fun _ => 0))))) a0 = .inr (12, fs2) ∧ 1 < fs2.length ∧ ab_Ev (tb_X9_init g R2 XP) 20 [some (.ref a0)] [] (L ++ [q1]) (va_up (va_up h q1 (.inl (0, ((20 : Int32)).toNatClampNeg, (.inl (fun _ => 0))))) a0 (.inr (12, fs2.set 1 (.ref q1)))) (k + 1) (n + ((20 : Int32)).toNatClampNeg)))) : ab_Ev (tb_X9_init g R2 XP) 12 [some (.ref a0)] [] L h k n := ab_blk [4, 12, 20, 28, 36, 44, 52, 61, 70, 79, 88, 97, 106, 115, 123, 131, 139, 147, 155, 163, 171, 179, 187, 195, 203, 211, 219, 227, 235] 5 H
set_option maxRecDepth 100000 in
theorem bk_X9_init_20 {g : Nat → Nat} {R2 : ab_R} {XP : ab_XP} {L : List Nat} {h : ab_H} {a0 : Nat} {k : Nat} {n : Nat} (H : (¬ (20 : Int32) < 0 ∧ ((20 : Int32)).toNatClampNeg ≤ 65536 ∧ (k + 1) ≤ 28 ∧ n + ((20 : Int32)).toNatClampNeg ≤ 3164 ∧ ∀ q1, q1 ∉ L → (a0 ∈ (L ++ [q1]) ∧ ∃ fs2 : List Value, (va_up h q1 (.inl (0, ((20 : Int32)).toNatClampNeg, (.inl (fun _ => 0))))) a0 = .inr (12, fs2) ∧ 2 < fs2.length ∧ ab_Ev (tb_X9_init g R2 XP) 28 [some (.ref a0)] [] (L ++ [q1]) (va_up (va_up h q1 (.inl (0, ((20 : Int32)).toNatClampNeg, (.inl (fun _ => 0))))) a0 (.inr (12, fs2.set 2 (.ref q1)))) (k + 1) (n + ((20 : Int32)).toNatClampNeg)))) : ab_Ev (tb_X9_init g R2 XP) 20 [some (.ref a0)] [] L h k n := ab_blk [4, 12, 20, 28, 36, 44, 52, 61, 70, 79, 88, 97, 106, 115, 123, 131, 139, 147, 155, 163, 171, 179, 187, 195, 203, 211, 219, 227, 235] 5 H
set_option maxRecDepth 100000 in
theorem bk_X9_init_28 {g : Nat → Nat} {R2 : ab_R} {XP : ab_XP} {L : List Nat} {h : ab_H} {a0 : Nat} {k : Nat} {n : Nat} (H : (¬ (20 : Int32) < 0 ∧ ((20 : Int32)).toNatClampNeg ≤ 65536 ∧ (k + 1) ≤ 28 ∧ n + ((20 : Int32)).toNatClampNeg ≤ 3164 ∧ ∀ q1, q1 ∉ L → (a0 ∈ (L ++ [q1]) ∧ ∃ fs2 : List Value, (va_up h q1 (.inl (0, ((20 : Int32)).toNatClampNeg, (.inl (fun _ => 0))))) a0 = .inr (12, fs2) ∧ 3 < fs2.length ∧ ab_Ev (tb_X9_init g R2 XP) 36 [some (.ref a0)] [] (L ++ [q1]) (va_up (va_up h q1 (.inl (0, ((20 : Int32)).toNatClampNeg, (.inl (fun _ => 0))))) a0 (.inr (12, fs2.set 3 (.ref q1)))) (k + 1) (n + ((20 : Int32)).toNatClampNeg)))) : ab_Ev (tb_X9_init g R2 XP) 28 [some (.ref a0)] [] L h k n := ab_blk [4, 12, 20, 28, 36, 44, 52, 61, 70, 79, 88, 97, 106, 115, 123, 131, 139, 147, 155, 163, 171, 179, 187, 195, 203, 211, 219, 227, 235] 5 H
set_option maxRecDepth 100000 in
theorem bk_X9_init_36 {g : Nat → Nat} {R2 : ab_R} {XP : ab_XP} {L : List Nat} {h : ab_H} {a0 : Nat} {k : Nat} {n : Nat} (H : (¬ (20 : Int32) < 0 ∧ ((20 : Int32)).toNatClampNeg ≤ 65536 ∧ (k + 1) ≤ 28 ∧ n + ((20 : Int32)).toNatClampNeg ≤ 3164 ∧ ∀ q1, q1 ∉ L → (a0 ∈ (L ++ [q1]) ∧ ∃ fs2 : List Value, (va_up h q1 (.inl (0, ((20 : Int32)).toNatClampNeg, (.inl (fun _ => 0))))) a0 = .inr (12, fs2) ∧ 4 < fs2.length ∧ ab_Ev (tb_X9_init g R2 XP) 44 [some (.ref a0)] [] (L ++ [q1]) (va_up (va_up h q1 (.inl (0, ((20 : Int32)).toNatClampNeg, (.inl (fun _ => 0))))) a0 (.inr (12, fs2.set 4 (.ref q1)))) (k + 1) (n + ((20 : Int32)).toNatClampNeg)))) : ab_Ev (tb_X9_init g R2 XP) 36 [some (.ref a0)] [] L h k n := ab_blk [4, 12, 20, 28, 36, 44, 52, 61, 70, 79, 88, 97, 106, 115, 123, 131, 139, 147, 155, 163, 171, 179, 187, 195, 203, 211, 219, 227, 235] 5 H
set_option maxRecDepth 100000 in
theorem bk_X9_init_44 {g : Nat → Nat} {R2 : ab_R} {XP : ab_XP} {L : List Nat} {h : ab_H} {a0 : Nat} {k : Nat} {n : Nat} (H : (¬ (20 : Int32) < 0 ∧ ((20 : Int32)).toNatClampNeg ≤ 65536 ∧ (k + 1) ≤ 28 ∧ n + ((20 : Int32)).toNatClampNeg ≤ 3164 ∧ ∀ q1, q1 ∉ L → (a0 ∈ (L ++ [q1]) ∧ ∃ fs2 : List Value, (va_up h q1 (.inl (0, ((20 : Int32)).toNatClampNeg, (.inl (fun _ => 0))))) a0 = .inr (12, fs2) ∧ 5 < fs2.length ∧ ab_Ev (tb_X9_init g R2 XP) 52 [some (.ref a0)] [] (L ++ [q1]) (va_up (va_up h q1 (.inl (0, ((20 : Int32)).toNatClampNeg, (.inl (fun _ => 0))))) a0 (.inr (12, fs2.set 5 (.ref q1)))) (k + 1) (n + ((20 : Int32)).toNatClampNeg)))) : ab_Ev (tb_X9_init g R2 XP) 44 [some (.ref a0)] [] L h k n := ab_blk [4, 12, 20, 28, 36, 44, 52, 61, 70, 79, 88, 97, 106, 115, 123, 131, 139, 147, 155, 163, 171, 179, 187, 195, 203, 211, 219, 227, 235] 5 H
set_option maxRecDepth 100000 in
theorem bk_X9_init_52 {g : Nat → Nat} {R2 : ab_R} {XP : ab_XP} {L : List Nat} {h : ab_H} {a0 : Nat} {k : Nat} {n : Nat} (H : (¬ (160 : Int32) < 0 ∧ ((160 : Int32)).toNatClampNeg ≤ 65536 ∧ (k + 1) ≤ 28 ∧ n + ((160 : Int32)).toNatClampNeg ≤ 3164 ∧ ∀ q1, q1 ∉ L → (a0 ∈ (L ++ [q1]) ∧ ∃ fs2 : List Value, (va_up h q1 (.inl (0, ((160 : Int32)).toNatClampNeg, (.inl (fun _ => 0))))) a0 = .inr (12, fs2) ∧ 6 < fs2.length ∧ ab_Ev (tb_X9_init g R2 XP) 61 [some (.ref a0)] [] (L ++ [q1]) (va_up (va_up h q1 (.inl (0, ((160 : Int32)).toNatClampNeg, (.inl (fun _ => 0))))) a0 (.inr (12, fs2.set 6 (.ref q1)))) (k + 1) (n + ((160 : Int32)).toNatClampNeg)))) : ab_Ev (tb_X9_init g R2 XP) 52 [some (.ref a0)] [] L h k n := ab_blk [4, 12, 20, 28, 36, 44, 52, 61, 70, 79, 88, 97, 106, 115, 123, 131, 139, 147, 155, 163, 171, 179, 187, 195, 203, 211, 219, 227, 235] 5 H
set_option maxRecDepth 100000 in
theorem bk_X9_init_61 {g : Nat → Nat} {R2 : ab_R} {XP : ab_XP} {L : List Nat} {h : ab_H} {a0 : Nat} {k : Nat} {n : Nat} (H : (¬ (160 : Int32) < 0 ∧ ((160 : Int32)).toNatClampNeg ≤ 65536 ∧ (k + 1) ≤ 28 ∧ n + ((160 : Int32)).toNatClampNeg ≤ 3164 ∧ ∀ q1, q1 ∉ L → (a0 ∈ (L ++ [q1]) ∧ ∃ fs2 : List Value, (va_up h q1 (.inl (0, ((160 : Int32)).toNatClampNeg, (.inl (fun _ => 0))))) a0 = .inr (12, fs2) ∧ 7 < fs2.length ∧ ab_Ev (tb_X9_init g R2 XP) 70 [some (.ref a0)] [] (L ++ [q1]) (va_up (va_up h q1 (.inl (0, ((160 : Int32)).toNatClampNeg, (.inl (fun _ => 0))))) a0 (.inr (12, fs2.set 7 (.ref q1)))) (k + 1) (n + ((160 : Int32)).toNatClampNeg)))) : ab_Ev (tb_X9_init g R2 XP) 61 [some (.ref a0)] [] L h k n := ab_blk [4, 12, 20, 28, 36, 44, 52, 61, 70, 79, 88, 97, 106, 115, 123, 131, 139, 147, 155, 163, 171, 179, 187, 195, 203, 211, 219, 227, 235] 5 H
set_option maxRecDepth 100000 in
theorem bk_X9_init_70 {g : Nat → Nat} {R2 : ab_R} {XP : ab_XP} {L : List Nat} {h : ab_H} {a0 : Nat} {k : Nat} {n : Nat} (H : (¬ (160 : Int32) < 0 ∧ ((160 : Int32)).toNatClampNeg ≤ 65536 ∧ (k + 1) ≤ 28 ∧ n + ((160 : Int32)).toNatClampNeg ≤ 3164 ∧ ∀ q1, q1 ∉ L → (a0 ∈ (L ++ [q1]) ∧ ∃ fs2 : List Value, (va_up h q1 (.inl (0, ((160 : Int32)).toNatClampNeg, (.inl (fun _ => 0))))) a0 = .inr (12, fs2) ∧ 8 < fs2.length ∧ ab_Ev (tb_X9_init g R2 XP) 79 [some (.ref a0)] [] (L ++ [q1]) (va_up (va_up h q1 (.inl (0, ((160 : Int32)).toNatClampNeg, (.inl (fun _ => 0))))) a0 (.inr (12, fs2.set 8 (.ref q1)))) (k + 1) (n + ((160 : Int32)).toNatClampNeg)))) : ab_Ev (tb_X9_init g R2 XP) 70 [some (.ref a0)] [] L h k n := ab_blk [4, 12, 20, 28, 36, 44, 52, 61, 70, 79, 88, 97, 106, 115, 123, 131, 139, 147, 155, 163, 171, 179, 187, 195, 203, 211, 219, 227, 235] 5 H
set_option maxRecDepth 100000 in
theorem bk_X9_init_79 {g : Nat → Nat} {R2 : ab_R} {XP : ab_XP} {L : List Nat} {h : ab_H} {a0 : Nat} {k : Nat} {n : Nat} (H : (¬ (160 : Int32) < 0 ∧ ((160 : Int32)).toNatClampNeg ≤ 65536 ∧ (k + 1) ≤ 28 ∧ n + ((160 : Int32)).toNatClampNeg ≤ 3164 ∧ ∀ q1, q1 ∉ L → (a0 ∈ (L ++ [q1]) ∧ ∃ fs2 : List Value, (va_up h q1 (.inl (0, ((160 : Int32)).toNatClampNeg, (.inl (fun _ => 0))))) a0 = .inr (12, fs2) ∧ 9 < fs2.length ∧ ab_Ev (tb_X9_init g R2 XP) 88 [some (.ref a0)] [] (L ++ [q1]) (va_up (va_up h q1 (.inl (0, ((160 : Int32)).toNatClampNeg, (.inl (fun _ => 0))))) a0 (.inr (12, fs2.set 9 (.ref q1)))) (k + 1) (n + ((160 : Int32)).toNatClampNeg)))) : ab_Ev (tb_X9_init g R2 XP) 79 [some (.ref a0)] [] L h k n := ab_blk [4, 12, 20, 28, 36, 44, 52, 61, 70, 79, 88, 97, 106, 115, 123, 131, 139, 147, 155, 163, 171, 179, 187, 195, 203, 211, 219, 227, 235] 5 H
set_option maxRecDepth 100000 in
theorem bk_X9_init_88 {g : Nat → Nat} {R2 : ab_R} {XP : ab_XP} {L : List Nat} {h : ab_H} {a0 : Nat} {k : Nat} {n : Nat} (H : (¬ (720 : Int32) < 0 ∧ ((720 : Int32)).toNatClampNeg ≤ 65536 ∧ (k + 1) ≤ 28 ∧ n + ((720 : Int32)).toNatClampNeg ≤ 3164 ∧ ∀ q1, q1 ∉ L → (a0 ∈ (L ++ [q1]) ∧ ∃ fs2 : List Value, (va_up h q1 (.inl (0, ((720 : Int32)).toNatClampNeg, (.inl (fun _ => 0))))) a0 = .inr (12, fs2) ∧ 10 < fs2.length ∧ ab_Ev (tb_X9_init g R2 XP) 97 [some (.ref a0)] [] (L ++ [q1]) (va_up (va_up h q1 (.inl (0, ((720 : Int32)).toNatClampNeg, (.inl (fun _ => 0))))) a0 (.inr (12, fs2.set 10 (.ref q1)))) (k + 1) (n + ((720 : Int32)).toNatClampNeg)))) : ab_Ev (tb_X9_init g R2 XP) 88 [some (.ref a0)] [] L h k n := ab_blk [4, 12, 20, 28, 36, 44, 52, 61, 70, 79, 88, 97, 106, 115, 123, 131, 139, 147, 155, 163, 171, 179, 187, 195, 203, 211, 219, 227, 235] 5 H
set_option maxRecDepth 100000 in
theorem bk_X9_init_97 {g : Nat → Nat} {R2 : ab_R} {XP : ab_XP} {L : List Nat} {h : ab_H} {a0 : Nat} {k : Nat} {n : Nat} (H : (¬ (720 : Int32) < 0 ∧ ((720 : Int32)).toNatClampNeg ≤ 65536 ∧ (k + 1) ≤ 28 ∧ n + ((720 : Int32)).toNatClampNeg ≤ 3164 ∧ ∀ q1, q1 ∉ L → (a0 ∈ (L ++ [q1]) ∧ ∃ fs2 : List Value, (va_up h q1 (.inl (0, ((720 : Int32)).toNatClampNeg, (.inl (fun _ => 0))))) a0 = .inr (12, fs2) ∧ 11 < fs2.length ∧ ab_Ev (tb_X9_init g R2 XP) 106 [some (.ref a0)] [] (L ++ [q1]) (va_up (va_up h q1 (.inl (0, ((720 : Int32)).toNatClampNeg, (.inl (fun _ => 0))))) a0 (.inr (12, fs2.set 11 (.ref q1)))) (k + 1) (n + ((720 : Int32)).toNatClampNeg)))) : ab_Ev (tb_X9_init g R2 XP) 97 [some (.ref a0)] [] L h k n := ab_blk [4, 12, 20, 28, 36, 44, 52, 61, 70, 79, 88, 97, 106, 115, 123, 131, 139, 147, 155, 163, 171, 179, 187, 195, 203, 211, 219, 227, 235] 5 H
set_option maxRecDepth 100000 in
theorem bk_X9_init_106 {g : Nat → Nat} {R2 : ab_R} {XP : ab_XP} {L : List Nat} {h : ab_H} {a0 : Nat} {k : Nat} {n : Nat} (H : (¬ (720 : Int32) < 0 ∧ ((720 : Int32)).toNatClampNeg ≤ 65536 ∧ (k + 1) ≤ 28 ∧ n + ((720 : Int32)).toNatClampNeg ≤ 3164 ∧ ∀ q1, q1 ∉ L → (a0 ∈ (L ++ [q1]) ∧ ∃ fs2 : List Value, (va_up h q1 (.inl (0, ((720 : Int32)).toNatClampNeg, (.inl (fun _ => 0))))) a0 = .inr (12, fs2) ∧ 12 < fs2.length ∧ ab_Ev (tb_X9_init g R2 XP) 115 [some (.ref a0)] [] (L ++ [q1]) (va_up (va_up h q1 (.inl (0, ((720 : Int32)).toNatClampNeg, (.inl (fun _ => 0))))) a0 (.inr (12, fs2.set 12 (.ref q1)))) (k + 1) (n + ((720 : Int32)).toNatClampNeg)))) : ab_Ev (tb_X9_init g R2 XP) 106 [some (.ref a0)] [] L h k n := ab_blk [4, 12, 20, 28, 36, 44, 52, 61, 70, 79, 88, 97, 106, 115, 123, 131, 139, 147, 155, 163, 171, 179, 187, 195, 203, 211, 219, 227, 235] 5 H
set_option maxRecDepth 100000 in
theorem bk_X9_init_115 {g : Nat → Nat} {R2 : ab_R} {XP : ab_XP} {L : List Nat} {h : ab_H} {a0 : Nat} {k : Nat} {n : Nat} (H : (¬ (6 : Int32) < 0 ∧ ((6 : Int32)).toNatClampNeg ≤ 65536 ∧ (k + 1) ≤ 28 ∧ n + ((6 : Int32)).toNatClampNeg ≤ 3164 ∧ ∀ q1, q1 ∉ L → (a0 ∈ (L ++ [q1]) ∧ ∃ fs2 : List Value, (va_up h q1 (.inl (0, ((6 : Int32)).toNatClampNeg, (.inl (fun _ => 0))))) a0 = .inr (12, fs2) ∧ 13 < fs2.length ∧ ab_Ev (tb_X9_init g R2 XP) 123 [some (.ref a0)] [] (L ++ [q1]) (va_up (va_up h q1 (.inl (0, ((6 : Int32)).toNatClampNeg, (.inl (fun _ => 0))))) a0 (.inr (12, fs2.set 13 (.ref q1)))) (k + 1) (n + ((6 : Int32)).toNatClampNeg)))) : ab_Ev (tb_X9_init g R2 XP) 115 [some (.ref a0)] [] L h k n := ab_blk [4, 12, 20, 28, 36, 44, 52, 61, 70, 79, 88, 97, 106, 115, 123, 131, 139, 147, 155, 163, 171, 179, 187, 195, 203, 211, 219, 227, 235] 5 H
set_option maxRecDepth 100000 in
theorem bk_X9_init_123 {g : Nat → Nat} {R2 : ab_R} {XP : ab_XP} {L : List Nat} {h : ab_H} {a0 : Nat} {k : Nat} {n : Nat} (H : (¬ (6 : Int32) < 0 ∧ ((6 : Int32)).toNatClampNeg ≤ 65536 ∧ (k + 1) ≤ 28 ∧ n + ((6 : Int32)).toNatClampNeg ≤ 3164 ∧ ∀ q1, q1 ∉ L → (a0 ∈ (L ++ [q1]) ∧ ∃ fs2 : List Value, (va_up h q1 (.inl (0, ((6 : Int32)).toNatClampNeg, (.inl (fun _ => 0))))) a0 = .inr (12, fs2) ∧ 14 < fs2.length ∧ ab_Ev (tb_X9_init g R2 XP) 131 [some (.ref a0)] [] (L ++ [q1]) (va_up (va_up h q1 (.inl (0, ((6 : Int32)).toNatClampNeg, (.inl (fun _ => 0))))) a0 (.inr (12, fs2.set 14 (.ref q1)))) (k + 1) (n + ((6 : Int32)).toNatClampNeg)))) : ab_Ev (tb_X9_init g R2 XP) 123 [some (.ref a0)] [] L h k n := ab_blk [4, 12, 20, 28, 36, 44, 52, 61, 70, 79, 88, 97, 106, 115, 123, 131, 139, 147, 155, 163, 171, 179, 187, 195, 203, 211, 219, 227, 235] 5 H
set_option maxRecDepth 100000 in
theorem bk_X9_init_131 {g : Nat → Nat} {R2 : ab_R} {XP : ab_XP} {L : List Nat} {h : ab_H} {a0 : Nat} {k : Nat} {n : Nat} (H : (¬ (6 : Int32) < 0 ∧ ((6 : Int32)).toNatClampNeg ≤ 65536 ∧ (k + 1) ≤ 28 ∧ n + ((6 : Int32)).toNatClampNeg ≤ 3164 ∧ ∀ q1, q1 ∉ L → (a0 ∈ (L ++ [q1]) ∧ ∃ fs2 : List Value, (va_up h q1 (.inl (0, ((6 : Int32)).toNatClampNeg, (.inl (fun _ => 0))))) a0 = .inr (12, fs2) ∧ 15 < fs2.length ∧ ab_Ev (tb_X9_init g R2 XP) 139 [some (.ref a0)] [] (L ++ [q1]) (va_up (va_up h q1 (.inl (0, ((6 : Int32)).toNatClampNeg, (.inl (fun _ => 0))))) a0 (.inr (12, fs2.set 15 (.ref q1)))) (k + 1) (n + ((6 : Int32)).toNatClampNeg)))) : ab_Ev (tb_X9_init g R2 XP) 131 [some (.ref a0)] [] L h k n := ab_blk [4, 12, 20, 28, 36, 44, 52, 61, 70, 79, 88, 97, 106, 115, 123, 131, 139, 147, 155, 163, 171, 179, 187, 195, 203, 211, 219, 227, 235] 5 H
set_option maxRecDepth 100000 in
theorem bk_X9_init_139 {g : Nat → Nat} {R2 : ab_R} {XP : ab_XP} {L : List Nat} {h : ab_H} {a0 : Nat} {k : Nat} {n : Nat} (H : (¬ (6 : Int32) < 0 ∧ ((6 : Int32)).toNatClampNeg ≤ 65536 ∧ (k + 1) ≤ 28 ∧ n + ((6 : Int32)).toNatClampNeg ≤ 3164 ∧ ∀ q1, q1 ∉ L → (a0 ∈ (L ++ [q1]) ∧ ∃ fs2 : List Value, (va_up h q1 (.inl (0, ((6 : Int32)).toNatClampNeg, (.inl (fun _ => 0))))) a0 = .inr (12, fs2) ∧ 16 < fs2.length ∧ ab_Ev (tb_X9_init g R2 XP) 147 [some (.ref a0)] [] (L ++ [q1]) (va_up (va_up h q1 (.inl (0, ((6 : Int32)).toNatClampNeg, (.inl (fun _ => 0))))) a0 (.inr (12, fs2.set 16 (.ref q1)))) (k + 1) (n + ((6 : Int32)).toNatClampNeg)))) : ab_Ev (tb_X9_init g R2 XP) 139 [some (.ref a0)] [] L h k n := ab_blk [4, 12, 20, 28, 36, 44, 52, 61, 70, 79, 88, 97, 106, 115, 123, 131, 139, 147, 155, 163, 171, 179, 187, 195, 203, 211, 219, 227, 235] 5 H
set_option maxRecDepth 100000 in
theorem bk_X9_init_147 {g : Nat → Nat} {R2 : ab_R} {XP : ab_XP} {L : List Nat} {h : ab_H} {a0 : Nat} {k : Nat} {n : Nat} (H : (¬ (6 : Int32) < 0 ∧ ((6 : Int32)).toNatClampNeg ≤ 65536 ∧ (k + 1) ≤ 28 ∧ n + ((6 : Int32)).toNatClampNeg ≤ 3164 ∧ ∀ q1, q1 ∉ L → (a0 ∈ (L ++ [q1]) ∧ ∃ fs2 : List Value, (va_up h q1 (.inl (0, ((6 : Int32)).toNatClampNeg, (.inl (fun _ => 0))))) a0 = .inr (12, fs2) ∧ 17 < fs2.length ∧ ab_Ev (tb_X9_init g R2 XP) 155 [some (.ref a0)] [] (L ++ [q1]) (va_up (va_up h q1 (.inl (0, ((6 : Int32)).toNatClampNeg, (.inl (fun _ => 0))))) a0 (.inr (12, fs2.set 17 (.ref q1)))) (k + 1) (n + ((6 : Int32)).toNatClampNeg)))) : ab_Ev (tb_X9_init g R2 XP) 147 [some (.ref a0)] [] L h k n := ab_blk [4, 12, 20, 28, 36, 44, 52, 61, 70, 79, 88, 97, 106, 115, 123, 131, 139, 147, 155, 163, 171, 179, 187, 195, 203, 211, 219, 227, 235] 5 H
set_option maxRecDepth 100000 in
theorem bk_X9_init_155 {g : Nat → Nat} {R2 : ab_R} {XP : ab_XP} {L : List Nat} {h : ab_H} {a0 : Nat} {k : Nat} {n : Nat} (H : (¬ (12 : Int32) < 0 ∧ ((12 : Int32)).toNatClampNeg ≤ 65536 ∧ (k + 1) ≤ 28 ∧ n + ((12 : Int32)).toNatClampNeg ≤ 3164 ∧ ∀ q1, q1 ∉ L → (a0 ∈ (L ++ [q1]) ∧ ∃ fs2 : List Value, (va_up h q1 (.inl (0, ((12 : Int32)).toNatClampNeg, (.inl (fun _ => 0))))) a0 = .inr (12, fs2) ∧ 18 < fs2.length ∧ ab_Ev (tb_X9_init g R2 XP) 163 [some (.ref a0)] [] (L ++ [q1]) (va_up (va_up h q1 (.inl (0, ((12 : Int32)).toNatClampNeg, (.inl (fun _ => 0))))) a0 (.inr (12, fs2.set 18 (.ref q1)))) (k + 1) (n + ((12 : Int32)).toNatClampNeg)))) : ab_Ev (tb_X9_init g R2 XP) 155 [some (.ref a0)] [] L h k n := ab_blk [4, 12, 20, 28, 36, 44, 52, 61, 70, 79, 88, 97, 106, 115, 123, 131, 139, 147, 155, 163, 171, 179, 187, 195, 203, 211, 219, 227, 235] 5 H
set_option maxRecDepth 100000 in
theorem bk_X9_init_163 {g : Nat → Nat} {R2 : ab_R} {XP : ab_XP} {L : List Nat} {h : ab_H} {a0 : Nat} {k : Nat} {n : Nat} (H : (¬ (12 : Int32) < 0 ∧ ((12 : Int32)).toNatClampNeg ≤ 65536 ∧ (k + 1) ≤ 28 ∧ n + ((12 : Int32)).toNatClampNeg ≤ 3164 ∧ ∀ q1, q1 ∉ L → (a0 ∈ (L ++ [q1]) ∧ ∃ fs2 : List Value, (va_up h q1 (.inl (0, ((12 : Int32)).toNatClampNeg, (.inl (fun _ => 0))))) a0 = .inr (12, fs2) ∧ 19 < fs2.length ∧ ab_Ev (tb_X9_init g R2 XP) 171 [some (.ref a0)] [] (L ++ [q1]) (va_up (va_up h q1 (.inl (0, ((12 : Int32)).toNatClampNeg, (.inl (fun _ => 0))))) a0 (.inr (12, fs2.set 19 (.ref q1)))) (k + 1) (n + ((12 : Int32)).toNatClampNeg)))) : ab_Ev (tb_X9_init g R2 XP) 163 [some (.ref a0)] [] L h k n := ab_blk [4, 12, 20, 28, 36, 44, 52, 61, 70, 79, 88, 97, 106, 115, 123, 131, 139, 147, 155, 163, 171, 179, 187, 195, 203, 211, 219, 227, 235] 5 H
set_option maxRecDepth 100000 in
theorem bk_X9_init_171 {g : Nat → Nat} {R2 : ab_R} {XP : ab_XP} {L : List Nat} {h : ab_H} {a0 : Nat} {k : Nat} {n : Nat} (H : (¬ (12 : Int32) < 0 ∧ ((12 : Int32)).toNatClampNeg ≤ 65536 ∧ (k + 1) ≤ 28 ∧ n + ((12 : Int32)).toNatClampNeg ≤ 3164 ∧ ∀ q1, q1 ∉ L → (a0 ∈ (L ++ [q1]) ∧ ∃ fs2 : List Value, (va_up h q1 (.inl (0, ((12 : Int32)).toNatClampNeg, (.inl (fun _ => 0))))) a0 = .inr (12, fs2) ∧ 20 < fs2.length ∧ ab_Ev (tb_X9_init g R2 XP) 179 [some (.ref a0)] [] (L ++ [q1]) (va_up (va_up h q1 (.inl (0, ((12 : Int32)).toNatClampNeg, (.inl (fun _ => 0))))) a0 (.inr (12, fs2.set 20 (.ref q1)))) (k + 1) (n + ((12 : Int32)).toNatClampNeg)))) : ab_Ev (tb_X9_init g R2 XP) 171 [some (.ref a0)] [] L h k n := ab_blk [4, 12, 20, 28, 36, 44, 52, 61, 70, 79, 88, 97, 106, 115, 123, 131, 139, 147, 155, 163, 171, 179, 187, 195, 203, 211, 219, 227, 235] 5 H
set_option maxRecDepth 100000 in
theorem bk_X9_init_179 {g : Nat → Nat} {R2 : ab_R} {XP : ab_XP} {L : List Nat} {h : ab_H} {a0 : Nat} {k : Nat} {n : Nat} (H : (¬ (48 : Int32) < 0 ∧ ((48 : Int32)).toNatClampNeg ≤ 65536 ∧ (k + 1) ≤ 28 ∧ n + ((48 : Int32)).toNatClampNeg ≤ 3164 ∧ ∀ q1, q1 ∉ L → (a0 ∈ (L ++ [q1]) ∧ ∃ fs2 : List Value, (va_up h q1 (.inl (0, ((48 : Int32)).toNatClampNeg, (.inl (fun _ => 0))))) a0 = .inr (12, fs2) ∧ 21 < fs2.length ∧ ab_Ev (tb_X9_init g R2 XP) 187 [some (.ref a0)] [] (L ++ [q1]) (va_up (va_up h q1 (.inl (0, ((48 : Int32)).toNatClampNeg, (.inl (fun _ => 0))))) a0 (.inr (12, fs2.set 21 (.ref q1)))) (k + 1) (n + ((48 : Int32)).toNatClampNeg)))) : ab_Ev (tb_X9_init g R2 XP) 179 [some (.ref a0)] [] L h k n := ab_blk [4, 12, 20, 28, 36, 44, 52, 61, 70, 79, 88, 97, 106, 115, 123, 131, 139, 147, 155, 163, 171, 179, 187, 195, 203, 211, 219, 227, 235] 5 H
set_option maxRecDepth 100000 in
theorem bk_X9_init_187 {g : Nat → Nat} {R2 : ab_R} {XP : ab_XP} {L : List Nat} {h : ab_H} {a0 : Nat} {k : Nat} {n : Nat} (H : (¬ (8 : Int32) < 0 ∧ ((8 : Int32)).toNatClampNeg ≤ 65536 ∧ (k + 1) ≤ 28 ∧ n + ((8 : Int32)).toNatClampNeg ≤ 3164 ∧ ∀ q1, q1 ∉ L → (a0 ∈ (L ++ [q1]) ∧ ∃ fs2 : List Value, (va_up h q1 (.inl (0, ((8 : Int32)).toNatClampNeg, (.inl (fun _ => 0))))) a0 = .inr (12, fs2) ∧ 22 < fs2.length ∧ ab_Ev (tb_X9_init g R2 XP) 195 [some (.ref a0)] [] (L ++ [q1]) (va_up (va_up h q1 (.inl (0, ((8 : Int32)).toNatClampNeg, (.inl (fun _ => 0))))) a0 (.inr (12, fs2.set 22 (.ref q1)))) (k + 1) (n + ((8 : Int32)).toNatClampNeg)))) : ab_Ev (tb_X9_init g R2 XP) 187 [some (.ref a0)] [] L h k n := ab_blk [4, 12, 20, 28, 36, 44, 52, 61, 70, 79, 88, 97, 106, 115, 123, 131, 139, 147, 155, 163, 171, 179, 187, 195, 203, 211, 219, 227, 235] 5 H
set_option maxRecDepth 100000 in
theorem bk_X9_init_195 {g : Nat → Nat} {R2 : ab_R} {XP : ab_XP} {L : List Nat} {h : ab_H} {a0 : Nat} {k : Nat} {n : Nat} (H : (¬ (8 : Int32) < 0 ∧ ((8 : Int32)).toNatClampNeg ≤ 65536 ∧ (k + 1) ≤ 28 ∧ n + ((8 : Int32)).toNatClampNeg ≤ 3164 ∧ ∀ q1, q1 ∉ L → (a0 ∈ (L ++ [q1]) ∧ ∃ fs2 : List Value, (va_up h q1 (.inl (0, ((8 : Int32)).toNatClampNeg, (.inl (fun _ => 0))))) a0 = .inr (12, fs2) ∧ 23 < fs2.length ∧ ab_Ev (tb_X9_init g R2 XP) 203 [some (.ref a0)] [] (L ++ [q1]) (va_up (va_up h q1 (.inl (0, ((8 : Int32)).toNatClampNeg, (.inl (fun _ => 0))))) a0 (.inr (12, fs2.set 23 (.ref q1)))) (k + 1) (n + ((8 : Int32)).toNatClampNeg)))) : ab_Ev (tb_X9_init g R2 XP) 195 [some (.ref a0)] [] L h k n := ab_blk [4, 12, 20, 28, 36, 44, 52, 61, 70, 79, 88, 97, 106, 115, 123, 131, 139, 147, 155, 163, 171, 179, 187, 195, 203, 211, 219, 227, 235] 5 H
set_option maxRecDepth 100000 in
theorem bk_X9_init_203 {g : Nat → Nat} {R2 : ab_R} {XP : ab_XP} {L : List Nat} {h : ab_H} {a0 : Nat} {k : Nat} {n : Nat} (H : (¬ (96 : Int32) < 0 ∧ ((96 : Int32)).toNatClampNeg ≤ 65536 ∧ (k + 1) ≤ 28 ∧ n + ((96 : Int32)).toNatClampNeg ≤ 3164 ∧ ∀ q1, q1 ∉ L → (a0 ∈ (L ++ [q1]) ∧ ∃ fs2 : List Value, (va_up h q1 (.inl (0, ((96 : Int32)).toNatClampNeg, (.inl (fun _ => 0))))) a0 = .inr (12, fs2) ∧ 24 < fs2.length ∧ ab_Ev (tb_X9_init g R2 XP) 211 [some (.ref a0)] [] (L ++ [q1]) (va_up (va_up h q1 (.inl (0, ((96 : Int32)).toNatClampNeg, (.inl (fun _ => 0))))) a0 (.inr (12, fs2.set 24 (.ref q1)))) (k + 1) (n + ((96 : Int32)).toNatClampNeg)))) : ab_Ev (tb_X9_init g R2 XP) 203 [some (.ref a0)] [] L h k n := ab_blk [4, 12, 20, 28, 36, 44, 52, 61, 70, 79, 88, 97, 106, 115, 123, 131, 139, 147, 155, 163, 171, 179, 187, 195, 203, 211, 219, 227, 235] 5 H
set_option maxRecDepth 100000 in
theorem bk_X9_init_211 {g : Nat → Nat} {R2 : ab_R} {XP : ab_XP} {L : List Nat} {h : ab_H} {a0 : Nat} {k : Nat} {n : Nat} (H : (¬ (6 : Int32) < 0 ∧ ((6 : Int32)).toNatClampNeg ≤ 65536 ∧ (k + 1) ≤ 28 ∧ n + ((6 : Int32)).toNatClampNeg ≤ 3164 ∧ ∀ q1, q1 ∉ L → (a0 ∈ (L ++ [q1]) ∧ ∃ fs2 : List Value, (va_up h q1 (.inl (0, ((6 : Int32)).toNatClampNeg, (.inl (fun _ => 0))))) a0 = .inr (12, fs2) ∧ 25 < fs2.length ∧ ab_Ev (tb_X9_init g R2 XP) 219 [some (.ref a0)] [] (L ++ [q1]) (va_up (va_up h q1 (.inl (0, ((6 : Int32)).toNatClampNeg, (.inl (fun _ => 0))))) a0 (.inr (12, fs2.set 25 (.ref q1)))) (k + 1) (n + ((6 : Int32)).toNatClampNeg)))) : ab_Ev (tb_X9_init g R2 XP) 211 [some (.ref a0)] [] L h k n := ab_blk [4, 12, 20, 28, 36, 44, 52, 61, 70, 79, 88, 97, 106, 115, 123, 131, 139, 147, 155, 163, 171, 179, 187, 195, 203, 211, 219, 227, 235] 5 H
set_option maxRecDepth 100000 in
theorem bk_X9_init_219 {g : Nat → Nat} {R2 : ab_R} {XP : ab_XP} {L : List Nat} {h : ab_H} {a0 : Nat} {k : Nat} {n : Nat} (H : (¬ (6 : Int32) < 0 ∧ ((6 : Int32)).toNatClampNeg ≤ 65536 ∧ (k + 1) ≤ 28 ∧ n + ((6 : Int32)).toNatClampNeg ≤ 3164 ∧ ∀ q1, q1 ∉ L → (a0 ∈ (L ++ [q1]) ∧ ∃ fs2 : List Value, (va_up h q1 (.inl (0, ((6 : Int32)).toNatClampNeg, (.inl (fun _ => 0))))) a0 = .inr (12, fs2) ∧ 26 < fs2.length ∧ ab_Ev (tb_X9_init g R2 XP) 227 [some (.ref a0)] [] (L ++ [q1]) (va_up (va_up h q1 (.inl (0, ((6 : Int32)).toNatClampNeg, (.inl (fun _ => 0))))) a0 (.inr (12, fs2.set 26 (.ref q1)))) (k + 1) (n + ((6 : Int32)).toNatClampNeg)))) : ab_Ev (tb_X9_init g R2 XP) 219 [some (.ref a0)] [] L h k n := ab_blk [4, 12, 20, 28, 36, 44, 52, 61, 70, 79, 88, 97, 106, 115, 123, 131, 139, 147, 155, 163, 171, 179, 187, 195, 203, 211, 219, 227, 235] 5 H
set_option maxRecDepth 100000 in
theorem bk_X9_init_227 {g : Nat → Nat} {R2 : ab_R} {XP : ab_XP} {L : List Nat} {h : ab_H} {a0 : Nat} {k : Nat} {n : Nat} (H : (¬ (6 : Int32) < 0 ∧ ((6 : Int32)).toNatClampNeg ≤ 65536 ∧ (k + 1) ≤ 28 ∧ n + ((6 : Int32)).toNatClampNeg ≤ 3164 ∧ ∀ q1, q1 ∉ L → (a0 ∈ (L ++ [q1]) ∧ ∃ fs2 : List Value, (va_up h q1 (.inl (0, ((6 : Int32)).toNatClampNeg, (.inl (fun _ => 0))))) a0 = .inr (12, fs2) ∧ 27 < fs2.length ∧ ab_Ev (tb_X9_init g R2 XP) 235 [some (.ref a0)] [] (L ++ [q1]) (va_up (va_up h q1 (.inl (0, ((6 : Int32)).toNatClampNeg, (.inl (fun _ => 0))))) a0 (.inr (12, fs2.set 27 (.ref q1)))) (k + 1) (n + ((6 : Int32)).toNatClampNeg)))) : ab_Ev (tb_X9_init g R2 XP) 227 [some (.ref a0)] [] L h k n := ab_blk [4, 12, 20, 28, 36, 44, 52, 61, 70, 79, 88, 97, 106, 115, 123, 131, 139, 147, 155, 163, 171, 179, 187, 195, 203, 211, 219, 227, 235] 5 H
set_option maxRecDepth 100000 in
theorem bk_X9_init_235 {g : Nat → Nat} {R2 : ab_R} {XP : ab_XP} {L : List Nat} {h : ab_H} {a0 : Nat} {k : Nat} {n : Nat} (H : ((k ≤ 28 ∧ n ≤ 3164) ∧ R2 none L h)) : ab_Ev (tb_X9_init g R2 XP) 235 [some (.ref a0)] [] L h k n := ab_blk [4, 12, 20, 28, 36, 44, 52, 61, 70, 79, 88, 97, 106, 115, 123, 131, 139, 147, 155, 163, 171, 179, 187, 195, 203, 211, 219, 227, 235] 2 H
def F9 (A : Nat → Nat) (j : Nat) : List Value := (List.range 36).map fun i => if i < j then .ref (A i) else if i < 28 then .null else if i = 28 then .long 0 else .int 0
theorem F9_len (A : Nat → Nat) (j : Nat) : (F9 A j).length = 36 := by
  unfold F9
  rw [List.length_map, List.length_range]
theorem F9_at {A : Nat → Nat} {j i : Nat} (h : i < (F9 A j).length) : (F9 A j)[i] = if i < j then .ref (A i) else if i < 28 then .null else if i = 28 then .long 0 else .int 0 := by
  simp only [F9, List.getElem_map, List.getElem_range]
theorem F9_set {A : Nat → Nat} {j q : Nat} (hj : j < 28) : (F9 A j).set j (.ref q) = F9 (upF A j q) (j + 1) := by
  refine List.ext_getElem (by rw [List.length_set, F9_len, F9_len]) (fun i h1 h2 => ?_)
  rw [F9_at h2, List.getElem_set]
  by_cases e : j = i
  · rw [if_pos e, if_pos (by omega)]
    unfold upF
    rw [if_pos e.symm]
  · rw [if_neg e, F9_at]
    by_cases hi : i < j
    · rw [if_pos hi, if_pos (by omega)]
      unfold upF
      rw [if_neg (fun q => e q.symm)]
    · rw [if_neg hi, if_neg (show ¬ i < j + 1 by omega)]
def J9 (a0 : Nat) (L0 : List Nat) (h0 : ab_H) (A : Nat → Nat) (j : Nat) (L : List Nat) (h : ab_H) : Prop :=
  h a0 = .inr (12, F9 A j) ∧ a0 ∈ L0 ∧ (∀ i, i < j → A i ∈ L ∧ A i ∉ L0 ∧ h (A i) = .inl (0, mlen i, .inl (fun _ => 0))) ∧ (∀ i i', i < j → i' < j → A i = A i' → i = i') ∧ ∀ x, x ∈ L0 → x ∈ L ∧ (x ≠ a0 → h x = h0 x)
theorem J9_step {a0 : Nat} {L0 : List Nat} {h0 : ab_H} {A : Nat → Nat} {j q N : Nat} {L : List Nat} {h : ab_H} (J : J9 a0 L0 h0 A j L h) (hq : q ∉ L) (hj : j < 28) (hN : N = mlen j) : J9 a0 L0 h0 (upF A j q) (j + 1) (L ++ [q]) (va_up (va_up h q (.inl (0, N, .inl (fun _ => 0)))) a0 (.inr (12, (F9 A j).set j (.ref q)))) := by
  obtain ⟨a, b, c, d, e⟩ := J
  have hq0 : q ∉ L0 := fun z => hq (e q z).1
  have hqa : q ≠ a0 := fun z => hq0 (z ▸ b)
  have hu : ∀ i, i < j → upF A j q i = A i := fun i hi => if_neg (by omega)
  have hj' : upF A j q j = q := if_pos rfl
  refine ⟨by rw [up_at, F9_set hj], b, fun i hi => ?_, fun i i' hi hi' z => ?_, fun x hx => ⟨List.mem_append_left _ (e x hx).1, fun hxa => ?_⟩⟩
  · by_cases hij : i = j
    · subst hij
      rw [hj', up_ne hqa, up_at, hN]
      exact ⟨last_in _ _, hq0, rfl⟩
    · rw [hu i (by omega)]
      obtain ⟨c1, c2, c3⟩ := c i (by omega)
      exact ⟨List.mem_append_left _ c1, c2, by rw [up_ne (show A i ≠ a0 from fun z => c2 (by rw [z]; exact b)), up_ne (ne_of_in hq c1)]; exact c3⟩
  · by_cases hij : i = j
    · by_cases hij' : i' = j
      · omega
      · rw [hij, hj', hu i' (by omega)] at z
        exact absurd (z ▸ (c i' (by omega)).1) hq
    · by_cases hij' : i' = j
      · rw [hij', hj', hu i (by omega)] at z
        exact absurd (z ▸ (c i (by omega)).1) hq
      · rw [hu i (by omega), hu i' (by omega)] at z
        exact d i i' (by omega) (by omega) z
  · rw [up_ne hxa, up_ne (ne_of_in hq (e x hx).1)]
    exact (e x hx).2 hxa
section
variable {g : Nat → Nat} {R2 : ab_R} {XP : ab_XP} {a0 : Nat} {L0 : List Nat} {h0 : ab_H} {A : Nat → Nat} {L : List Nat} {h : ab_H} {k n : Nat}
def K9 (R2 : ab_R) (a0 : Nat) (L0 : List Nat) (h0 : ab_H) : Prop := ∀ A L' h', J9 a0 L0 h0 A 28 L' h' → R2 none L' h'
theorem x9_28 (J : J9 a0 L0 h0 A 28 L h) (hk : k = 28) (hn : n = 3164) (K : K9 R2 a0 L0 h0) : ab_Ev (tb_X9_init g R2 XP) 235 [some (.ref a0)] [] L h k n := by
  subst hk
  subst hn
  exact bk_X9_init_235 ⟨⟨by decide, by decide⟩, K _ _ _ J⟩
theorem x9_27 (J : J9 a0 L0 h0 A 27 L h) (hk : k = 27) (hn : n = 3158) (K : K9 R2 a0 L0 h0) : ab_Ev (tb_X9_init g R2 XP) 227 [some (.ref a0)] [] L h k n := by
  subst hk
  subst hn
  refine bk_X9_init_227 ⟨by decide, by decide, by decide, by decide, fun q hq => ⟨List.mem_append_left _ (J.2.2.2.2 _ J.2.1).1, F9 A 27, (up_ne (ne_of_in hq (J.2.2.2.2 _ J.2.1).1)).trans J.1, by rw [F9_len]; decide, ?_⟩⟩
  exact x9_28 (J9_step J hq (by decide) (by decide)) (by decide) (by decide) K
theorem x9_26 (J : J9 a0 L0 h0 A 26 L h) (hk : k = 26) (hn : n = 3152) (K : K9 R2 a0 L0 h0) : ab_Ev (tb_X9_init g R2 XP) 219 [some (.ref a0)] [] L h k n := by
  subst hk
  subst hn
  refine bk_X9_init_219 ⟨by decide, by decide, by decide, by decide, fun q hq => ⟨List.mem_append_left _ (J.2.2.2.2 _ J.2.1).1, F9 A 26, (up_ne (ne_of_in hq (J.2.2.2.2 _ J.2.1).1)).trans J.1, by rw [F9_len]; decide, ?_⟩⟩
  exact x9_27 (J9_step J hq (by decide) (by decide)) (by decide) (by decide) K
theorem x9_25 (J : J9 a0 L0 h0 A 25 L h) (hk : k = 25) (hn : n = 3146) (K : K9 R2 a0 L0 h0) : ab_Ev (tb_X9_init g R2 XP) 211 [some (.ref a0)] [] L h k n := by
  subst hk
  subst hn
  refine bk_X9_init_211 ⟨by decide, by decide, by decide, by decide, fun q hq => ⟨List.mem_append_left _ (J.2.2.2.2 _ J.2.1).1, F9 A 25, (up_ne (ne_of_in hq (J.2.2.2.2 _ J.2.1).1)).trans J.1, by rw [F9_len]; decide, ?_⟩⟩
  exact x9_26 (J9_step J hq (by decide) (by decide)) (by decide) (by decide) K
theorem x9_24 (J : J9 a0 L0 h0 A 24 L h) (hk : k = 24) (hn : n = 3050) (K : K9 R2 a0 L0 h0) : ab_Ev (tb_X9_init g R2 XP) 203 [some (.ref a0)] [] L h k n := by
  subst hk
  subst hn
  refine bk_X9_init_203 ⟨by decide, by decide, by decide, by decide, fun q hq => ⟨List.mem_append_left _ (J.2.2.2.2 _ J.2.1).1, F9 A 24, (up_ne (ne_of_in hq (J.2.2.2.2 _ J.2.1).1)).trans J.1, by rw [F9_len]; decide, ?_⟩⟩
  exact x9_25 (J9_step J hq (by decide) (by decide)) (by decide) (by decide) K
theorem x9_23 (J : J9 a0 L0 h0 A 23 L h) (hk : k = 23) (hn : n = 3042) (K : K9 R2 a0 L0 h0) : ab_Ev (tb_X9_init g R2 XP) 195 [some (.ref a0)] [] L h k n := by
  subst hk
  subst hn
  refine bk_X9_init_195 ⟨by decide, by decide, by decide, by decide, fun q hq => ⟨List.mem_append_left _ (J.2.2.2.2 _ J.2.1).1, F9 A 23, (up_ne (ne_of_in hq (J.2.2.2.2 _ J.2.1).1)).trans J.1, by rw [F9_len]; decide, ?_⟩⟩
  exact x9_24 (J9_step J hq (by decide) (by decide)) (by decide) (by decide) K
theorem x9_22 (J : J9 a0 L0 h0 A 22 L h) (hk : k = 22) (hn : n = 3034) (K : K9 R2 a0 L0 h0) : ab_Ev (tb_X9_init g R2 XP) 187 [some (.ref a0)] [] L h k n := by
  subst hk
  subst hn
  refine bk_X9_init_187 ⟨by decide, by decide, by decide, by decide, fun q hq => ⟨List.mem_append_left _ (J.2.2.2.2 _ J.2.1).1, F9 A 22, (up_ne (ne_of_in hq (J.2.2.2.2 _ J.2.1).1)).trans J.1, by rw [F9_len]; decide, ?_⟩⟩
  exact x9_23 (J9_step J hq (by decide) (by decide)) (by decide) (by decide) K
theorem x9_21 (J : J9 a0 L0 h0 A 21 L h) (hk : k = 21) (hn : n = 2986) (K : K9 R2 a0 L0 h0) : ab_Ev (tb_X9_init g R2 XP) 179 [some (.ref a0)] [] L h k n := by
  subst hk
  subst hn
  refine bk_X9_init_179 ⟨by decide, by decide, by decide, by decide, fun q hq => ⟨List.mem_append_left _ (J.2.2.2.2 _ J.2.1).1, F9 A 21, (up_ne (ne_of_in hq (J.2.2.2.2 _ J.2.1).1)).trans J.1, by rw [F9_len]; decide, ?_⟩⟩
  exact x9_22 (J9_step J hq (by decide) (by decide)) (by decide) (by decide) K
theorem x9_20 (J : J9 a0 L0 h0 A 20 L h) (hk : k = 20) (hn : n = 2974) (K : K9 R2 a0 L0 h0) : ab_Ev (tb_X9_init g R2 XP) 171 [some (.ref a0)] [] L h k n := by
  subst hk
  subst hn
  refine bk_X9_init_171 ⟨by decide, by decide, by decide, by decide, fun q hq => ⟨List.mem_append_left _ (J.2.2.2.2 _ J.2.1).1, F9 A 20, (up_ne (ne_of_in hq (J.2.2.2.2 _ J.2.1).1)).trans J.1, by rw [F9_len]; decide, ?_⟩⟩
  exact x9_21 (J9_step J hq (by decide) (by decide)) (by decide) (by decide) K
theorem x9_19 (J : J9 a0 L0 h0 A 19 L h) (hk : k = 19) (hn : n = 2962) (K : K9 R2 a0 L0 h0) : ab_Ev (tb_X9_init g R2 XP) 163 [some (.ref a0)] [] L h k n := by
  subst hk
  subst hn
  refine bk_X9_init_163 ⟨by decide, by decide, by decide, by decide, fun q hq => ⟨List.mem_append_left _ (J.2.2.2.2 _ J.2.1).1, F9 A 19, (up_ne (ne_of_in hq (J.2.2.2.2 _ J.2.1).1)).trans J.1, by rw [F9_len]; decide, ?_⟩⟩
  exact x9_20 (J9_step J hq (by decide) (by decide)) (by decide) (by decide) K
theorem x9_18 (J : J9 a0 L0 h0 A 18 L h) (hk : k = 18) (hn : n = 2950) (K : K9 R2 a0 L0 h0) : ab_Ev (tb_X9_init g R2 XP) 155 [some (.ref a0)] [] L h k n := by
  subst hk
  subst hn
  refine bk_X9_init_155 ⟨by decide, by decide, by decide, by decide, fun q hq => ⟨List.mem_append_left _ (J.2.2.2.2 _ J.2.1).1, F9 A 18, (up_ne (ne_of_in hq (J.2.2.2.2 _ J.2.1).1)).trans J.1, by rw [F9_len]; decide, ?_⟩⟩
  exact x9_19 (J9_step J hq (by decide) (by decide)) (by decide) (by decide) K
theorem x9_17 (J : J9 a0 L0 h0 A 17 L h) (hk : k = 17) (hn : n = 2944) (K : K9 R2 a0 L0 h0) : ab_Ev (tb_X9_init g R2 XP) 147 [some (.ref a0)] [] L h k n := by
  subst hk
  subst hn
  refine bk_X9_init_147 ⟨by decide, by decide, by decide, by decide, fun q hq => ⟨List.mem_append_left _ (J.2.2.2.2 _ J.2.1).1, F9 A 17, (up_ne (ne_of_in hq (J.2.2.2.2 _ J.2.1).1)).trans J.1, by rw [F9_len]; decide, ?_⟩⟩
  exact x9_18 (J9_step J hq (by decide) (by decide)) (by decide) (by decide) K
theorem x9_16 (J : J9 a0 L0 h0 A 16 L h) (hk : k = 16) (hn : n = 2938) (K : K9 R2 a0 L0 h0) : ab_Ev (tb_X9_init g R2 XP) 139 [some (.ref a0)] [] L h k n := by
  subst hk
  subst hn
  refine bk_X9_init_139 ⟨by decide, by decide, by decide, by decide, fun q hq => ⟨List.mem_append_left _ (J.2.2.2.2 _ J.2.1).1, F9 A 16, (up_ne (ne_of_in hq (J.2.2.2.2 _ J.2.1).1)).trans J.1, by rw [F9_len]; decide, ?_⟩⟩
  exact x9_17 (J9_step J hq (by decide) (by decide)) (by decide) (by decide) K
theorem x9_15 (J : J9 a0 L0 h0 A 15 L h) (hk : k = 15) (hn : n = 2932) (K : K9 R2 a0 L0 h0) : ab_Ev (tb_X9_init g R2 XP) 131 [some (.ref a0)] [] L h k n := by
  subst hk
  subst hn
  refine bk_X9_init_131 ⟨by decide, by decide, by decide, by decide, fun q hq => ⟨List.mem_append_left _ (J.2.2.2.2 _ J.2.1).1, F9 A 15, (up_ne (ne_of_in hq (J.2.2.2.2 _ J.2.1).1)).trans J.1, by rw [F9_len]; decide, ?_⟩⟩
  exact x9_16 (J9_step J hq (by decide) (by decide)) (by decide) (by decide) K
theorem x9_14 (J : J9 a0 L0 h0 A 14 L h) (hk : k = 14) (hn : n = 2926) (K : K9 R2 a0 L0 h0) : ab_Ev (tb_X9_init g R2 XP) 123 [some (.ref a0)] [] L h k n := by
  subst hk
  subst hn
  refine bk_X9_init_123 ⟨by decide, by decide, by decide, by decide, fun q hq => ⟨List.mem_append_left _ (J.2.2.2.2 _ J.2.1).1, F9 A 14, (up_ne (ne_of_in hq (J.2.2.2.2 _ J.2.1).1)).trans J.1, by rw [F9_len]; decide, ?_⟩⟩
  exact x9_15 (J9_step J hq (by decide) (by decide)) (by decide) (by decide) K
theorem x9_13 (J : J9 a0 L0 h0 A 13 L h) (hk : k = 13) (hn : n = 2920) (K : K9 R2 a0 L0 h0) : ab_Ev (tb_X9_init g R2 XP) 115 [some (.ref a0)] [] L h k n := by
  subst hk
  subst hn
  refine bk_X9_init_115 ⟨by decide, by decide, by decide, by decide, fun q hq => ⟨List.mem_append_left _ (J.2.2.2.2 _ J.2.1).1, F9 A 13, (up_ne (ne_of_in hq (J.2.2.2.2 _ J.2.1).1)).trans J.1, by rw [F9_len]; decide, ?_⟩⟩
  exact x9_14 (J9_step J hq (by decide) (by decide)) (by decide) (by decide) K
theorem x9_12 (J : J9 a0 L0 h0 A 12 L h) (hk : k = 12) (hn : n = 2200) (K : K9 R2 a0 L0 h0) : ab_Ev (tb_X9_init g R2 XP) 106 [some (.ref a0)] [] L h k n := by
  subst hk
  subst hn
  refine bk_X9_init_106 ⟨by decide, by decide, by decide, by decide, fun q hq => ⟨List.mem_append_left _ (J.2.2.2.2 _ J.2.1).1, F9 A 12, (up_ne (ne_of_in hq (J.2.2.2.2 _ J.2.1).1)).trans J.1, by rw [F9_len]; decide, ?_⟩⟩
  exact x9_13 (J9_step J hq (by decide) (by decide)) (by decide) (by decide) K
theorem x9_11 (J : J9 a0 L0 h0 A 11 L h) (hk : k = 11) (hn : n = 1480) (K : K9 R2 a0 L0 h0) : ab_Ev (tb_X9_init g R2 XP) 97 [some (.ref a0)] [] L h k n := by
  subst hk
  subst hn
  refine bk_X9_init_97 ⟨by decide, by decide, by decide, by decide, fun q hq => ⟨List.mem_append_left _ (J.2.2.2.2 _ J.2.1).1, F9 A 11, (up_ne (ne_of_in hq (J.2.2.2.2 _ J.2.1).1)).trans J.1, by rw [F9_len]; decide, ?_⟩⟩
  exact x9_12 (J9_step J hq (by decide) (by decide)) (by decide) (by decide) K
theorem x9_10 (J : J9 a0 L0 h0 A 10 L h) (hk : k = 10) (hn : n = 760) (K : K9 R2 a0 L0 h0) : ab_Ev (tb_X9_init g R2 XP) 88 [some (.ref a0)] [] L h k n := by
  subst hk
  subst hn
  refine bk_X9_init_88 ⟨by decide, by decide, by decide, by decide, fun q hq => ⟨List.mem_append_left _ (J.2.2.2.2 _ J.2.1).1, F9 A 10, (up_ne (ne_of_in hq (J.2.2.2.2 _ J.2.1).1)).trans J.1, by rw [F9_len]; decide, ?_⟩⟩
  exact x9_11 (J9_step J hq (by decide) (by decide)) (by decide) (by decide) K
theorem x9_9 (J : J9 a0 L0 h0 A 9 L h) (hk : k = 9) (hn : n = 600) (K : K9 R2 a0 L0 h0) : ab_Ev (tb_X9_init g R2 XP) 79 [some (.ref a0)] [] L h k n := by
  subst hk
  subst hn
  refine bk_X9_init_79 ⟨by decide, by decide, by decide, by decide, fun q hq => ⟨List.mem_append_left _ (J.2.2.2.2 _ J.2.1).1, F9 A 9, (up_ne (ne_of_in hq (J.2.2.2.2 _ J.2.1).1)).trans J.1, by rw [F9_len]; decide, ?_⟩⟩
  exact x9_10 (J9_step J hq (by decide) (by decide)) (by decide) (by decide) K
theorem x9_8 (J : J9 a0 L0 h0 A 8 L h) (hk : k = 8) (hn : n = 440) (K : K9 R2 a0 L0 h0) : ab_Ev (tb_X9_init g R2 XP) 70 [some (.ref a0)] [] L h k n := by
  subst hk
  subst hn
  refine bk_X9_init_70 ⟨by decide, by decide, by decide, by decide, fun q hq => ⟨List.mem_append_left _ (J.2.2.2.2 _ J.2.1).1, F9 A 8, (up_ne (ne_of_in hq (J.2.2.2.2 _ J.2.1).1)).trans J.1, by rw [F9_len]; decide, ?_⟩⟩
  exact x9_9 (J9_step J hq (by decide) (by decide)) (by decide) (by decide) K
theorem x9_7 (J : J9 a0 L0 h0 A 7 L h) (hk : k = 7) (hn : n = 280) (K : K9 R2 a0 L0 h0) : ab_Ev (tb_X9_init g R2 XP) 61 [some (.ref a0)] [] L h k n := by
  subst hk
  subst hn
  refine bk_X9_init_61 ⟨by decide, by decide, by decide, by decide, fun q hq => ⟨List.mem_append_left _ (J.2.2.2.2 _ J.2.1).1, F9 A 7, (up_ne (ne_of_in hq (J.2.2.2.2 _ J.2.1).1)).trans J.1, by rw [F9_len]; decide, ?_⟩⟩
  exact x9_8 (J9_step J hq (by decide) (by decide)) (by decide) (by decide) K
theorem x9_6 (J : J9 a0 L0 h0 A 6 L h) (hk : k = 6) (hn : n = 120) (K : K9 R2 a0 L0 h0) : ab_Ev (tb_X9_init g R2 XP) 52 [some (.ref a0)] [] L h k n := by
  subst hk
  subst hn
  refine bk_X9_init_52 ⟨by decide, by decide, by decide, by decide, fun q hq => ⟨List.mem_append_left _ (J.2.2.2.2 _ J.2.1).1, F9 A 6, (up_ne (ne_of_in hq (J.2.2.2.2 _ J.2.1).1)).trans J.1, by rw [F9_len]; decide, ?_⟩⟩
  exact x9_7 (J9_step J hq (by decide) (by decide)) (by decide) (by decide) K
theorem x9_5 (J : J9 a0 L0 h0 A 5 L h) (hk : k = 5) (hn : n = 100) (K : K9 R2 a0 L0 h0) : ab_Ev (tb_X9_init g R2 XP) 44 [some (.ref a0)] [] L h k n := by
  subst hk
  subst hn
  refine bk_X9_init_44 ⟨by decide, by decide, by decide, by decide, fun q hq => ⟨List.mem_append_left _ (J.2.2.2.2 _ J.2.1).1, F9 A 5, (up_ne (ne_of_in hq (J.2.2.2.2 _ J.2.1).1)).trans J.1, by rw [F9_len]; decide, ?_⟩⟩
  exact x9_6 (J9_step J hq (by decide) (by decide)) (by decide) (by decide) K
theorem x9_4 (J : J9 a0 L0 h0 A 4 L h) (hk : k = 4) (hn : n = 80) (K : K9 R2 a0 L0 h0) : ab_Ev (tb_X9_init g R2 XP) 36 [some (.ref a0)] [] L h k n := by
  subst hk
  subst hn
  refine bk_X9_init_36 ⟨by decide, by decide, by decide, by decide, fun q hq => ⟨List.mem_append_left _ (J.2.2.2.2 _ J.2.1).1, F9 A 4, (up_ne (ne_of_in hq (J.2.2.2.2 _ J.2.1).1)).trans J.1, by rw [F9_len]; decide, ?_⟩⟩
  exact x9_5 (J9_step J hq (by decide) (by decide)) (by decide) (by decide) K
theorem x9_3 (J : J9 a0 L0 h0 A 3 L h) (hk : k = 3) (hn : n = 60) (K : K9 R2 a0 L0 h0) : ab_Ev (tb_X9_init g R2 XP) 28 [some (.ref a0)] [] L h k n := by
  subst hk
  subst hn
  refine bk_X9_init_28 ⟨by decide, by decide, by decide, by decide, fun q hq => ⟨List.mem_append_left _ (J.2.2.2.2 _ J.2.1).1, F9 A 3, (up_ne (ne_of_in hq (J.2.2.2.2 _ J.2.1).1)).trans J.1, by rw [F9_len]; decide, ?_⟩⟩
  exact x9_4 (J9_step J hq (by decide) (by decide)) (by decide) (by decide) K
theorem x9_2 (J : J9 a0 L0 h0 A 2 L h) (hk : k = 2) (hn : n = 40) (K : K9 R2 a0 L0 h0) : ab_Ev (tb_X9_init g R2 XP) 20 [some (.ref a0)] [] L h k n := by
  subst hk
  subst hn
  refine bk_X9_init_20 ⟨by decide, by decide, by decide, by decide, fun q hq => ⟨List.mem_append_left _ (J.2.2.2.2 _ J.2.1).1, F9 A 2, (up_ne (ne_of_in hq (J.2.2.2.2 _ J.2.1).1)).trans J.1, by rw [F9_len]; decide, ?_⟩⟩
  exact x9_3 (J9_step J hq (by decide) (by decide)) (by decide) (by decide) K
theorem x9_1 (J : J9 a0 L0 h0 A 1 L h) (hk : k = 1) (hn : n = 20) (K : K9 R2 a0 L0 h0) : ab_Ev (tb_X9_init g R2 XP) 12 [some (.ref a0)] [] L h k n := by
  subst hk
  subst hn
  refine bk_X9_init_12 ⟨by decide, by decide, by decide, by decide, fun q hq => ⟨List.mem_append_left _ (J.2.2.2.2 _ J.2.1).1, F9 A 1, (up_ne (ne_of_in hq (J.2.2.2.2 _ J.2.1).1)).trans J.1, by rw [F9_len]; decide, ?_⟩⟩
  exact x9_2 (J9_step J hq (by decide) (by decide)) (by decide) (by decide) K
theorem x9_0 (J : J9 a0 L0 h0 A 0 L h) (hk : k = 0) (hn : n = 0) (K : K9 R2 a0 L0 h0) : ab_Ev (tb_X9_init g R2 XP) 4 [some (.ref a0)] [] L h k n := by
  subst hk
  subst hn
  refine bk_X9_init_4 ⟨by decide, by decide, by decide, by decide, fun q hq => ⟨List.mem_append_left _ (J.2.2.2.2 _ J.2.1).1, F9 A 0, (up_ne (ne_of_in hq (J.2.2.2.2 _ J.2.1).1)).trans J.1, by rw [F9_len]; decide, ?_⟩⟩
  exact x9_1 (J9_step J hq (by decide) (by decide)) (by decide) (by decide) K
theorem x9_init (hin : a0 ∈ L) (ha : h a0 = .inr (12, [.null, .null, .null, .null, .null, .null, .null, .null, .null, .null, .null, .null, .null, .null, .null, .null, .null, .null, .null, .null, .null, .null, .null, .null, .null, .null, .null, .null, .long 0, .int 0, .int 0, .int 0, .int 0, .int 0, .int 0, .int 0])) (K : K9 R2 a0 L h) : wp_X9_init g [.ref a0] L h R2 XP := by
  refine bk_X9_init_0 (x9_0 (A := fun _ => 0) ⟨ha.trans ?_, hin, fun i hi => by omega, fun i i' hi => by omega, fun x hx => ⟨hx, fun _ => rfl⟩⟩ rfl rfl K)
  rfl
end
/-! the class is made -/
section
variable {g : Nat → Nat} {R2 : ab_R} {XP : ab_XP} {a : Nat} {L : List Nat} {h : ab_H}
theorem x8_init (hm : a ∈ L) (ha : h a = .inr (11, [.null, .null, .null, .null, .long 0])) (K : ∀ (L' : List Nat) (h' : ab_H) (r : Nat → Nat), (∀ x, x ∈ L → x ∈ L' ∧ (x ≠ a → h' x = h x)) → (∀ i, i < 4 → r i ∈ L' ∧ r i ∉ L ∧ h' (r i) = .inr (2, [.int 0, .ref (g 0), .int 0])) → (∀ i i', i < 4 → i' < 4 → r i = r i' → i = i') → h' a = .inr (11, [.ref (r 0), .ref (r 1), .ref (r 2), .ref (r 3), .long 0]) → R2 none L' h') : wp_X8_init g [.ref a] L h R2 XP := by
  have hl : ∀ {n m : Nat}, Nat.ble (n + 1) m = true → n < m := fun h => Nat.le_of_ble_eq_true h
  have ia : ∀ {L : List Nat} {x y : Nat}, x ∈ L → x ∈ L ++ [y] := fun h => List.mem_append_left _ h
  have na : ∀ {L : List Nat} {x y : Nat}, x ∉ L ++ [y] → x ∉ L := fun h q => h (List.mem_append_left _ q)
  refine bk_X8_init_0 ⟨by decide, by decide, fun p0 f0 => ⟨⟨by decide, by decide⟩, r_alInit (last_in _ _) (up_at _ _ _) (fun h1 hb1 hp1 => ?_)⟩⟩
  have d0 : a ≠ p0 := ne_of_in f0 hm
  have e1 : h1 a = .inr (11, [.null, .null, .null, .null, .long 0]) := (hb1 a d0).trans ((up_ne d0).trans ha)
  refine ⟨rfl, ia hm, _, e1, hl rfl, by decide, by decide, fun p1 f1 => ⟨⟨by decide, by decide⟩, r_alInit (last_in _ _) (up_at _ _ _) (fun h2 hb2 hp2 => ?_)⟩⟩
  have d1 : a ≠ p1 := ne_of_in f1 (ia hm)
  have d01 : p0 ≠ p1 := ne_of_in f1 (last_in _ _)
  have e2 : h2 a = .inr (11, [.ref p0, .null, .null, .null, .long 0]) := (hb2 a d1).trans ((up_ne d1).trans (up_at _ _ _))
  refine ⟨rfl, ia (ia hm), _, e2, hl rfl, by decide, by decide, fun p2 f2 => ⟨⟨by decide, by decide⟩, r_alInit (last_in _ _) (up_at _ _ _) (fun h3 hb3 hp3 => ?_)⟩⟩
  have d2 : a ≠ p2 := ne_of_in f2 (ia (ia hm))
  have d02 : p0 ≠ p2 := ne_of_in f2 (ia (last_in _ _))
  have d12 : p1 ≠ p2 := ne_of_in f2 (last_in _ _)
  have e3 : h3 a = .inr (11, [.ref p0, .ref p1, .null, .null, .long 0]) := (hb3 a d2).trans ((up_ne d2).trans (up_at _ _ _))
  refine ⟨rfl, ia (ia (ia hm)), _, e3, hl rfl, by decide, by decide, fun p3 f3 => ⟨⟨by decide, by decide⟩, r_alInit (last_in _ _) (up_at _ _ _) (fun h4 hb4 hp4 => ?_)⟩⟩
  have d3 : a ≠ p3 := ne_of_in f3 (ia (ia (ia hm)))
  have d03 : p0 ≠ p3 := ne_of_in f3 (ia (ia (last_in _ _)))
  have d13 : p1 ≠ p3 := ne_of_in f3 (ia (last_in _ _))
  have d23 : p2 ≠ p3 := ne_of_in f3 (last_in _ _)
  have e4 : h4 a = .inr (11, [.ref p0, .ref p1, .ref p2, .null, .long 0]) := (hb4 a d3).trans ((up_ne d3).trans (up_at _ _ _))
  refine ⟨rfl, ia (ia (ia (ia hm))), _, e4, hl rfl, ia (ia (ia (ia hm))), _, up_at _ _ _, hl rfl, ⟨by decide, by decide⟩, ?_⟩
  have U : ∀ {z : ab_H} {w1 w2 : ab_E} {b : Nat}, b ≠ a → va_up (va_up z a w1) a w2 b = z b := fun hb => by rw [up_ne hb, up_ne hb]
  have g0 : h4 p0 = .inr (2, [.int 0, .ref (g 0), .int 0]) := by
    rw [hb4 p0 d03, up_ne d03, up_ne d0.symm, hb3 p0 d02, up_ne d02, up_ne d0.symm, hb2 p0 d01, up_ne d01, up_ne d0.symm, hp1]
  have g1 : h4 p1 = .inr (2, [.int 0, .ref (g 0), .int 0]) := by
    rw [hb4 p1 d13, up_ne d13, up_ne d1.symm, hb3 p1 d12, up_ne d12, up_ne d1.symm, hp2]
  have g2 : h4 p2 = .inr (2, [.int 0, .ref (g 0), .int 0]) := by
    rw [hb4 p2 d23, up_ne d23, up_ne d2.symm, hp3]
  refine K _ _ (fun i => if i = 0 then p0 else if i = 1 then p1 else if i = 2 then p2 else p3) (fun x hx => ⟨ia (ia (ia (ia hx))), fun hxa => ?_⟩) (fun i hi => ?_) (fun i i' hi hi' z => ?_) ?_
  · have x0 := ne_of_in f0 hx
    have x1 := ne_of_in f1 (ia hx)
    have x2 := ne_of_in f2 (ia (ia hx))
    have x3 := ne_of_in f3 (ia (ia (ia hx)))
    rw [U hxa, hb4 x x3, up_ne x3, up_ne hxa, hb3 x x2, up_ne x2, up_ne hxa, hb2 x x1, up_ne x1, up_ne hxa, hb1 x x0, up_ne x0]
  · rcases (show i = 0 ∨ i = 1 ∨ i = 2 ∨ i = 3 by omega) with rfl | rfl | rfl | rfl
    · exact ⟨ia (ia (ia (last_in _ _))), f0, (U d0.symm).trans g0⟩
    · exact ⟨ia (ia (last_in _ _)), na f1, (U d1.symm).trans g1⟩
    · exact ⟨ia (last_in _ _), na (na f2), (U d2.symm).trans g2⟩
    · exact ⟨last_in _ _, na (na (na f3)), (U d3.symm).trans hp4⟩
  · rcases (show i = 0 ∨ i = 1 ∨ i = 2 ∨ i = 3 by omega) with rfl | rfl | rfl | rfl <;> rcases (show i' = 0 ∨ i' = 1 ∨ i' = 2 ∨ i' = 3 by omega) with rfl | rfl | rfl | rfl
    all_goals first | rfl | exact absurd z d01 | exact absurd z d02 | exact absurd z d03 | exact absurd z d12 | exact absurd z d13 | exact absurd z d23 | exact absurd z.symm d01 | exact absurd z.symm d02 | exact absurd z.symm d03 | exact absurd z.symm d12 | exact absurd z.symm d13 | exact absurd z.symm d23
  · rw [up_at]
    rfl
end
