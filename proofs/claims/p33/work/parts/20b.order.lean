section
variable {g : Nat → Nat} {R : Option Value → cc_C → Prop} {X : String → cc_C → Prop}
end
/-! all orders, one after the other: fewer than 720 steps lead from the first to the last -/
/-- as lists, so that the kernel can count -/
def lsP (n : Nat) (p : Nat → Nat) : List Nat := (List.range n).map p
def ofL (l : List Nat) : Nat → Nat := fun i => l.getD i 0
def goL (n : Nat) (l : List Nat) : Option (List Nat) := (goF n (ofL l)).map (lsP n)
/-- from l, the last order comes after m steps, and all places are below n -/
def chain (n : Nat) : Nat → List Nat → Bool
  | 0, l => (goL n l).isNone && l.all (fun x => Nat.blt x n)
  | m + 1, l => l.all (fun x => Nat.blt x n) && match goL n l with
    | none => false
    | some l' => chain n m l'
theorem chain3 : chain 3 5 [0, 1, 2] = true := by decide +kernel
theorem chain4 : chain 4 23 [0, 1, 2, 3] = true := by decide +kernel
theorem chain5 : chain 5 119 [0, 1, 2, 3, 4] = true := by decide +kernel
theorem chain6 : chain 6 719 [0, 1, 2, 3, 4, 5] = true := by decide +kernel
