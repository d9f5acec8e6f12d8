def kd (ru : Nat) : Int32 := match ru with
  | 0 => 112
  | 1 => 120
  | 2 => 98
  | 3 => 110
  | 4 => 108
  | 5 => 100
  | _ => 109
def clE (ru : Nat) (k xa xb xc : Int32) (m : Nat → Nat) : cc_Ef := if k = kd ru then efI k xa xb xc m else (m, 0)
section
variable {g : Nat → Nat} {R : Option Value → cc_C → Prop} {X : String → cc_C → Prop}
end
