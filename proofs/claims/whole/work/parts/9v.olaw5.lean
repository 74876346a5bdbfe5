/-! ===== the store's laws: fields are written ===== -/
section
variable {cT : Nat → ClassId} {ad : Nat × Nat → Nat} {xv : Value}
def fdD (n : Nat) : String := match n with
  | 0 => "I"
  | 1 => "Z"
  | 2 => "J"
  | _ => "LDriftSea$Rule;"
def pfT (c : Nat) : Bool := match kobj c with
  | none => true
  | some q => match vwCl[q.1]? with
    | none => false
    | some (_, T, _) => (List.range q.2.length).all fun k => match q.2[k]? with
      | some (a, _, _) => cond (Nat.beq a 3 || Nat.beq a 4) true (decide ((T k).2.2.1 = fdD a))
      | none => true
theorem pf_tab : ∀ c, c < 102 → pfT c = true := by decide +kernel
end
