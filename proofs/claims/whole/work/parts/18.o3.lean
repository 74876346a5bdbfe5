/-! ===== the typed store stands for cells of the machine: its heap ===== -/
/-- the rule that holds, told by a number: 0 none, else one more than its place -/
def krl (x : Int32) : Nat × Nat := match x.toNatClampNeg with
  | 1 => (17, 0)
  | 2 => (17, 1)
  | 3 => (17, 2)
  | 4 => (17, 3)
  | 5 => (17, 4)
  | _ => (0, 0)
theorem krl_nI {n : Nat} (h : n < 5) : krl (nI (n + 1)) = (17, n) := by
  match n, h with
  | 0, _ => rfl
  | 1, _ => rfl
  | 2, _ => rfl
  | 3, _ => rfl
  | 4, _ => rfl
/-- what a field holds -/
def kfv (σ : S2) (c i k : Nat) (fd : KF) : Option MV := match fd with
  | (0, _, _) => some (mI (σ.1 c i k))
  | (1, _, _) => some (mI (σ.1 c i k))
  | (2, _, _) => some (mL (σ.2 c))
  | (3, c', _) => some (mR c' i)
  | (4, c', i') => some (mR c' i')
  | (5, _, _) => some (.inr (.inr (krl (σ.1 c i k))))
  | _ => none
def k3gf (σ : S2) (r : Nat × Nat) (ci k : Nat) : Option MV := match r with
  | (c, i) => match c with
    | 2 => cond (Nat.beq ci 13) (match k with
      | 0 => some (mI 0)
      | 1 => some (mR 3 i)
      | _ => none) none
    | c => match kobj c with
      | none => none
      | some q => cond (Nat.beq q.1 ci) (match q.2[k]? with
        | some fd => kfv σ c i k fd
        | none => none) none
/-- the typed store's heap: the script is xs, L long -/
def O3 (xs : Nat → Int32) (L : Nat) : MOps S2 := (k3gf, k2pf, fun _ r => k2ln L r, k2ai xs L, k2wi, k2al, fun _ _ _ => none, fun _ r => k2ar r, fun _ _ _ _ => none, fun _ _ => none, fun _ _ _ => none, fun _ r => k2ab r, k2gs, fun _ r => k2co r)
