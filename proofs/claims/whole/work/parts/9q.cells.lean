/-! ===== the typed store stands for cells of the machine ===== -/
/-- the cells, the law's own long array among them -/
def kcx : List (Nat × Nat) := kcells ++ [(55, 0)]
def kix : List (Nat × Nat) → Nat × Nat → Nat
  | [], _ => 0
  | q :: l, r => cond (Nat.beq q.1 r.1 && Nat.beq q.2 r.2) 0 (kix l r + 1)
/-- how many cells of a kind there are -/
def kcn : Nat → Nat
  | 0 => 1
  | 1 => 1
  | 2 => 3
  | 3 => 3
  | 4 => 5
  | 5 => 1
  | c => kcnt c
def kvok : MV → Prop
  | .inr (.inr r) => r.2 < kcn r.1
  | _ => True
/-- addresses: the new cells in their order from base on, the statics where they are -/
def kad (base : Nat) (sa : Nat × Nat → Nat) (r : Nat × Nat) : Nat := cond (Nat.blt r.1 10) (sa r) (base + kix kcx r)
def kfs (ad : Nat × Nat → Nat) (xv : Value) (σ : S2) (c i : Nat) (fds : List KF) : List Value := (List.range fds.length).map (fun k => match fds[k]? with
  | some fd => (match kfv σ c i k fd with
    | some v => em ad xv v
    | none => .null)
  | none => .null)
def kce (cT : Nat → ClassId) (ad : Nat × Nat → Nat) (xv : Value) (σ : S2) (r : Nat × Nat) : va_E := match kobj r.1 with
  | some q => .inr (q.1, kfs ad xv σ r.1 r.2 q.2)
  | none => match karr r.1 with
    | some n => .inl (cT 0, n, .inl (σ.1 r.1 r.2))
    | none => match r.1 with
      | 16 => .inl (cT 2, 4, .inr (.inr (.inr (.inr (fun j => some (ad (17, j)))))))
      | 23 => .inl (cT 3, 30, .inr (.inr (.inr (.inr (fun j => some (ad (20, 5 + j)))))))
      | _ => .inl (cT 1, 1, .inr (.inl (fun _ => σ.2 55)))
def krep (cT : Nat → ClassId) (ad : Nat × Nat → Nat) (xv : Value) (σ : S2) : va_W := kcx.map (fun r => (ad r, kce cT ad xv σ r))
theorem kix_all : (kcx.all (fun r => decide (kcx[kix kcx r]? = some r))) = true := by decide +kernel
theorem kcx_big : (kcx.all (fun r => Nat.ble 10 r.1)) = true := by decide +kernel
/-- every valid reference of a new kind is a cell -/
def kvl (c : Nat) : Bool := (List.range (kcn c)).all (fun i => kcx.any (fun q => Nat.beq q.1 c && Nat.beq q.2 i))
theorem kvl_all : ((List.range 102).all (fun c => Nat.blt c 10 || kvl c)) = true := by decide +kernel
theorem kcn_big (c : Nat) (h : 102 ≤ c) : kcn c = 0 := by
  unfold kcn
  split
  · omega
  · omega
  · omega
  · omega
  · omega
  · omega
  · unfold kcnt
    split <;> first | omega | rfl
theorem kcell_of {r : Nat × Nat} (h : 10 ≤ r.1) (hv : r.2 < kcn r.1) : kcx[kix kcx r]? = some r := by
  by_cases hc : r.1 < 102
  · have h1 := List.all_eq_true.mp kvl_all r.1 (List.mem_range.mpr hc)
    rcases Bool.or_eq_true_iff.mp h1 with h1 | h1
    · exact absurd (Nat.le_of_ble_eq_true h1) (by omega)
    · have h2 := List.all_eq_true.mp h1 r.2 (List.mem_range.mpr hv)
      obtain ⟨q, q1, q2⟩ := List.any_eq_true.mp h2
      obtain ⟨q2, q3⟩ := Bool.and_eq_true_iff.mp q2
      have e : q = r := Prod.ext (Nat.eq_of_beq_eq_true q2) (Nat.eq_of_beq_eq_true q3)
      subst e
      exact of_decide_eq_true (List.all_eq_true.mp kix_all q q1)
  · rw [kcn_big r.1 (by omega)] at hv
    omega
