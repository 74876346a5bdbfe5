/-! ===== the law's beginning: both objects are made ===== -/
/-- the new DriftSea's fields -/
def fs0 : List MV := [mR 0 0, mR 0 0, mR 0 0, mR 0 0, mR 0 0, mR 0 0, mR 0 0, mR 0 0, mR 0 0, mR 0 0, mR 0 0, mR 0 0, mR 0 0, mR 0 0, mI 0, mI 0, mI 0]
def lawS0 : ES KL := (3, [some (mR 5 0), none, none, none, none, none, none], [mR 10 0], [.inl (11, fs0)], (601023, 7293017))
def lchk (z : ES KL) : Bool := decide (z.1 = 23) && (decide (z.2.1 = [some (mR 5 0), some (mR 10 0), some (mR 60 0), some (mR 55 0), some (mI 0), none, none]) && (decide (z.2.2.1 = []) && ((Nat.ble 1000 z.2.2.2.2.1 && Nat.ble 6000 z.2.2.2.2.2) && (kchk z.2.2.2.1 && fchk (stM z.2.2.2.1)))))
set_option maxRecDepth 100000 in
theorem law_ev : (match estp OL (ecal OL 10) kd_L_a 12 lawS0 with
    | some z => lchk z
    | none => false) = true := by decide +kernel
theorem law_run : ∃ z : ES KL, estp OL (ecal OL 10) kd_L_a 12 lawS0 = some z ∧ lchk z = true := by
  have h := law_ev
  cases e : estp OL (ecal OL 10) kd_L_a 12 lawS0 with
  | none => rw [e] at h; cases h
  | some z => rw [e] at h; exact ⟨z, rfl, h⟩
