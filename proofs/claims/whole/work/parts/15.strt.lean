/-! ===== closed under one step: every instruction of a checked method ===== -/
theorem kstrs_in {own : String} {i a : Nat} (h : kstrs.any (fun q => decide (q.1 = own) && (decide (q.2.1 = i) && decide (q.2.2.2 = a))) = true) : ∃ q ∈ kstrs, q.1 = own ∧ q.2.1 = i ∧ q.2.2.2 = a := by
  obtain ⟨q, h1, h2⟩ := List.any_eq_true.mp h
  obtain ⟨h2, h3⟩ := Bool.and_eq_true_iff.mp h2
  obtain ⟨h3, h4⟩ := Bool.and_eq_true_iff.mp h3
  exact ⟨q, h1, of_decide_eq_true h2, of_decide_eq_true h3, of_decide_eq_true h4⟩
theorem kstrs_lt : ∀ q ∈ kstrs, q.2.2.2 < 3 := by
  intro q hq
  unfold kstrs at hq
  rcases List.mem_cons.mp hq with rfl | hq
  · exact Nat.le_of_ble_eq_true rfl
  · rcases List.mem_cons.mp hq with rfl | hq
    · exact Nat.le_of_ble_eq_true rfl
    · rcases List.mem_cons.mp hq with rfl | hq
      · exact Nat.le_of_ble_eq_true rfl
      · cases hq
theorem kby_1 (i : Nat) (hi : i < 3) : ([4, 32, 6] : List Nat).getD i 0 = (kbyt i).length := by
  match i, hi with
  | 0, _ => rfl
  | 1, _ => rfl
  | 2, _ => rfl
theorem kby_2 (i : Nat) (hi : i < 3) : [kbyt 0, kbyt 1, kbyt 2].getD i [] = kbyt i := by
  match i, hi with
  | 0, _ => rfl
  | 1, _ => rfl
  | 2, _ => rfl
theorem kby_3 (i : Nat) (hi : i < 3) : (kbyt i).length < 2 ^ 31 := by
  rw [← kby_1 i hi]
  match i, hi with
  | 0, _ => exact Nat.le_of_ble_eq_true rfl
  | 1, _ => exact Nat.le_of_ble_eq_true rfl
  | 2, _ => exact Nat.le_of_ble_eq_true rfl
theorem strT {A : Nat → Prop} {ad : Nat × Nat → Nat} {xv : Value} {xs : Nat → Int32} {L i : Nat} {s : State} (hZ : ZK A ad xv xs L s) (hi : i < 3) : va_T .byte (ad (3, i)) (kbyt i).length (fun j => .int (lgD (kbyt i) j)) A s s.heap := by
  have h := (hZ.2.2.1.1 i hi).2.2.2
  rw [kby_1 i hi, kby_2 i hi] at h
  have e : (fun j => Value.int (lgD (kbyt i) j)) = (fun j => Value.int ((kbyt i).getD j 0)) := funext fun j => by rw [lgD_getD]
  rw [e]
  exact h
