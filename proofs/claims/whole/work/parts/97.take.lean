/-! ===== a sea begins: the reference ===== -/
section
variable {s s0 s' t : S2} {I T B : Nat} {w : Nat → Int32}
theorem tk_L26 : ∀ (m k fu : Nat) (t : S2), k + m = 4 → m < fu → (∀ j, j < k → t.1 75 0 j = t.1 71 0 j) → ∃ t', f_M_takeSea_L26 fu (nI k) t = f_M_takeSea_L51 FU (nI 0) t' ∧ (∀ j, j < 4 → t'.1 75 0 j = t.1 71 0 j) ∧ Fr (Kar 75 0) t t' := by
  intro m
  induction m with
  | zero =>
    intro k fu t hk hf h
    obtain ⟨g, rfl, -⟩ := suc_of hf
    refine ⟨t, ?_, fun j hj => h j (by omega), Fr.refl _ _⟩
    show b_M_takeSea_L26 _ _ _ = _
    unfold b_M_takeSea_L26
    rw [of_4, if_pos (nI_le (by omega) (by omega)), show Int32.ofInt 0 = nI 0 from of_0]
  | succ m ih =>
    intro k fu t hk hf h
    obtain ⟨g, rfl, hg⟩ := suc_lt hf
    obtain ⟨t', a1, a2, a3⟩ := ih (k + 1) g (pkS t 75 0 k (t.1 71 0 k)) (by omega) hg (fun j hj => by
      rw [pkS_v, pkS_v, if_neg (show ¬ (71 = 75 ∧ 0 = 0 ∧ j = k) by omega)]
      by_cases e : j = k
      · rw [if_pos ⟨rfl, rfl, e⟩, e]
      · rw [if_neg (by omega)]; exact h j (by omega))
    refine ⟨t', ?_, fun j hj => by rw [a2 j hj, pkS_v, if_neg (by omega)], (Fr.pk (Kar_self 75 0 k) t _).trans a3⟩
    show b_M_takeSea_L26 _ _ _ = _
    unfold b_M_takeSea_L26
    rw [of_4, if_neg (nI_ge (by omega) (by omega)), ix_nI (n := 4) (k := k) (by omega) (by omega), Option.bind_some, Option.bind_some, Option.bind_some, of_1, nI_add]
    exact a1
theorem tk_L51 : ∀ (m k fu : Nat) (t : S2), k + m = 48 → m < fu → (∀ j, j < k → t.1 76 0 j = t.1 72 0 j) → ∃ t', f_M_takeSea_L51 fu (nI k) t = f_M_takeSea_L77 FU (nI 0) t' ∧ (∀ j, j < 48 → t'.1 76 0 j = t.1 72 0 j) ∧ Fr (Kar 76 0) t t' := by
  intro m
  induction m with
  | zero =>
    intro k fu t hk hf h
    obtain ⟨g, rfl, -⟩ := suc_of hf
    refine ⟨t, ?_, fun j hj => h j (by omega), Fr.refl _ _⟩
    show b_M_takeSea_L51 _ _ _ = _
    unfold b_M_takeSea_L51
    rw [of_48, if_pos (nI_le (by omega) (by omega)), show Int32.ofInt 0 = nI 0 from of_0]
  | succ m ih =>
    intro k fu t hk hf h
    obtain ⟨g, rfl, hg⟩ := suc_lt hf
    obtain ⟨t', a1, a2, a3⟩ := ih (k + 1) g (pkS t 76 0 k (t.1 72 0 k)) (by omega) hg (fun j hj => by
      rw [pkS_v, pkS_v, if_neg (show ¬ (72 = 76 ∧ 0 = 0 ∧ j = k) by omega)]
      by_cases e : j = k
      · rw [if_pos ⟨rfl, rfl, e⟩, e]
      · rw [if_neg (by omega)]; exact h j (by omega))
    refine ⟨t', ?_, fun j hj => by rw [a2 j hj, pkS_v, if_neg (by omega)], (Fr.pk (Kar_self 76 0 k) t _).trans a3⟩
    show b_M_takeSea_L51 _ _ _ = _
    unfold b_M_takeSea_L51
    rw [of_48, if_neg (nI_ge (by omega) (by omega)), ix_nI (n := 48) (k := k) (by omega) (by omega), Option.bind_some, Option.bind_some, Option.bind_some, of_1, nI_add]
    exact a1
theorem tk_L77 : ∀ (m k fu : Nat) (t : S2), k + m = 32 → m < fu → (∀ j, j < k → t.1 77 0 j = t.1 73 0 j) → ∃ t', f_M_takeSea_L77 fu (nI k) t = f_M_takeSea_L103 FU (nI 0) t' ∧ (∀ j, j < 32 → t'.1 77 0 j = t.1 73 0 j) ∧ Fr (Kar 77 0) t t' := by
  intro m
  induction m with
  | zero =>
    intro k fu t hk hf h
    obtain ⟨g, rfl, -⟩ := suc_of hf
    refine ⟨t, ?_, fun j hj => h j (by omega), Fr.refl _ _⟩
    show b_M_takeSea_L77 _ _ _ = _
    unfold b_M_takeSea_L77
    rw [of_32, if_pos (nI_le (by omega) (by omega)), show Int32.ofInt 0 = nI 0 from of_0]
  | succ m ih =>
    intro k fu t hk hf h
    obtain ⟨g, rfl, hg⟩ := suc_lt hf
    obtain ⟨t', a1, a2, a3⟩ := ih (k + 1) g (pkS t 77 0 k (t.1 73 0 k)) (by omega) hg (fun j hj => by
      rw [pkS_v, pkS_v, if_neg (show ¬ (73 = 77 ∧ 0 = 0 ∧ j = k) by omega)]
      by_cases e : j = k
      · rw [if_pos ⟨rfl, rfl, e⟩, e]
      · rw [if_neg (by omega)]; exact h j (by omega))
    refine ⟨t', ?_, fun j hj => by rw [a2 j hj, pkS_v, if_neg (by omega)], (Fr.pk (Kar_self 77 0 k) t _).trans a3⟩
    show b_M_takeSea_L77 _ _ _ = _
    unfold b_M_takeSea_L77
    rw [of_32, if_neg (nI_ge (by omega) (by omega)), ix_nI (n := 32) (k := k) (by omega) (by omega), Option.bind_some, ix_nI (n := 44) (k := k) (by omega) (by omega), Option.bind_some, Option.bind_some, of_1, nI_add]
    exact a1
theorem tk_L103 : ∀ (m k fu : Nat) (t : S2), k + m = 12 → m < fu → (∀ j, j < k → t.1 78 0 j = t.1 74 0 j) → ∃ t', f_M_takeSea_L103 fu (nI k) t = f_M_takeSea_L129 FU (nI 0) t' ∧ (∀ j, j < 12 → t'.1 78 0 j = t.1 74 0 j) ∧ Fr (Kar 78 0) t t' := by
  intro m
  induction m with
  | zero =>
    intro k fu t hk hf h
    obtain ⟨g, rfl, -⟩ := suc_of hf
    refine ⟨t, ?_, fun j hj => h j (by omega), Fr.refl _ _⟩
    show b_M_takeSea_L103 _ _ _ = _
    unfold b_M_takeSea_L103
    rw [of_12, if_pos (nI_le (by omega) (by omega)), show Int32.ofInt 0 = nI 0 from of_0]
  | succ m ih =>
    intro k fu t hk hf h
    obtain ⟨g, rfl, hg⟩ := suc_lt hf
    obtain ⟨t', a1, a2, a3⟩ := ih (k + 1) g (pkS t 78 0 k (t.1 74 0 k)) (by omega) hg (fun j hj => by
      rw [pkS_v, pkS_v, if_neg (show ¬ (74 = 78 ∧ 0 = 0 ∧ j = k) by omega)]
      by_cases e : j = k
      · rw [if_pos ⟨rfl, rfl, e⟩, e]
      · rw [if_neg (by omega)]; exact h j (by omega))
    refine ⟨t', ?_, fun j hj => by rw [a2 j hj, pkS_v, if_neg (by omega)], (Fr.pk (Kar_self 78 0 k) t _).trans a3⟩
    show b_M_takeSea_L103 _ _ _ = _
    unfold b_M_takeSea_L103
    rw [of_12, if_neg (nI_ge (by omega) (by omega)), ix_nI (n := 12) (k := k) (by omega) (by omega), Option.bind_some, Option.bind_some, Option.bind_some, of_1, nI_add]
    exact a1
def K79 (c _ k : Nat) : Bool := (c == 79 || (c == 80 || (c == 81 || (c == 82 || c == 83)))) || (c == 60 && (k == 36 || (k == 37 || (k == 76 || (k == 55 || (k == 57 || k == 78))))))
theorem pw_b : ∀ b, b ≤ 4 → (nI 1 <<< (nI b &&& 31)) - nI 1 = nI (2 ^ b - 1) ∧ 2 ^ b - 1 < 16 ∧ ∀ k, k < b → (2 ^ b - 1).testBit k = true := by decide +kernel
theorem tk_L129 (hB : B ≤ 4) : ∀ (m a fu : Nat) (t : S2), a + m = 6 → m < fu → t.1 60 0 30 = nI B → (∀ j, j < a → t.1 79 0 j = t.1 76 0 (8 * j) ∧ t.1 80 0 j = t.1 76 0 (8 * j + 1) ∧ t.1 81 0 j = t.1 76 0 (8 * j + 2) ∧ t.1 82 0 j = nI j ∧ t.1 83 0 j = 0) → ∃ t', f_M_takeSea_L129 fu (nI a) t = some (t', t.1 60 0 28) ∧ (∀ j, j < 6 → t'.1 79 0 j = t.1 76 0 (8 * j) ∧ t'.1 80 0 j = t.1 76 0 (8 * j + 1) ∧ t'.1 81 0 j = t.1 76 0 (8 * j + 2) ∧ t'.1 82 0 j = nI j ∧ t'.1 83 0 j = 0) ∧ (t'.1 60 0 36 = nI (2 ^ B - 1) ∧ t'.1 60 0 37 = 0 ∧ t'.1 60 0 76 = 0 ∧ t'.1 60 0 55 = 0 ∧ t'.1 60 0 57 = 0 ∧ t'.1 60 0 78 = 0) ∧ Fr K79 t t' := by
  intro m
  induction m with
  | zero =>
    intro a fu t ha hf h30 h
    obtain ⟨g, rfl, -⟩ := suc_of hf
    refine ⟨pkS (pkS (pkS (pkS (pkS (pkS t 60 0 36 (nI (2 ^ B - 1))) 60 0 37 0) 60 0 76 0) 60 0 55 0) 60 0 57 0) 60 0 78 0, ?_, fun j hj => ?_, ?_, ((((((Fr.pk rfl t _).pk' _ rfl).pk' _ rfl).pk' _ rfl).pk' _ rfl).pk' _ rfl)⟩
    · show b_M_takeSea_L129 _ _ _ = _
      unfold b_M_takeSea_L129
      rw [of_6, if_pos (nI_le (by omega) (by omega)), h30, of_1, (pw_b B hB).1, show Int32.ofInt 0 = 0 from of_0, Option.bind_some, Option.bind_some, Option.bind_some, Option.bind_some, Option.bind_some, Option.bind_some]
      simp [pkS_v]
    · have := h j (by omega)
      simp only [pkS_v, show ¬ (79 = 60) by decide, show ¬ (80 = 60) by decide, show ¬ (81 = 60) by decide, show ¬ (82 = 60) by decide, show ¬ (83 = 60) by decide, false_and, if_false]
      exact this
    · simp [pkS_v]
  | succ m ih =>
    intro a fu t ha hf h30 h
    obtain ⟨g, rfl, hg⟩ := suc_lt hf
    obtain ⟨t', a1, a2, a3, a4⟩ := ih (a + 1) g (pkS (pkS (pkS (pkS (pkS t 79 0 a (t.1 76 0 (8 * a))) 80 0 a (t.1 76 0 (8 * a + 1))) 81 0 a (t.1 76 0 (8 * a + 2))) 82 0 a (nI a)) 83 0 a 0) (by omega) hg (by simp [pkS_v, h30]) (fun j hj => by
      simp only [pkS_1, upd, Nat.reduceEqDiff, false_and, if_false, true_and, and_true, if_true]
      by_cases e : j = a
      · simp only [e, if_true]
        exact ⟨trivial, trivial, trivial, trivial, trivial⟩
      · simp only [e, if_false]
        exact h j (by omega))
    have e76 : (pkS (pkS (pkS (pkS (pkS t 79 0 a (t.1 76 0 (8 * a))) 80 0 a (t.1 76 0 (8 * a + 1))) 81 0 a (t.1 76 0 (8 * a + 2))) 82 0 a (nI a)) 83 0 a 0).1 76 0 = t.1 76 0 := by
      rw [pkS_1, if_neg (by omega), pkS_1, if_neg (by omega), pkS_1, if_neg (by omega), pkS_1, if_neg (by omega), pkS_1, if_neg (by omega)]
    have e60 : (pkS (pkS (pkS (pkS (pkS t 79 0 a (t.1 76 0 (8 * a))) 80 0 a (t.1 76 0 (8 * a + 1))) 81 0 a (t.1 76 0 (8 * a + 2))) 82 0 a (nI a)) 83 0 a 0).1 60 0 = t.1 60 0 := by
      rw [pkS_1, if_neg (by omega), pkS_1, if_neg (by omega), pkS_1, if_neg (by omega), pkS_1, if_neg (by omega), pkS_1, if_neg (by omega)]
    rw [e76] at a2
    rw [e60] at a1
    refine ⟨t', ?_, a2, a3, ((((Fr.pk rfl t _).pk' _ rfl).pk' _ rfl).pk' _ rfl).pk' _ rfl |>.trans a4⟩
    show b_M_takeSea_L129 _ _ _ = _
    unfold b_M_takeSea_L129
    have o76 : ∀ (u : S2) (c k : Nat) (x : Int32), ¬ 76 = c → (pkS u c 0 k x).1 76 0 = u.1 76 0 := fun u c k x hc => by rw [pkS_1, if_neg (by omega)]
    rw [of_6, if_neg (nI_ge (by omega) (by omega)), of_8, show Int32.ofInt 0 = nI 0 from of_0, of_1, of_2, mul_nI, nI_add, nI_add, nI_add, nI_add, Nat.add_zero, ix_nI (n := 48) (k := 8 * a) (by omega) (by omega), ix_nI (n := 6) (k := a) (by omega) (by omega), ix_nI (n := 48) (k := 8 * a + 1) (by omega) (by omega), ix_nI (n := 48) (k := 8 * a + 2) (by omega) (by omega)]
    simp only [Option.bind_some]
    rw [o76 _ 80 _ _ (by omega), o76 _ 79 _ _ (by omega), nI_0]
    exact a1
/-- what the reference has begun -/
def TKS (D71 D72 D73 D74 : Nat → Int32) (I T B : Nat) (t : S2) : Prop := (∀ k, k < 4 → t.1 75 0 k = D71 k) ∧ (∀ k, k < 48 → t.1 76 0 k = D72 k) ∧ (∀ k, k < 32 → t.1 77 0 k = D73 k) ∧ (∀ k, k < 12 → t.1 78 0 k = D74 k) ∧ (∀ j, j < 6 → t.1 79 0 j = D72 (8 * j) ∧ t.1 80 0 j = D72 (8 * j + 1) ∧ t.1 81 0 j = D72 (8 * j + 2) ∧ t.1 82 0 j = nI j ∧ t.1 83 0 j = 0) ∧ (t.1 60 0 36 = nI (2 ^ B - 1) ∧ t.1 60 0 37 = 0 ∧ t.1 60 0 76 = 0 ∧ t.1 60 0 55 = 0 ∧ t.1 60 0 57 = 0 ∧ t.1 60 0 78 = 0) ∧ t.1 60 0 28 = nI I ∧ t.1 60 0 29 = nI T ∧ t.1 60 0 30 = nI B
def Ktk (c i k : Nat) : Bool := K79 c i k || ((c == 75 || (c == 76 || (c == 77 || c == 78))) || (c == 60 && (k == 28 || (k == 29 || k == 30))))
theorem fr_ar {C : Nat} (hC : C = 75 ∨ C = 76 ∨ C = 77 ∨ C = 78) (h : Fr (Kar C 0) s s') : Fr Ktk s s' := h.mono fun c i k hk => by
  unfold Kar
  cases e : (c == C && i == 0) with
  | false => rfl
  | true =>
    exfalso
    have e1 : c = C := by simp only [Bool.and_eq_true, beq_iff_eq] at e; exact e.1
    subst e1
    have ht : Ktk c i k = true := by rcases hC with rfl | rfl | rfl | rfl <;> rfl
    rw [ht] at hk
    cases hk
theorem fm_take (hB : B ≤ 4) (h21 : s.1 60 0 21 = nI I) (h22 : s.1 60 0 22 = nI T) (h23 : s.1 60 0 23 = nI B) : ∃ t', f_M_takeSea s = some (t', nI I) ∧ TKS (s.1 71 0) (s.1 72 0) (s.1 73 0) (s.1 74 0) I T B t' ∧ Fr Ktk s t' := by
  obtain ⟨s1, hs1⟩ : ∃ s1, pkS (pkS (pkS s 60 0 28 (nI I)) 60 0 29 (nI T)) 60 0 30 (nI B) = s1 := ⟨_, rfl⟩
  have f1 : Fr Ktk s s1 := by rw [← hs1]; exact ((Fr.pk rfl s _).pk' _ rfl).pk' _ rfl
  have c28 : s1.1 60 0 28 = nI I := by rw [← hs1]; simp [pkS_v]
  have c29 : s1.1 60 0 29 = nI T := by rw [← hs1]; simp [pkS_v]
  have c30 : s1.1 60 0 30 = nI B := by rw [← hs1]; simp [pkS_v]
  obtain ⟨t1, a1, a2, a3⟩ := tk_L26 4 0 FU s1 (by omega) (lt_FU (by omega)) (fun j hj => absurd hj (by omega))
  obtain ⟨t2, b1, b2, b3⟩ := tk_L51 48 0 FU t1 (by omega) (lt_FU (by omega)) (fun j hj => absurd hj (by omega))
  obtain ⟨t3, d1, d2, d3⟩ := tk_L77 32 0 FU t2 (by omega) (lt_FU (by omega)) (fun j hj => absurd hj (by omega))
  obtain ⟨t4, e1, e2, e3⟩ := tk_L103 12 0 FU t3 (by omega) (lt_FU (by omega)) (fun j hj => absurd hj (by omega))
  have h60 : t4.1 60 0 = s1.1 60 0 := ((e3.arr fun _ => rfl).trans ((d3.arr fun _ => rfl).trans ((b3.arr fun _ => rfl).trans (a3.arr fun _ => rfl))))
  obtain ⟨t5, g1, g2, g3, g4⟩ := tk_L129 hB 6 0 FU t4 (by omega) (lt_FU (by omega)) (by rw [h60]; exact c30) (fun j hj => absurd hj (by omega))
  have k71 : s1.1 71 0 = s.1 71 0 := f1.arr fun _ => rfl
  have k72 : t1.1 72 0 = s.1 72 0 := (a3.arr fun _ => rfl).trans (f1.arr fun _ => rfl)
  have k73 : t2.1 73 0 = s.1 73 0 := (b3.arr fun _ => rfl).trans ((a3.arr fun _ => rfl).trans (f1.arr fun _ => rfl))
  have k74 : t3.1 74 0 = s.1 74 0 := (d3.arr fun _ => rfl).trans ((b3.arr fun _ => rfl).trans ((a3.arr fun _ => rfl).trans (f1.arr fun _ => rfl)))
  have m76 : t4.1 76 0 = t2.1 76 0 := (e3.arr fun _ => rfl).trans (d3.arr fun _ => rfl)
  refine ⟨t5, ?_, ⟨fun k hk => ?_, fun k hk => ?_, fun k hk => ?_, fun k hk => ?_, fun j hj => ?_, g3, ?_, ?_, ?_⟩, ?_⟩
  · unfold f_M_takeSea
    rw [Option.bind_some, Option.bind_some, Option.bind_some, pkS_v, if_neg (by omega), pkS_v, if_neg (by omega), pkS_v, if_neg (by omega), h21, h22, h23, hs1, show Int32.ofInt 0 = nI 0 from of_0, a1, b1, d1, e1, g1, h60, c28]
  · rw [g4.arr (c := 75) (i := 0) fun _ => rfl, e3.arr (c := 75) (i := 0) fun _ => rfl, d3.arr (c := 75) (i := 0) fun _ => rfl, b3.arr (c := 75) (i := 0) fun _ => rfl, a2 k hk, k71]
  · rw [g4.arr (c := 76) (i := 0) fun _ => rfl, m76, b2 k hk, k72]
  · rw [g4.arr (c := 77) (i := 0) fun _ => rfl, e3.arr (c := 77) (i := 0) fun _ => rfl, d2 k hk, k73]
  · rw [g4.arr (c := 78) (i := 0) fun _ => rfl, e2 k hk, k74]
  · have := g2 j hj
    rw [m76, b2 (8 * j) (by omega), b2 (8 * j + 1) (by omega), b2 (8 * j + 2) (by omega), k72] at this
    exact this
  · rw [g4.1 60 0 28 rfl, h60, c28]
  · rw [g4.1 60 0 29 rfl, h60, c29]
  · rw [g4.1 60 0 30 rfl, h60, c30]
  · refine f1.trans ((fr_ar (by omega) a3).trans ((fr_ar (by omega) b3).trans ((fr_ar (by omega) d3).trans ((fr_ar (by omega) e3).trans (g4.mono fun c i k hk => ?_)))))
    unfold Ktk at hk
    exact (Bool.or_eq_false_iff.mp hk).1
end
