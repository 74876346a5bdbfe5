/-! ===== states put aside by the reference ===== -/
def SV (I T B : Nat) (v : Nat → Int32) (c off : Nat) (s : S2) : Prop :=
  (∀ a, a < I → s.1 c 0 (off + 5 * a) = v a ∧ s.1 c 0 (off + 5 * a + 1) = v (6 + a) ∧ s.1 c 0 (off + 5 * a + 2) = v (12 + a) ∧ s.1 c 0 (off + 5 * a + 3) = v (18 + a) ∧ s.1 c 0 (off + 5 * a + 4) = v (24 + a) ∧ s.1 c 0 (off + 38 + a) = v (43 + a)) ∧
  (∀ t, t < T → s.1 c 0 (off + 30 + t) = v (30 + t)) ∧
  (∃ m : Nat, m < 16 ∧ s.1 c 0 (off + 44) = nI m ∧ ∀ b, b < B → (v (38 + b) = nI 1 ∧ m.testBit b = true) ∨ (v (38 + b) = 0 ∧ m.testBit b = false)) ∧ s.1 c 0 (off + 45) = v 42
/-- the rows of one put aside -/
def Ksv (c off : Nat) (c' i k : Nat) : Bool := c' == c && (i == 0 && (Nat.ble off k && Nat.blt k (off + 46)))
theorem Ksv_t {c off k : Nat} (h1 : off ≤ k) (h2 : k < off + 46) : Ksv c off c 0 k = true := by
  unfold Ksv
  have e1 : Nat.ble off k = true := Nat.ble_eq_true_of_le h1
  have e2 : Nat.blt k (off + 46) = true := Nat.ble_eq_true_of_le h2
  rw [e1, e2]
  simp
theorem Ksv_f {c off c' i k : Nat} (h : ¬ c' = c) : Ksv c off c' i k = false := by
  unfold Ksv
  simp [h]
theorem Ksv_o {c off i k : Nat} (h : k < off ∨ off + 46 ≤ k) : Ksv c off c i k = false := by
  unfold Ksv
  rcases h with h | h
  · have : Nat.ble off k = false := by
      cases hq : Nat.ble off k with
      | false => rfl
      | true => exact absurd (Nat.le_of_ble_eq_true hq) (by omega)
    rw [this]; simp
  · have : Nat.blt k (off + 46) = false := by
      cases hq : Nat.blt k (off + 46) with
      | false => rfl
      | true => exact absurd (Nat.le_of_ble_eq_true hq) (by omega)
    rw [this]; simp
/-- a row that is none of the state's own -/
def okc (c : Nat) : Prop := c = 91 ∨ c = 92 ∨ c = 96 ∨ c = 101
theorem fm_wrT {s0 : S2} {I T B c n off : Nat} {v : Nat → Int32} (hc : okc c) (hn : off + 46 ≤ n) (hN : n < 10000) (hT : T ≤ 8) : ∀ (m k fu : Nat) (s : S2), k + m = 8 → m < fu → RS I T B v s → (∀ a, a < I → s.1 c 0 (off + 5 * a) = v a ∧ s.1 c 0 (off + 5 * a + 1) = v (6 + a) ∧ s.1 c 0 (off + 5 * a + 2) = v (12 + a) ∧ s.1 c 0 (off + 5 * a + 3) = v (18 + a) ∧ s.1 c 0 (off + 5 * a + 4) = v (24 + a) ∧ s.1 c 0 (off + 38 + a) = v (43 + a)) → I ≤ 6 → (∀ t, t < k → t < T → s.1 c 0 (off + 30 + t) = v (30 + t)) → Fr (Ksv c off) s0 s → ∃ s', f_M_write_L107 c 0 n fu (nI off) (nI k) s = some s' ∧ SV I T B v c off s' ∧ Fr (Ksv c off) s0 s' := by
  intro m
  induction m with
  | zero =>
    intro k fu s hk hf hr hA hI hT hF
    obtain ⟨f, rfl, hf'⟩ := suc_of hf
    obtain ⟨r1, r2, ⟨mm, m1, m2, m3⟩, r4⟩ := hr
    have F2 : Fr (Ksv c off) s0 (pkS (pkS s c 0 (off + 44) (s.1 60 0 36)) c 0 (off + 45) (s.1 60 0 37)) := (hF.pk' _ (Ksv_t (by omega) (by omega))).pk' _ (Ksv_t (by omega) (by omega))
    refine ⟨_, ?_, ⟨fun a ha => ?_, fun t ht => ?_, ⟨mm, m1, ?_, m3⟩, ?_⟩, F2⟩
    · show b_M_write_L107 c 0 n _ _ _ _ = _
      unfold b_M_write_L107
      rw [of_8, if_pos (nI_le (by omega) (by omega)), of_46, nI_add, of_2, sub_nI (by omega), of_1, sub_nI (by omega), ix_nI (n := n) (k := off + 46 - 2) (by omega) (by omega), Option.bind_some, Option.bind_some, ix_nI (n := n) (k := off + 46 - 1) (by omega) (by omega), Option.bind_some, Option.bind_some, show off + 46 - 2 = off + 44 by omega, show off + 46 - 1 = off + 45 by omega, pkS_v, if_neg (by unfold okc at hc; omega)]
    · have := hA a ha
      simp only [pkS_v]
      rw [if_neg (by omega), if_neg (by omega), if_neg (by omega), if_neg (by omega), if_neg (by omega), if_neg (by omega), if_neg (by omega), if_neg (by omega), if_neg (by omega), if_neg (by omega), if_neg (by omega), if_neg (by omega)]
      exact this
    · rw [pkS_v, if_neg (by omega), pkS_v, if_neg (by omega)]
      exact hT t (by omega) ht
    · rw [pkS_v, if_neg (by omega), pkS_v, if_pos ⟨rfl, rfl, rfl⟩]; exact m2
    · rw [pkS_v, if_pos ⟨rfl, rfl, rfl⟩, r4]
  | succ m ih =>
    intro k fu s hk hf hr hA hI hT' hF
    obtain ⟨f, rfl, hf'⟩ := suc_lt hf
    have F1 : Fr (Ksv c off) s (pkS s c 0 (off + 30 + k) (s.1 77 0 (4 * k + 2))) := Fr.pk (Ksv_t (by omega) (by omega)) s _
    have hr' : RS I T B v (pkS s c 0 (off + 30 + k) (s.1 77 0 (4 * k + 2))) := by
      have g : ∀ c', ¬ c' = c → (pkS s c 0 (off + 30 + k) (s.1 77 0 (4 * k + 2))).1 c' 0 = s.1 c' 0 := fun c' h => by rw [pkS_1, if_neg (fun z => h z.1)]
      unfold okc at hc
      exact RS_fr hr (g _ (by omega)) (g _ (by omega)) (g _ (by omega)) (g _ (by omega)) (g _ (by omega)) (g _ (by omega)) (g _ (by omega)) (congrFun (g 60 (by omega)) 36) (congrFun (g 60 (by omega)) 37)
    obtain ⟨s', g1, g2, g3⟩ := ih (k + 1) f _ (by omega) hf' hr' (fun a ha => by
      have := hA a ha
      simp only [pkS_v]
      rw [if_neg (by omega), if_neg (by omega), if_neg (by omega), if_neg (by omega), if_neg (by omega), if_neg (by omega)]
      exact this) hI (fun t ht ht' => by
      rw [pkS_v]
      by_cases e : t = k
      · rw [if_pos ⟨rfl, rfl, by omega⟩, hr.2.1 t ht', e]
      · rw [if_neg (by omega)]; exact hT' t (by omega) ht') (hF.trans F1)
    refine ⟨s', ?_, g2, g3⟩
    show b_M_write_L107 c 0 n _ _ _ _ = _
    unfold b_M_write_L107
    rw [of_8, if_neg (nI_ge (by omega) (by omega)), of_4, mul_nI, of_2, nI_add, ix_nI (n := 44) (k := 4 * k + 2) (by omega) (by omega), Option.bind_some, of_30, nI_add, nI_add, ix_nI (n := n) (k := off + 30 + k) (by omega) (by omega), Option.bind_some, Option.bind_some, of_1, nI_add]
    exact g1
theorem fm_wrI {s0 : S2} {I T B c n off : Nat} {v : Nat → Int32} (hc : okc c) (hn : off + 46 ≤ n) (hN : n < 10000) (hT : T ≤ 8) (hI : I ≤ 6) : ∀ (m k fu : Nat) (s : S2), k + m = 6 → m < fu → RS I T B v s → (∀ a, a < k → a < I → s.1 c 0 (off + 5 * a) = v a ∧ s.1 c 0 (off + 5 * a + 1) = v (6 + a) ∧ s.1 c 0 (off + 5 * a + 2) = v (12 + a) ∧ s.1 c 0 (off + 5 * a + 3) = v (18 + a) ∧ s.1 c 0 (off + 5 * a + 4) = v (24 + a) ∧ s.1 c 0 (off + 38 + a) = v (43 + a)) → Fr (Ksv c off) s0 s → ∃ s', f_M_write_L2 c 0 n fu (nI off) (nI k) s = some s' ∧ SV I T B v c off s' ∧ Fr (Ksv c off) s0 s' := by
  intro m
  induction m with
  | zero =>
    intro k fu s hk hf hr hA hF
    obtain ⟨f, rfl, hf'⟩ := suc_of hf
    obtain ⟨s', g1, g2, g3⟩ := fm_wrT (s0 := s0) (I := I) (T := T) (B := B) hc hn hN hT 8 0 FU s (by omega) (lt_FU (by omega)) hr (fun a ha => hA a (by omega) ha) hI (fun t ht => by omega) hF
    refine ⟨s', ?_, g2, g3⟩
    show b_M_write_L2 c 0 n _ _ _ _ = _
    unfold b_M_write_L2
    rw [of_6, if_pos (nI_le (by omega) (by omega)), of_0, ← nI_0]
    exact g1
  | succ m ih =>
    intro k fu s hk hf hr hA hF
    obtain ⟨f, rfl, hf'⟩ := suc_lt hf
    have hc' := hc
    unfold okc at hc'
    have key : ∀ st : S2, Fr (Ksv c off) s st → (∀ a, a < k + 1 → a < I → st.1 c 0 (off + 5 * a) = v a ∧ st.1 c 0 (off + 5 * a + 1) = v (6 + a) ∧ st.1 c 0 (off + 5 * a + 2) = v (12 + a) ∧ st.1 c 0 (off + 5 * a + 3) = v (18 + a) ∧ st.1 c 0 (off + 5 * a + 4) = v (24 + a) ∧ st.1 c 0 (off + 38 + a) = v (43 + a)) → ∃ s', f_M_write_L2 c 0 n f (nI off) (nI (k + 1)) st = some s' ∧ SV I T B v c off s' ∧ Fr (Ksv c off) s0 s' := fun st F h => by
      have g : ∀ c', ¬ c' = c → st.1 c' 0 = s.1 c' 0 := fun c' h => F.arr fun _ => Ksv_f h
      exact ih (k + 1) f st (by omega) hf' (RS_fr hr (g _ (by omega)) (g _ (by omega)) (g _ (by omega)) (g _ (by omega)) (g _ (by omega)) (g _ (by omega)) (g _ (by omega)) (congrFun (g 60 (by omega)) 36) (congrFun (g 60 (by omega)) 37)) h (hF.trans F)
    have ne : ∀ c', (c' = 76 ∨ c' = 79 ∨ c' = 80 ∨ c' = 81 ∨ c' = 82 ∨ c' = 83) → (c' = c) = False := fun c' h => eq_false (by omega)
    show ∃ s', b_M_write_L2 c 0 n _ _ _ _ = _ ∧ _
    unfold b_M_write_L2
    rw [of_6, if_neg (nI_ge (by omega) (by omega))]
    simp (disch := omega) only [of_0, of_1, of_2, of_3, of_4, of_5, of_6, of_7, of_8, of_9, of_10, of_11, of_12, of_13, of_14, of_15, of_16, of_18, of_19, of_20, of_24, of_30, of_32, of_33, of_36, of_38, of_39, of_40, of_41, of_42, of_43, of_44, of_45, of_46, of_47, of_48, of_49, of_50, of_51, of_52, of_53, of_54, of_55, of_56, of_57, of_58, of_59, of_60, of_61, of_62, of_63, of_91, of_93, of_97, of_98, of_99, of_100, of_102, of_103, of_104, of_105, of_106, of_107, of_108, of_109, of_110, of_112, of_113, of_114, of_115, of_116, of_119, of_120, of_121, of_124, of_140, of_180, of_240, of_255, of_256, of_520, of_576, of_999, of_1000, of_1380, of_65536, of_252645135, of_858993459, of_1431655765, of_m1000000, of_m999, of_m99, of_m8, of_m2, of_m1, mul_nI, nI_add, ix_nI, Option.bind_some, fm_of, pkS_1, ne, false_and, if_false]
    refine key _ (Fr.pk' (Fr.pk' (Fr.pk' (Fr.pk' (Fr.pk' (Fr.pk' (Fr.refl _ _) _ (Ksv_t (by omega) (by omega))) _ (Ksv_t (by omega) (by omega))) _ (Ksv_t (by omega) (by omega))) _ (Ksv_t (by omega) (by omega))) _ (Ksv_t (by omega) (by omega))) _ (Ksv_t (by omega) (by omega))) (fun a ha haI => ?_)
    simp only [pkS_v]
    by_cases e : a = k
    · subst e
      obtain ⟨p1, p2, p3, p4, p5, p6⟩ := hr.1 a haI
      rw [p1, p2, p3, p4, p5, p6]
      refine ⟨?_, ?_, ?_, ?_, ?_, ?_⟩
      · rw [if_neg (by omega), if_neg (by omega), if_neg (by omega), if_neg (by omega), if_neg (by omega), if_pos ⟨trivial, trivial, by omega⟩]
      · rw [if_neg (by omega), if_neg (by omega), if_neg (by omega), if_neg (by omega), if_pos ⟨trivial, trivial, by omega⟩]
      · rw [if_neg (by omega), if_neg (by omega), if_neg (by omega), if_pos ⟨trivial, trivial, by omega⟩]
      · rw [if_neg (by omega), if_neg (by omega), if_pos ⟨trivial, trivial, by omega⟩]
      · rw [if_neg (by omega), if_pos ⟨trivial, trivial, by omega⟩]
      · rw [if_pos ⟨trivial, trivial, by omega⟩]
    · obtain ⟨p1, p2, p3, p4, p5, p6⟩ := hA a (by omega) haI
      refine ⟨?_, ?_, ?_, ?_, ?_, ?_⟩
      · rw [if_neg (by omega), if_neg (by omega), if_neg (by omega), if_neg (by omega), if_neg (by omega), if_neg (by omega)]; exact p1
      · rw [if_neg (by omega), if_neg (by omega), if_neg (by omega), if_neg (by omega), if_neg (by omega), if_neg (by omega)]; exact p2
      · rw [if_neg (by omega), if_neg (by omega), if_neg (by omega), if_neg (by omega), if_neg (by omega), if_neg (by omega)]; exact p3
      · rw [if_neg (by omega), if_neg (by omega), if_neg (by omega), if_neg (by omega), if_neg (by omega), if_neg (by omega)]; exact p4
      · rw [if_neg (by omega), if_neg (by omega), if_neg (by omega), if_neg (by omega), if_neg (by omega), if_neg (by omega)]; exact p5
      · rw [if_neg (by omega), if_neg (by omega), if_neg (by omega), if_neg (by omega), if_neg (by omega), if_neg (by omega)]; exact p6
theorem fm_write {s : S2} {I T B c n off : Nat} {v : Nat → Int32} (hc : okc c) (hn : off + 46 ≤ n) (hN : n < 10000) (hT : T ≤ 8) (hI : I ≤ 6) (hr : RS I T B v s) : ∃ s', f_M_write c 0 n (nI off) s = some s' ∧ SV I T B v c off s' ∧ Fr (Ksv c off) s s' := by
  unfold f_M_write
  rw [of_0, ← nI_0]
  exact fm_wrI hc hn hN hT hI 6 0 FU s (by omega) (lt_FU (by omega)) hr (fun a ha => by omega) (Fr.refl _ _)
