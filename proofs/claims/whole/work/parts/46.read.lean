/-! ===== a state taken back by the reference ===== -/
def KR (c _ k : Nat) : Bool := c == 79 || (c == 80 || (c == 81 || (c == 82 || (c == 83 || ((c == 76 && Nat.beq (k % 8) 7) || ((c == 77 && Nat.beq (k % 4) 2) || (c == 60 && (k == 36 || k == 37))))))))
theorem KR_f {c i k : Nat} (h : ¬ c = 79 ∧ ¬ c = 80 ∧ ¬ c = 81 ∧ ¬ c = 82 ∧ ¬ c = 83 ∧ ¬ (c = 76 ∧ k % 8 = 7) ∧ ¬ (c = 77 ∧ k % 4 = 2) ∧ ¬ (c = 60 ∧ (k = 36 ∨ k = 37))) : KR c i k = false := by
  have b : ∀ x y : Nat, ¬ x = y → Nat.beq x y = false := fun x y hh => by
    cases hq : Nat.beq x y with
    | false => rfl
    | true => exact absurd (Nat.eq_of_beq_eq_true hq) hh
  unfold KR
  obtain ⟨h1, h2, h3, h4, h5, h6, h7, h8⟩ := h
  have g1 : (c == 76 && Nat.beq (k % 8) 7) = false := by
    by_cases e : c = 76
    · rw [b (k % 8) 7 (fun z => h6 ⟨e, z⟩)]; simp
    · simp [e]
  have g2 : (c == 77 && Nat.beq (k % 4) 2) = false := by
    by_cases e : c = 77
    · rw [b (k % 4) 2 (fun z => h7 ⟨e, z⟩)]; simp
    · simp [e]
  have g3 : (c == 60 && (k == 36 || k == 37)) = false := by
    by_cases e : c = 60
    · have : ¬ k = 36 ∧ ¬ k = 37 := ⟨fun z => h8 ⟨e, Or.inl z⟩, fun z => h8 ⟨e, Or.inr z⟩⟩
      simp [this.1, this.2]
    · simp [e]
  rw [g1, g2, g3]
  simp [h1, h2, h3, h4, h5]
theorem KR_76 (a : Nat) : KR 76 0 (8 * a + 7) = true := by
  have : (8 * a + 7) % 8 = 7 := by omega
  unfold KR
  rw [this]
  rfl
theorem KR_77 (t : Nat) : KR 77 0 (4 * t + 2) = true := by
  have : (4 * t + 2) % 4 = 2 := by omega
  unfold KR
  rw [this]
  rfl
theorem okc_KR {c i k : Nat} (h : okc c) : KR c i k = false := KR_f (by unfold okc at h; omega)
def mxS (fl : Bool) (v u : Nat → Int32) (j : Nat) : Int32 := if j < 43 ∨ fl = true then v j else u j
theorem fm_rdT {s0 : S2} {I T B c n off : Nat} {v : Nat → Int32} (hc : okc c) (hn : off + 46 ≤ n) (hN : n < 10000) (hT8 : T ≤ 8) : ∀ (m k fu : Nat) (s : S2), k + m = 8 → m < fu → SV I T B v c off s → (∀ t, t < k → t < T → s.1 77 0 (4 * t + 2) = v (30 + t)) → Fr KR s0 s → ∃ s', f_M_read_L131 c 0 n fu (nI off) (nI k) s = some s' ∧ (∀ t, t < T → s'.1 77 0 (4 * t + 2) = v (30 + t)) ∧ (∃ m : Nat, m < 16 ∧ s'.1 60 0 36 = nI m ∧ ∀ b, b < B → (v (38 + b) = nI 1 ∧ m.testBit b = true) ∨ (v (38 + b) = 0 ∧ m.testBit b = false)) ∧ v 42 = s'.1 60 0 37 ∧ Fr (fun c _ k => (c == 77 && Nat.beq (k % 4) 2) || (c == 60 && (k == 36 || k == 37))) s s' ∧ Fr KR s0 s' := by
  intro m
  induction m with
  | zero =>
    intro k fu s hk hf hS hK hF
    obtain ⟨f, rfl, hf'⟩ := suc_of hf
    obtain ⟨q1, q2, ⟨mm, m1, m2, m3⟩, q4⟩ := hS
    have hc' := hc
    unfold okc at hc'
    refine ⟨pkS (pkS s 60 0 36 (s.1 c 0 (off + 44))) 60 0 37 (s.1 c 0 (off + 45)), ?_, fun t ht => ?_, ⟨mm, m1, ?_, m3⟩, ?_, ((Fr.refl _ _).pk' _ rfl).pk' _ rfl, (hF.pk' _ rfl).pk' _ rfl⟩
    · show b_M_read_L131 c 0 n _ _ _ _ = _
      unfold b_M_read_L131
      rw [of_8, if_pos (nI_le (by omega) (by omega)), of_46, nI_add, of_2, sub_nI (by omega), of_1, sub_nI (by omega), ix_nI (n := n) (k := off + 46 - 2) (by omega) (by omega), Option.bind_some, Option.bind_some, ix_nI (n := n) (k := off + 46 - 1) (by omega) (by omega), Option.bind_some, Option.bind_some, show off + 46 - 2 = off + 44 by omega, show off + 46 - 1 = off + 45 by omega, pkS_v, if_neg (by omega)]
    · rw [pkS_v, if_neg (by omega), pkS_v, if_neg (by omega)]; exact hK t (by omega) ht
    · rw [pkS_v, if_neg (by omega), pkS_v, if_pos ⟨rfl, rfl, rfl⟩]; exact m2
    · rw [pkS_v, if_pos ⟨rfl, rfl, rfl⟩, q4]
  | succ m ih =>
    intro k fu s hk hf hS hK hF
    obtain ⟨f, rfl, hf'⟩ := suc_lt hf
    have hc' := hc
    unfold okc at hc'
    have F1 : Fr (fun c _ k => (c == 77 && Nat.beq (k % 4) 2) || (c == 60 && (k == 36 || k == 37))) s (pkS s 77 0 (4 * k + 2) (s.1 c 0 (off + 30 + k))) := Fr.pk (by rw [show (4 * k + 2) % 4 = 2 by omega]; rfl) s _
    have F2 : Fr KR s (pkS s 77 0 (4 * k + 2) (s.1 c 0 (off + 30 + k))) := Fr.pk (KR_77 k) s _
    have hS' : SV I T B v c off (pkS s 77 0 (4 * k + 2) (s.1 c 0 (off + 30 + k))) := by
      unfold SV
      rw [show (pkS s 77 0 (4 * k + 2) (s.1 c 0 (off + 30 + k))).1 c 0 = s.1 c 0 by rw [pkS_1, if_neg (by omega)]]
      exact hS
    obtain ⟨s', g1, g2, g3, g4, g5, g6⟩ := ih (k + 1) f _ (by omega) hf' hS' (fun t ht ht' => by
      rw [pkS_v]
      by_cases e : t = k
      · rw [if_pos ⟨rfl, rfl, by omega⟩, ← e]; exact hS.2.1 t ht'
      · rw [if_neg (by omega)]; exact hK t (by omega) ht') (hF.trans F2)
    refine ⟨s', ?_, g2, g3, g4, F1.trans g5, g6⟩
    show b_M_read_L131 c 0 n _ _ _ _ = _
    unfold b_M_read_L131
    rw [of_8, if_neg (nI_ge (by omega) (by omega)), of_30, nI_add, nI_add, ix_nI (n := n) (k := off + 30 + k) (by omega) (by omega), Option.bind_some, of_4, mul_nI, of_2, nI_add, ix_nI (n := 44) (k := 4 * k + 2) (by omega) (by omega), Option.bind_some, Option.bind_some, of_1, nI_add]
    exact g1
theorem fm_rdI {s0 : S2} {I T B c n off : Nat} {v u : Nat → Int32} {fl : Bool} (hc : okc c) (hn : off + 46 ≤ n) (hN : n < 10000) (hI : I ≤ 6) (hT8 : T ≤ 8) (hB4 : B ≤ 4) : ∀ (m k fu : Nat) (s : S2), k + m = 6 → m < fu → SV I T B v c off s → (∀ a, a < I → (a < k → v a = s.1 79 0 a ∧ v (6 + a) = s.1 80 0 a ∧ v (12 + a) = s.1 81 0 a ∧ v (18 + a) = s.1 82 0 a ∧ v (24 + a) = s.1 83 0 a) ∧ (if a < k ∧ fl = true then v (43 + a) else u (43 + a)) = s.1 76 0 (8 * a + 7)) → Fr KR s0 s → ∃ s', f_M_read_L3 c 0 n fu (nI off) (bI fl) (nI k) s = some s' ∧ RS I T B (mxS fl v u) s' ∧ Fr KR s0 s' := by
  intro m
  induction m with
  | zero =>
    intro k fu s hk hf hS hA hF
    obtain ⟨f, rfl, hf'⟩ := suc_of hf
    obtain ⟨s', g1, g2, g3, g4, g5, g6⟩ := fm_rdT (s0 := s0) (I := I) (T := T) (B := B) hc hn hN hT8 8 0 FU s (by omega) (lt_FU (by omega)) hS (fun t ht => by omega) hF
    refine ⟨s', ?_, ⟨fun a ha => ?_, fun t ht => ?_, ?_, ?_⟩, g6⟩
    · show b_M_read_L3 c 0 n _ _ _ _ _ = _
      unfold b_M_read_L3
      rw [of_6, if_pos (nI_le (by omega) (by omega)), of_0, ← nI_0]
      exact g1
    · obtain ⟨h1, h2⟩ := hA a ha
      obtain ⟨p1, p2, p3, p4, p5⟩ := h1 (by omega)
      have g : ∀ c', ¬ c' = 77 → ¬ c' = 60 → s'.1 c' 0 = s.1 c' 0 := fun c' e1 e2 => g5.arr fun k => by simp [e1, e2]
      rw [g 79 (by omega) (by omega), g 80 (by omega) (by omega), g 81 (by omega) (by omega), g 82 (by omega) (by omega), g 83 (by omega) (by omega), g 76 (by omega) (by omega)]
      unfold mxS
      rw [if_pos (Or.inl (by omega)), if_pos (Or.inl (by omega)), if_pos (Or.inl (by omega)), if_pos (Or.inl (by omega)), if_pos (Or.inl (by omega))]
      refine ⟨p1, p2, p3, p4, p5, ?_⟩
      rw [← h2]
      cases fl with
      | true => rw [if_pos (Or.inr rfl), if_pos ⟨by omega, rfl⟩]
      | false => rw [if_neg (by simp), if_neg (by simp)]
    · unfold mxS
      rw [if_pos (Or.inl (by omega))]
      exact (g2 t ht).symm
    · obtain ⟨mm, m1, m2, m3⟩ := g3
      refine ⟨mm, m1, m2, fun b hb => ?_⟩
      unfold mxS
      rw [if_pos (Or.inl (by omega))]
      exact m3 b hb
    · unfold mxS
      rw [if_pos (Or.inl (by omega))]
      exact g4
  | succ m ih =>
    intro k fu s hk hf hS hA hF
    obtain ⟨f, rfl, hf'⟩ := suc_lt hf
    have hc' := hc
    unfold okc at hc'
    have ne : ∀ c', (c' = 76 ∨ c' = 79 ∨ c' = 80 ∨ c' = 81 ∨ c' = 82 ∨ c' = 83) → (c = c') = False := fun c' h => eq_false (by omega)
    show ∃ s', b_M_read_L3 c 0 n _ _ _ _ _ = _ ∧ _
    unfold b_M_read_L3 f_M_read_L122
    rw [of_6, if_neg (nI_ge (by omega) (by omega))]
    simp (disch := omega) only [of_0, of_1, of_2, of_3, of_4, of_5, of_6, of_7, of_8, of_9, of_10, of_11, of_12, of_13, of_14, of_15, of_16, of_18, of_19, of_20, of_24, of_30, of_32, of_33, of_36, of_38, of_39, of_40, of_41, of_42, of_43, of_44, of_45, of_46, of_47, of_48, of_49, of_50, of_51, of_52, of_53, of_54, of_55, of_56, of_57, of_58, of_59, of_60, of_61, of_62, of_63, of_91, of_93, of_97, of_98, of_99, of_100, of_102, of_103, of_104, of_105, of_106, of_107, of_108, of_109, of_110, of_112, of_113, of_114, of_115, of_116, of_119, of_120, of_121, of_124, of_140, of_180, of_240, of_255, of_256, of_520, of_576, of_999, of_1000, of_1380, of_65536, of_252645135, of_858993459, of_1431655765, of_m1000000, of_m999, of_m99, of_m8, of_m2, of_m1, mul_nI, nI_add, ix_nI, Option.bind_some, pkS_1, ne, false_and, if_false]
    have F5 : Fr KR s (pkS (pkS (pkS (pkS (pkS s 79 0 k (s.1 c 0 (off + 5 * k))) 80 0 k (s.1 c 0 (off + 5 * k + 1))) 81 0 k (s.1 c 0 (off + 5 * k + 2))) 82 0 k (s.1 c 0 (off + 5 * k + 3))) 83 0 k (s.1 c 0 (off + 5 * k + 4))) := (((((Fr.refl _ _).pk' _ rfl).pk' _ rfl).pk' _ rfl).pk' _ rfl).pk' _ rfl
    have h5 : ∀ a, a < I → a < k + 1 → v a = (pkS (pkS (pkS (pkS (pkS s 79 0 k (s.1 c 0 (off + 5 * k))) 80 0 k (s.1 c 0 (off + 5 * k + 1))) 81 0 k (s.1 c 0 (off + 5 * k + 2))) 82 0 k (s.1 c 0 (off + 5 * k + 3))) 83 0 k (s.1 c 0 (off + 5 * k + 4))).1 79 0 a ∧ v (6 + a) = (pkS (pkS (pkS (pkS (pkS s 79 0 k (s.1 c 0 (off + 5 * k))) 80 0 k (s.1 c 0 (off + 5 * k + 1))) 81 0 k (s.1 c 0 (off + 5 * k + 2))) 82 0 k (s.1 c 0 (off + 5 * k + 3))) 83 0 k (s.1 c 0 (off + 5 * k + 4))).1 80 0 a ∧ v (12 + a) = (pkS (pkS (pkS (pkS (pkS s 79 0 k (s.1 c 0 (off + 5 * k))) 80 0 k (s.1 c 0 (off + 5 * k + 1))) 81 0 k (s.1 c 0 (off + 5 * k + 2))) 82 0 k (s.1 c 0 (off + 5 * k + 3))) 83 0 k (s.1 c 0 (off + 5 * k + 4))).1 81 0 a ∧ v (18 + a) = (pkS (pkS (pkS (pkS (pkS s 79 0 k (s.1 c 0 (off + 5 * k))) 80 0 k (s.1 c 0 (off + 5 * k + 1))) 81 0 k (s.1 c 0 (off + 5 * k + 2))) 82 0 k (s.1 c 0 (off + 5 * k + 3))) 83 0 k (s.1 c 0 (off + 5 * k + 4))).1 82 0 a ∧ v (24 + a) = (pkS (pkS (pkS (pkS (pkS s 79 0 k (s.1 c 0 (off + 5 * k))) 80 0 k (s.1 c 0 (off + 5 * k + 1))) 81 0 k (s.1 c 0 (off + 5 * k + 2))) 82 0 k (s.1 c 0 (off + 5 * k + 3))) 83 0 k (s.1 c 0 (off + 5 * k + 4))).1 83 0 a := fun a ha hak => by
      simp only [pkS_v, Nat.reduceEqDiff, false_and, if_false, true_and]
      by_cases e : a = k
      · obtain ⟨p1, p2, p3, p4, p5, -⟩ := hS.1 a ha
        subst e
        rw [if_pos rfl, if_pos rfl, if_pos rfl, if_pos rfl, if_pos rfl]
        exact ⟨p1.symm, p2.symm, p3.symm, p4.symm, p5.symm⟩
      · rw [if_neg e, if_neg e, if_neg e, if_neg e, if_neg e]
        exact (hA a ha).1 (by omega)
    have h6 : (pkS (pkS (pkS (pkS (pkS s 79 0 k (s.1 c 0 (off + 5 * k))) 80 0 k (s.1 c 0 (off + 5 * k + 1))) 81 0 k (s.1 c 0 (off + 5 * k + 2))) 82 0 k (s.1 c 0 (off + 5 * k + 3))) 83 0 k (s.1 c 0 (off + 5 * k + 4))).1 76 0 = s.1 76 0 := by
      funext j
      simp only [pkS_v, Nat.reduceEqDiff, false_and, if_false]
    generalize (pkS (pkS (pkS (pkS (pkS s 79 0 k (s.1 c 0 (off + 5 * k))) 80 0 k (s.1 c 0 (off + 5 * k + 1))) 81 0 k (s.1 c 0 (off + 5 * k + 2))) 82 0 k (s.1 c 0 (off + 5 * k + 3))) 83 0 k (s.1 c 0 (off + 5 * k + 4))) = st at F5 h5 h6
    have ec : st.1 c 0 = s.1 c 0 := F5.arr fun _ => okc_KR hc
    have hSt : SV I T B v c off st := by
      unfold SV
      rw [ec]; exact hS
    cases fl with
    | false =>
      rw [if_pos (show bI false = 0 from rfl)]
      refine ih (k + 1) f st (by omega) hf' hSt (fun a ha => ⟨fun h => h5 a ha h, ?_⟩) (hF.trans F5)
      rw [h6, ← (hA a ha).2, if_neg (by simp), if_neg (by simp)]
    | true =>
      rw [if_neg (show ¬ bI true = 0 by decide)]
      have F6 : Fr KR s (pkS st 76 0 (8 * k + 7) (s.1 c 0 (off + 30 + 8 + k))) := F5.pk' _ (KR_76 k)
      refine ih (k + 1) f _ (by omega) hf' ?_ (fun a ha => ⟨fun h => ?_, ?_⟩) (hF.trans F6)
      · unfold SV
        rw [show (pkS st 76 0 (8 * k + 7) (s.1 c 0 (off + 30 + 8 + k))).1 c 0 = s.1 c 0 by rw [pkS_1, if_neg (by omega), ec]]
        exact hS
      · rw [pkS_v, if_neg (by omega), pkS_v, if_neg (by omega), pkS_v, if_neg (by omega), pkS_v, if_neg (by omega), pkS_v, if_neg (by omega)]
        exact h5 a ha h
      · rw [pkS_v, h6]
        by_cases e : a = k
        · rw [if_pos ⟨by omega, rfl⟩, if_pos ⟨rfl, rfl, by omega⟩, ← e, show off + 30 + 8 + a = off + 38 + a by omega]
          exact (hS.1 a ha).2.2.2.2.2.symm
        · rw [if_neg (show ¬ (76 = 76 ∧ 0 = 0 ∧ 8 * a + 7 = 8 * k + 7) by omega), ← (hA a ha).2]
          by_cases l : a < k
          · rw [if_pos ⟨by omega, rfl⟩, if_pos ⟨l, rfl⟩]
          · rw [if_neg (by omega), if_neg (by omega)]
theorem fm_read {s : S2} {I T B c n off : Nat} {v u : Nat → Int32} {fl : Bool} (hc : okc c) (hn : off + 46 ≤ n) (hN : n < 10000) (hI : I ≤ 6) (hT : T ≤ 8) (hB : B ≤ 4) (hS : SV I T B v c off s) (hu : ∀ a, a < I → u (43 + a) = s.1 76 0 (8 * a + 7)) : ∃ s', f_M_read c 0 n (nI off) (bI fl) s = some s' ∧ RS I T B (mxS fl v u) s' ∧ Fr KR s s' := by
  unfold f_M_read
  rw [of_0, ← nI_0]
  exact fm_rdI (s0 := s) hc hn hN hI hT hB 6 0 FU s (by omega) (lt_FU (by omega)) hS (fun a ha => ⟨fun h => by omega, by rw [if_neg (by omega)]; exact hu a ha⟩) (Fr.refl _ _)
theorem mxS_true (v u : Nat → Int32) : mxS true v u = v := by
  funext j
  unfold mxS
  rw [if_pos (Or.inr rfl)]
theorem MX_KR {I T B : Nat} {W : Option WF6} {on : Nat → Bool} {x : XT} {w : Nat → Int32} {s s' : S2} (h : MX I T B W on x 0 w s) (hF : Fr KR s s') : MX I T B W on x 0 w s' := by
  obtain ⟨g1, g2, g3, g4, g5⟩ := h
  have h8 := g1.1.2.1
  refine ⟨g1, ?_, ?_, ?_, HM_fr g5 (hF.1 _ _ _ rfl) ⟨hF.arr fun k => rfl, hF.arr fun k => rfl, hF.arr fun k => rfl, hF.arr fun k => rfl, hF.arr fun k => rfl, hF.arr fun k => rfl⟩⟩
  · rw [hF.1 60 0 28 rfl, hF.1 60 0 29 rfl, hF.1 60 0 30 rfl]; exact g2
  · obtain ⟨k1, k2, k3, k4, k5⟩ := g3
    refine ⟨fun t ht => ?_, fun j hj => by omega, fun k hk => ?_, fun a ha k h1 h2 => ?_, fun b hb k hk => ?_⟩
    · rw [hF.1 77 0 (4 * t) (KR_f (by omega)), hF.1 77 0 (4 * t + 1) (KR_f (by omega)), hF.1 77 0 (4 * t + 3) (KR_f (by omega))]
      exact k1 t ht
    · rw [hF.1 75 0 k (KR_f (by omega))]; exact k3 k hk
    · rw [hF.1 76 0 (8 * a + k) (KR_f (by omega))]; exact k4 a ha k h1 h2
    · rw [hF.1 78 0 (3 * b + k) (KR_f (by omega))]; exact k5 b hb k hk
  · unfold MF at g4 ⊢
    rw [hF.1 60 0 41 rfl, hF.1 60 0 42 rfl]; exact g4
