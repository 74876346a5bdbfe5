/-! ===== the state as a row of 49 cells, and what both sides read of it ===== -/
def hdS (v : Nat → Int32) (a : Nat) : Nat := (v (18 + a)).toNatClampNeg
def VS (I : Nat) (v : Nat → Int32) : Prop := I ≤ 6 ∧ (∀ a, a < I → v (18 + a) = nI (hdS v a) ∧ hdS v a < I ∧ hdS v (hdS v a) = hdS v a) ∧ (∀ a, I ≤ a → a < 6 → v (18 + a) = -1) ∧ (∀ a, a < I → ∃ m, 1 ≤ m ∧ m ≤ 99 ∧ v (12 + a) = nI m)
def apS (v : Nat → Int32) (a b : Nat) : Int32 := jabs (v (hdS v a) - v (hdS v b)) + jabs (v (6 + hdS v a) - v (6 + hdS v b))
def isH (I : Nat) (v : Nat → Int32) (a : Nat) : Bool := decide (a < I) && decide (hdS v a = a)
theorem fc_xOf {s : S2} {i a I : Nat} (hv : VS I (s.1 21 i)) (ha : a < I) : f_State_xOf i (nI a) s = some (s.1 21 i (hdS (s.1 21 i) a)) := by
  obtain ⟨h6, hh, -, -⟩ := hv
  obtain ⟨h1, h2, -⟩ := hh a ha
  unfold f_State_xOf
  simp (disch := omega) only [of_0, of_1, of_2, of_3, of_4, of_5, of_6, of_7, of_8, of_9, of_10, of_11, of_12, of_13, of_14, of_15, of_16, of_18, of_19, of_20, of_24, of_30, of_32, of_33, of_36, of_38, of_39, of_40, of_41, of_42, of_43, of_44, of_45, of_46, of_47, of_48, of_49, of_50, of_51, of_52, of_53, of_54, of_55, of_56, of_57, of_58, of_59, of_60, of_61, of_62, of_63, of_91, of_93, of_97, of_98, of_99, of_100, of_102, of_103, of_104, of_105, of_106, of_107, of_108, of_109, of_110, of_112, of_113, of_114, of_115, of_116, of_119, of_120, of_121, of_124, of_140, of_180, of_240, of_255, of_256, of_520, of_576, of_999, of_1000, of_1380, of_65536, of_252645135, of_858993459, of_1431655765, of_m1000000, of_m999, of_m99, of_m8, of_m2, of_m1, nI_add, ix_nI, Option.bind_some, h1, Int32.zero_add]
theorem fc_yOf {s : S2} {i a I : Nat} (hv : VS I (s.1 21 i)) (ha : a < I) : f_State_yOf i (nI a) s = some (s.1 21 i (6 + hdS (s.1 21 i) a)) := by
  obtain ⟨h6, hh, -, -⟩ := hv
  obtain ⟨h1, h2, -⟩ := hh a ha
  unfold f_State_yOf
  simp (disch := omega) only [of_0, of_1, of_2, of_3, of_4, of_5, of_6, of_7, of_8, of_9, of_10, of_11, of_12, of_13, of_14, of_15, of_16, of_18, of_19, of_20, of_24, of_30, of_32, of_33, of_36, of_38, of_39, of_40, of_41, of_42, of_43, of_44, of_45, of_46, of_47, of_48, of_49, of_50, of_51, of_52, of_53, of_54, of_55, of_56, of_57, of_58, of_59, of_60, of_61, of_62, of_63, of_91, of_93, of_97, of_98, of_99, of_100, of_102, of_103, of_104, of_105, of_106, of_107, of_108, of_109, of_110, of_112, of_113, of_114, of_115, of_116, of_119, of_120, of_121, of_124, of_140, of_180, of_240, of_255, of_256, of_520, of_576, of_999, of_1000, of_1380, of_65536, of_252645135, of_858993459, of_1431655765, of_m1000000, of_m999, of_m99, of_m8, of_m2, of_m1, nI_add, ix_nI, Option.bind_some, h1, Int32.zero_add]
theorem fc_massOf {s : S2} {i a I : Nat} (hv : VS I (s.1 21 i)) (ha : a < I) : f_State_massOf i (nI a) s = some (s.1 21 i (12 + hdS (s.1 21 i) a)) := by
  obtain ⟨h6, hh, -, -⟩ := hv
  obtain ⟨h1, h2, -⟩ := hh a ha
  unfold f_State_massOf
  simp (disch := omega) only [of_0, of_1, of_2, of_3, of_4, of_5, of_6, of_7, of_8, of_9, of_10, of_11, of_12, of_13, of_14, of_15, of_16, of_18, of_19, of_20, of_24, of_30, of_32, of_33, of_36, of_38, of_39, of_40, of_41, of_42, of_43, of_44, of_45, of_46, of_47, of_48, of_49, of_50, of_51, of_52, of_53, of_54, of_55, of_56, of_57, of_58, of_59, of_60, of_61, of_62, of_63, of_91, of_93, of_97, of_98, of_99, of_100, of_102, of_103, of_104, of_105, of_106, of_107, of_108, of_109, of_110, of_112, of_113, of_114, of_115, of_116, of_119, of_120, of_121, of_124, of_140, of_180, of_240, of_255, of_256, of_520, of_576, of_999, of_1000, of_1380, of_65536, of_252645135, of_858993459, of_1431655765, of_m1000000, of_m999, of_m99, of_m8, of_m2, of_m1, nI_add, ix_nI, Option.bind_some, h1, Int32.zero_add]
theorem fc_scarsOf {s : S2} {i a I : Nat} (hv : VS I (s.1 21 i)) (ha : a < I) : f_State_scarsOf i (nI a) s = some (s.1 21 i (24 + hdS (s.1 21 i) a)) := by
  obtain ⟨h6, hh, -, -⟩ := hv
  obtain ⟨h1, h2, -⟩ := hh a ha
  unfold f_State_scarsOf
  simp (disch := omega) only [of_0, of_1, of_2, of_3, of_4, of_5, of_6, of_7, of_8, of_9, of_10, of_11, of_12, of_13, of_14, of_15, of_16, of_18, of_19, of_20, of_24, of_30, of_32, of_33, of_36, of_38, of_39, of_40, of_41, of_42, of_43, of_44, of_45, of_46, of_47, of_48, of_49, of_50, of_51, of_52, of_53, of_54, of_55, of_56, of_57, of_58, of_59, of_60, of_61, of_62, of_63, of_91, of_93, of_97, of_98, of_99, of_100, of_102, of_103, of_104, of_105, of_106, of_107, of_108, of_109, of_110, of_112, of_113, of_114, of_115, of_116, of_119, of_120, of_121, of_124, of_140, of_180, of_240, of_255, of_256, of_520, of_576, of_999, of_1000, of_1380, of_65536, of_252645135, of_858993459, of_1431655765, of_m1000000, of_m999, of_m99, of_m8, of_m2, of_m1, nI_add, ix_nI, Option.bind_some, h1, Int32.zero_add]
theorem fc_headOf {s : S2} {i a I : Nat} (hv : VS I (s.1 21 i)) (ha : a < I) : f_State_headOf i (nI a) s = some (nI (hdS (s.1 21 i) a)) := by
  obtain ⟨h6, hh, -, -⟩ := hv
  obtain ⟨h1, h2, -⟩ := hh a ha
  unfold f_State_headOf
  simp (disch := omega) only [of_0, of_1, of_2, of_3, of_4, of_5, of_6, of_7, of_8, of_9, of_10, of_11, of_12, of_13, of_14, of_15, of_16, of_18, of_19, of_20, of_24, of_30, of_32, of_33, of_36, of_38, of_39, of_40, of_41, of_42, of_43, of_44, of_45, of_46, of_47, of_48, of_49, of_50, of_51, of_52, of_53, of_54, of_55, of_56, of_57, of_58, of_59, of_60, of_61, of_62, of_63, of_91, of_93, of_97, of_98, of_99, of_100, of_102, of_103, of_104, of_105, of_106, of_107, of_108, of_109, of_110, of_112, of_113, of_114, of_115, of_116, of_119, of_120, of_121, of_124, of_140, of_180, of_240, of_255, of_256, of_520, of_576, of_999, of_1000, of_1380, of_65536, of_252645135, of_858993459, of_1431655765, of_m1000000, of_m999, of_m99, of_m8, of_m2, of_m1, nI_add, ix_nI, Option.bind_some, h1, Int32.zero_add]
theorem fc_isHead {s : S2} {i a I : Nat} (hv : VS I (s.1 21 i)) (ha : a < 6) : f_State_isHead i (nI a) s = some (isH I (s.1 21 i) a) := by
  obtain ⟨h6, hh, hn, -⟩ := hv
  unfold f_State_isHead isH
  by_cases hI : a < I
  · obtain ⟨h1, h2, -⟩ := hh a hI
    simp (disch := omega) only [of_0, of_1, of_2, of_3, of_4, of_5, of_6, of_7, of_8, of_9, of_10, of_11, of_12, of_13, of_14, of_15, of_16, of_18, of_19, of_20, of_24, of_30, of_32, of_33, of_36, of_38, of_39, of_40, of_41, of_42, of_43, of_44, of_45, of_46, of_47, of_48, of_49, of_50, of_51, of_52, of_53, of_54, of_55, of_56, of_57, of_58, of_59, of_60, of_61, of_62, of_63, of_91, of_93, of_97, of_98, of_99, of_100, of_102, of_103, of_104, of_105, of_106, of_107, of_108, of_109, of_110, of_112, of_113, of_114, of_115, of_116, of_119, of_120, of_121, of_124, of_140, of_180, of_240, of_255, of_256, of_520, of_576, of_999, of_1000, of_1380, of_65536, of_252645135, of_858993459, of_1431655765, of_m1000000, of_m999, of_m99, of_m8, of_m2, of_m1, nI_add, ix_nI, Option.bind_some, h1, Int32.zero_add, nI_eqp]
    by_cases he : hdS (s.1 21 i) a = a
    · simp [hI, he]
    · simp [hI, he]
  · have h1 := hn a (by omega) ha
    simp (disch := omega) only [of_0, of_1, of_2, of_3, of_4, of_5, of_6, of_7, of_8, of_9, of_10, of_11, of_12, of_13, of_14, of_15, of_16, of_18, of_19, of_20, of_24, of_30, of_32, of_33, of_36, of_38, of_39, of_40, of_41, of_42, of_43, of_44, of_45, of_46, of_47, of_48, of_49, of_50, of_51, of_52, of_53, of_54, of_55, of_56, of_57, of_58, of_59, of_60, of_61, of_62, of_63, of_91, of_93, of_97, of_98, of_99, of_100, of_102, of_103, of_104, of_105, of_106, of_107, of_108, of_109, of_110, of_112, of_113, of_114, of_115, of_116, of_119, of_120, of_121, of_124, of_140, of_180, of_240, of_255, of_256, of_520, of_576, of_999, of_1000, of_1380, of_65536, of_252645135, of_858993459, of_1431655765, of_m1000000, of_m999, of_m99, of_m8, of_m2, of_m1, nI_add, ix_nI, Option.bind_some, h1, Int32.zero_add]
    rw [if_neg (fun z => by have := nI_nm1 (n := a) (by omega); rw [← z] at this; exact (cast this rfl))]
    simp [hI]
theorem fc_kindOf {s : S2} {i t : Nat} (ht : t < 8) : f_State_kindOf i (nI t) s = some (s.1 21 i (30 + t)) := by
  unfold f_State_kindOf
  simp (disch := omega) only [of_0, of_1, of_2, of_3, of_4, of_5, of_6, of_7, of_8, of_9, of_10, of_11, of_12, of_13, of_14, of_15, of_16, of_18, of_19, of_20, of_24, of_30, of_32, of_33, of_36, of_38, of_39, of_40, of_41, of_42, of_43, of_44, of_45, of_46, of_47, of_48, of_49, of_50, of_51, of_52, of_53, of_54, of_55, of_56, of_57, of_58, of_59, of_60, of_61, of_62, of_63, of_91, of_93, of_97, of_98, of_99, of_100, of_102, of_103, of_104, of_105, of_106, of_107, of_108, of_109, of_110, of_112, of_113, of_114, of_115, of_116, of_119, of_120, of_121, of_124, of_140, of_180, of_240, of_255, of_256, of_520, of_576, of_999, of_1000, of_1380, of_65536, of_252645135, of_858993459, of_1431655765, of_m1000000, of_m999, of_m99, of_m8, of_m2, of_m1, nI_add, ix_nI, Option.bind_some]
theorem fc_priceOf {s : S2} {i a : Nat} (ha : a < 6) : f_State_priceOf i (nI a) s = some (s.1 21 i (43 + a)) := by
  unfold f_State_priceOf
  simp (disch := omega) only [of_0, of_1, of_2, of_3, of_4, of_5, of_6, of_7, of_8, of_9, of_10, of_11, of_12, of_13, of_14, of_15, of_16, of_18, of_19, of_20, of_24, of_30, of_32, of_33, of_36, of_38, of_39, of_40, of_41, of_42, of_43, of_44, of_45, of_46, of_47, of_48, of_49, of_50, of_51, of_52, of_53, of_54, of_55, of_56, of_57, of_58, of_59, of_60, of_61, of_62, of_63, of_91, of_93, of_97, of_98, of_99, of_100, of_102, of_103, of_104, of_105, of_106, of_107, of_108, of_109, of_110, of_112, of_113, of_114, of_115, of_116, of_119, of_120, of_121, of_124, of_140, of_180, of_240, of_255, of_256, of_520, of_576, of_999, of_1000, of_1380, of_65536, of_252645135, of_858993459, of_1431655765, of_m1000000, of_m999, of_m99, of_m8, of_m2, of_m1, nI_add, ix_nI, Option.bind_some]
theorem fc_stands {s : S2} {i b : Nat} (hb : b < 4) : f_State_stands i (nI b) s = some (decide (s.1 21 i (38 + b) = nI 1)) := by
  unfold f_State_stands
  simp (disch := omega) only [of_0, of_1, of_2, of_3, of_4, of_5, of_6, of_7, of_8, of_9, of_10, of_11, of_12, of_13, of_14, of_15, of_16, of_18, of_19, of_20, of_24, of_30, of_32, of_33, of_36, of_38, of_39, of_40, of_41, of_42, of_43, of_44, of_45, of_46, of_47, of_48, of_49, of_50, of_51, of_52, of_53, of_54, of_55, of_56, of_57, of_58, of_59, of_60, of_61, of_62, of_63, of_91, of_93, of_97, of_98, of_99, of_100, of_102, of_103, of_104, of_105, of_106, of_107, of_108, of_109, of_110, of_112, of_113, of_114, of_115, of_116, of_119, of_120, of_121, of_124, of_140, of_180, of_240, of_255, of_256, of_520, of_576, of_999, of_1000, of_1380, of_65536, of_252645135, of_858993459, of_1431655765, of_m1000000, of_m999, of_m99, of_m8, of_m2, of_m1, nI_add, ix_nI, Option.bind_some]
  by_cases h : s.1 21 i (38 + b) = nI 1
  · rw [if_pos h]; simp [h]
  · rw [if_neg h]; simp [h]
theorem fc_apart {s : S2} {i a b I : Nat} (hv : VS I (s.1 21 i)) (ha : a < I) (hb : b < I) : f_State_apart i (nI a) (nI b) s = some (apS (s.1 21 i) a b) := by
  obtain ⟨h6, hh, -, -⟩ := hv
  obtain ⟨h1, h2, -⟩ := hh a ha
  obtain ⟨h3, h4, -⟩ := hh b hb
  unfold f_State_apart f_State_apart_L81 apS
  simp (disch := omega) only [of_0, of_1, of_2, of_3, of_4, of_5, of_6, of_7, of_8, of_9, of_10, of_11, of_12, of_13, of_14, of_15, of_16, of_18, of_19, of_20, of_24, of_30, of_32, of_33, of_36, of_38, of_39, of_40, of_41, of_42, of_43, of_44, of_45, of_46, of_47, of_48, of_49, of_50, of_51, of_52, of_53, of_54, of_55, of_56, of_57, of_58, of_59, of_60, of_61, of_62, of_63, of_91, of_93, of_97, of_98, of_99, of_100, of_102, of_103, of_104, of_105, of_106, of_107, of_108, of_109, of_110, of_112, of_113, of_114, of_115, of_116, of_119, of_120, of_121, of_124, of_140, of_180, of_240, of_255, of_256, of_520, of_576, of_999, of_1000, of_1380, of_65536, of_252645135, of_858993459, of_1431655765, of_m1000000, of_m999, of_m99, of_m8, of_m2, of_m1, nI_add, ix_nI, Option.bind_some, h1, h3, Int32.zero_add]
  generalize s.1 21 i (hdS (s.1 21 i) a) - s.1 21 i (hdS (s.1 21 i) b) = x
  generalize s.1 21 i (6 + hdS (s.1 21 i) a) - s.1 21 i (6 + hdS (s.1 21 i) b) = y
  unfold jabs
  by_cases p : 0 ≤ x <;> by_cases q : 0 ≤ y <;> simp only [p, q, if_true, if_false, Int32.zero_sub]
/-- rows of the sea -/
theorem fc_ofIsle {s : S2} {i a k : Nat} (ha : a < 6) (hk : k < 8) : f_Sea_ofIsle i (nI a) (nI k) s = some (s.1 14 i ((1 + a) * 8 + k)) := by
  unfold f_Sea_ofIsle
  rw [show lgD (kstat 2) 1 = nI 1 from rfl]
  simp (disch := omega) only [of_0, of_1, of_2, of_3, of_4, of_5, of_6, of_7, of_8, of_9, of_10, of_11, of_12, of_13, of_14, of_15, of_16, of_18, of_19, of_20, of_24, of_30, of_32, of_33, of_36, of_38, of_39, of_40, of_41, of_42, of_43, of_44, of_45, of_46, of_47, of_48, of_49, of_50, of_51, of_52, of_53, of_54, of_55, of_56, of_57, of_58, of_59, of_60, of_61, of_62, of_63, of_91, of_93, of_97, of_98, of_99, of_100, of_102, of_103, of_104, of_105, of_106, of_107, of_108, of_109, of_110, of_112, of_113, of_114, of_115, of_116, of_119, of_120, of_121, of_124, of_140, of_180, of_240, of_255, of_256, of_520, of_576, of_999, of_1000, of_1380, of_65536, of_252645135, of_858993459, of_1431655765, of_m1000000, of_m999, of_m99, of_m8, of_m2, of_m1, nI_add, mul_nI, ix_nI, Option.bind_some]
theorem fc_ofTie {s : S2} {i a k : Nat} (ha : a < 8) (hk : k < 8) : f_Sea_ofTie i (nI a) (nI k) s = some (s.1 14 i ((7 + a) * 8 + k)) := by
  unfold f_Sea_ofTie
  rw [show lgD (kstat 2) 2 = nI 7 from rfl]
  simp (disch := omega) only [of_0, of_1, of_2, of_3, of_4, of_5, of_6, of_7, of_8, of_9, of_10, of_11, of_12, of_13, of_14, of_15, of_16, of_18, of_19, of_20, of_24, of_30, of_32, of_33, of_36, of_38, of_39, of_40, of_41, of_42, of_43, of_44, of_45, of_46, of_47, of_48, of_49, of_50, of_51, of_52, of_53, of_54, of_55, of_56, of_57, of_58, of_59, of_60, of_61, of_62, of_63, of_91, of_93, of_97, of_98, of_99, of_100, of_102, of_103, of_104, of_105, of_106, of_107, of_108, of_109, of_110, of_112, of_113, of_114, of_115, of_116, of_119, of_120, of_121, of_124, of_140, of_180, of_240, of_255, of_256, of_520, of_576, of_999, of_1000, of_1380, of_65536, of_252645135, of_858993459, of_1431655765, of_m1000000, of_m999, of_m99, of_m8, of_m2, of_m1, nI_add, mul_nI, ix_nI, Option.bind_some]
theorem fc_ofBridge {s : S2} {i a k : Nat} (ha : a < 4) (hk : k < 8) : f_Sea_ofBridge i (nI a) (nI k) s = some (s.1 14 i ((15 + a) * 8 + k)) := by
  unfold f_Sea_ofBridge
  rw [show lgD (kstat 2) 3 = nI 15 from rfl]
  simp (disch := omega) only [of_0, of_1, of_2, of_3, of_4, of_5, of_6, of_7, of_8, of_9, of_10, of_11, of_12, of_13, of_14, of_15, of_16, of_18, of_19, of_20, of_24, of_30, of_32, of_33, of_36, of_38, of_39, of_40, of_41, of_42, of_43, of_44, of_45, of_46, of_47, of_48, of_49, of_50, of_51, of_52, of_53, of_54, of_55, of_56, of_57, of_58, of_59, of_60, of_61, of_62, of_63, of_91, of_93, of_97, of_98, of_99, of_100, of_102, of_103, of_104, of_105, of_106, of_107, of_108, of_109, of_110, of_112, of_113, of_114, of_115, of_116, of_119, of_120, of_121, of_124, of_140, of_180, of_240, of_255, of_256, of_520, of_576, of_999, of_1000, of_1380, of_65536, of_252645135, of_858993459, of_1431655765, of_m1000000, of_m999, of_m99, of_m8, of_m2, of_m1, nI_add, mul_nI, ix_nI, Option.bind_some]
theorem fc_ofWater {s : S2} {i k : Nat} (hk : k < 8) : f_Sea_ofWater i (nI k) s = some (s.1 14 i k) := by
  unfold f_Sea_ofWater
  simp (disch := omega) only [ix_nI, Option.bind_some]
theorem fc_ofWater0 {s : S2} {i : Nat} : f_Sea_ofWater i 0 s = some (s.1 14 i 0) := fc_ofWater (k := 0) (by omega)
/-- the reference's rows hold the same state -/
def RS (I T B : Nat) (v : Nat → Int32) (s : S2) : Prop :=
  (∀ a, a < I → v a = s.1 79 0 a ∧ v (6 + a) = s.1 80 0 a ∧ v (12 + a) = s.1 81 0 a ∧ v (18 + a) = s.1 82 0 a ∧ v (24 + a) = s.1 83 0 a ∧ v (43 + a) = s.1 76 0 (8 * a + 7)) ∧
  (∀ t, t < T → v (30 + t) = s.1 77 0 (4 * t + 2)) ∧
  (∃ m : Nat, m < 16 ∧ s.1 60 0 36 = nI m ∧ ∀ b, b < B → (v (38 + b) = nI 1 ∧ m.testBit b = true) ∨ (v (38 + b) = 0 ∧ m.testBit b = false)) ∧ v 42 = s.1 60 0 37
theorem g_M_isIsle_nI {s : S2} {a I : Nat} (hI : s.1 60 0 28 = nI I) (h6 : I ≤ 6) (ha : a < 2 ^ 31) : g_M_isIsle (nI a) s = decide (a < I) := by
  unfold g_M_isIsle
  rw [g_M_in_eq, hI, of_0, of_1]
  cases h : inS (nI a) 0 (nI I - nI 1) with
  | true =>
    obtain ⟨j, h1, h2⟩ := inS_nI h (by omega)
    have h2 := (nI_eq ha (by omega)).mp h2
    simp [h2, h1]
  | false =>
    by_cases hl : a < I
    · exfalso
      have := of_decide_eq_false h
      apply this
      rw [sub_nI (by omega)]
      exact ⟨nI_pos' ha, nI_le (by omega) (by omega)⟩
    · simp [hl]
theorem fm_isHead {s : S2} {a I T B : Nat} {v : Nat → Int32} (hI : s.1 60 0 28 = nI I) (hv : VS I v) (hr : RS I T B v s) (ha : a < 2 ^ 31) : f_M_isHead (nI a) s = some (isH I v a) := by
  obtain ⟨h6, hh, -, -⟩ := hv
  unfold f_M_isHead isH
  rw [g_M_isIsle_nI hI h6 ha]
  by_cases hl : a < I
  · obtain ⟨h1, h2, -⟩ := hh a hl
    have h3 := (hr.1 a hl).2.2.2.1
    rw [if_neg (by simp [bI_0, hl])]
    simp (disch := omega) only [ix_nI, Option.bind_some]
    rw [← h3, h1]
    by_cases he : hdS v a = a
    · rw [if_pos (by rw [he])]; simp [hl, he]
    · rw [if_neg (fun z => he ((nI_eq (by omega) ha).mp z))]; simp [he]
  · rw [if_pos (by simp [bI_0, hl])]
    simp [hl]
theorem fm_farOf {s : S2} {a b I T B : Nat} {v : Nat → Int32} (hv : VS I v) (hr : RS I T B v s) (ha : a < I) (hb : b < I) : f_M_farOf (nI a) (nI b) s = some (apS v a b) := by
  obtain ⟨h6, hh, -, -⟩ := hv
  obtain ⟨h1, h2, -⟩ := hh a ha
  obtain ⟨h3, h4, -⟩ := hh b hb
  have r1 := hr.1 a ha
  have r2 := hr.1 b hb
  have r3 := hr.1 _ h2
  have r4 := hr.1 _ h4
  have e1 : s.1 82 0 a = nI (hdS v a) := by rw [← r1.2.2.2.1, h1]
  have e2 : s.1 82 0 b = nI (hdS v b) := by rw [← r2.2.2.2.1, h3]
  unfold f_M_farOf apS
  simp (disch := omega) only [ix_nI, Option.bind_some, e1, e2]
  rw [r3.1, r4.1, r3.2.1, r4.2.1]
theorem fm_of {s : S2} {a k : Nat} (ha : a < 6) (hk : k < 8) : f_M_of (nI a) (nI k) s = some (s.1 76 0 (8 * a + k)) := by
  unfold f_M_of
  simp (disch := omega) only [of_0, of_1, of_2, of_3, of_4, of_5, of_6, of_7, of_8, of_9, of_10, of_11, of_12, of_13, of_14, of_15, of_16, of_18, of_19, of_20, of_24, of_30, of_32, of_33, of_36, of_38, of_39, of_40, of_41, of_42, of_43, of_44, of_45, of_46, of_47, of_48, of_49, of_50, of_51, of_52, of_53, of_54, of_55, of_56, of_57, of_58, of_59, of_60, of_61, of_62, of_63, of_91, of_93, of_97, of_98, of_99, of_100, of_102, of_103, of_104, of_105, of_106, of_107, of_108, of_109, of_110, of_112, of_113, of_114, of_115, of_116, of_119, of_120, of_121, of_124, of_140, of_180, of_240, of_255, of_256, of_520, of_576, of_999, of_1000, of_1380, of_65536, of_252645135, of_858993459, of_1431655765, of_m1000000, of_m999, of_m99, of_m8, of_m2, of_m1, nI_add, mul_nI, ix_nI, Option.bind_some]
theorem apS_comm (v : Nat → Int32) (a b : Nat) (h : hdS v a = hdS v b) : apS v a b = 0 := by
  unfold apS
  rw [h, Int32.sub_self, Int32.sub_self]
  rfl
