/-! ===== pulls, and how a pair is drawn ===== -/
abbrev D2 : Type := (Nat → Int32) × (Nat → Int32)
def adS (v : Nat → Int32) (a b : Nat) (p : Int32) (d : D2) : D2 := if apS v a b = 0 then d else
  (upd (upd d.1 (hdS v a) (d.1 (hdS v a) + p * (v (hdS v b) - v (hdS v a)) / apS v a b)) (hdS v b) (upd d.1 (hdS v a) (d.1 (hdS v a) + p * (v (hdS v b) - v (hdS v a)) / apS v a b) (hdS v b) - p * (v (hdS v b) - v (hdS v a)) / apS v a b),
   upd (upd d.2 (hdS v a) (d.2 (hdS v a) + p * (v (6 + hdS v b) - v (6 + hdS v a)) / apS v a b)) (hdS v b) (upd d.2 (hdS v a) (d.2 (hdS v a) + p * (v (6 + hdS v b) - v (6 + hdS v a)) / apS v a b) (hdS v b) - p * (v (6 + hdS v b) - v (6 + hdS v a)) / apS v a b))
abbrev WF6 : Type := Int32 → Int32 → Int32 → Int32 → Int32 → Int32 → Int32
def plS (W : Option WF6) (v : Nat → Int32) (a b : Nat) (k st : Int32) : Int32 := if apS v a b = 0 then 0 else match W with
  | none => if k = 0 then st else -st
  | some w => jmax (-99) (jmin (nI 99) (w (apS v a b) st k (v (12 + hdS v a)) (v (12 + hdS v b)) (v 42)))
theorem i_0div (x : Int32) : (0 : Int32) / x = 0 := Int32.zero_div
theorem adS_0 (v : Nat → Int32) (a b : Nat) (d : D2) : adS v a b 0 d = d := by
  unfold adS
  split
  · rfl
  · simp only [Int32.zero_mul, i_0div, Int32.add_zero, Int32.sub_zero, upd_self]
/-- the drawn rows of the class, of the reference -/
def DC (d : D2) (s : S2) : Prop := ∀ k, k < 6 → s.1 33 0 k = d.1 k ∧ s.1 34 0 k = d.2 k
def DM (d : D2) (s : S2) : Prop := ∀ k, k < 6 → s.1 87 0 k = d.1 k ∧ s.1 88 0 k = d.2 k
def KDw (c _ _ : Nat) : Bool := c == 33 || c == 34
def KLt (c _ _ : Nat) : Bool := c == 19 || c == 32
def MDw (c _ _ : Nat) : Bool := c == 87 || c == 88
def MLt (c _ _ : Nat) : Bool := c == 69 || c == 70
theorem fc_drawTwo {s : S2} {i a b I : Nat} {p : Int32} {d : D2} (hv : VS I (s.1 21 i)) (ha : a < I) (hb : b < I) (hd : DC d s) : ∃ s', f_Course_drawTwo i (nI a) (nI b) p s = some s' ∧ Fr KDw s s' ∧ DC (adS (s.1 21 i) a b p d) s' := by
  unfold f_Course_drawTwo f_Course_drawTwo_L15
  by_cases hp : p = 0
  · refine ⟨s, ?_, Fr.refl _ _, ?_⟩
    · rw [if_pos hp, of_0, if_pos rfl]
    · rw [hp, adS_0]; exact hd
  · rw [if_neg hp, fc_apart hv ha hb, Option.bind_some]
    by_cases hap : apS (s.1 21 i) a b = 0
    · refine ⟨s, by rw [if_pos hap], Fr.refl _ _, ?_⟩
      unfold adS
      rw [if_pos hap]; exact hd
    · have h6 := hv.1
      obtain ⟨-, h2, -⟩ := hv.2.1 a ha
      obtain ⟨-, h4, -⟩ := hv.2.1 b hb
      simp (disch := omega) only [if_neg hap, fc_xOf hv ha, fc_xOf hv hb, fc_yOf hv ha, fc_yOf hv hb, fc_headOf hv ha, fc_headOf hv hb, ix_nI, Option.bind_some]
      refine ⟨_, rfl, ((((Fr.refl _ _).pk' _ rfl).pk' _ rfl).pk' _ rfl).pk' _ rfl, fun k hk => ?_⟩
      have e1 := hd _ (show hdS (s.1 21 i) a < 6 by omega)
      have e2 := hd _ (show hdS (s.1 21 i) b < 6 by omega)
      have e3 := hd k hk
      unfold adS
      rw [if_neg hap]
      constructor
      · by_cases c1 : k = hdS (s.1 21 i) b <;> by_cases c2 : k = hdS (s.1 21 i) a <;> by_cases c3 : hdS (s.1 21 i) b = hdS (s.1 21 i) a <;> simp_all [pkS_v, upd]
      · by_cases c1 : k = hdS (s.1 21 i) b <;> by_cases c2 : k = hdS (s.1 21 i) a <;> by_cases c3 : hdS (s.1 21 i) b = hdS (s.1 21 i) a <;> simp_all [pkS_v, upd]
theorem fm_drawnToX {s : S2} {a b I T B : Nat} {v : Nat → Int32} {p : Int32} (hv : VS I v) (hr : RS I T B v s) (ha : a < I) (hb : b < I) : f_M_drawnTo (nI a) (nI b) p (nI 1) s = some (if apS v a b = 0 then 0 else p * (v (hdS v b) - v (hdS v a)) / apS v a b) := by
  have h6 := hv.1
  obtain ⟨h1, h2, -⟩ := hv.2.1 a ha
  obtain ⟨h3, h4, -⟩ := hv.2.1 b hb
  have e1 : s.1 82 0 a = nI (hdS v a) := by rw [← (hr.1 a ha).2.2.2.1, h1]
  have e2 : s.1 82 0 b = nI (hdS v b) := by rw [← (hr.1 b hb).2.2.2.1, h3]
  unfold f_M_drawnTo f_M_drawnTo_L62
  simp (disch := omega) only [fm_farOf hv hr ha hb, of_0, of_1, of_2, of_3, of_4, of_5, of_6, of_7, of_8, of_9, of_10, of_11, of_12, of_13, of_14, of_15, of_16, of_18, of_19, of_20, of_24, of_30, of_32, of_33, of_36, of_38, of_39, of_40, of_41, of_42, of_43, of_44, of_45, of_46, of_47, of_48, of_49, of_50, of_51, of_52, of_53, of_54, of_55, of_56, of_57, of_58, of_59, of_60, of_61, of_62, of_63, of_91, of_93, of_97, of_98, of_99, of_100, of_102, of_103, of_104, of_105, of_106, of_107, of_108, of_109, of_110, of_112, of_113, of_114, of_115, of_116, of_119, of_120, of_121, of_124, of_140, of_180, of_240, of_255, of_256, of_520, of_576, of_999, of_1000, of_1380, of_65536, of_252645135, of_858993459, of_1431655765, of_m1000000, of_m999, of_m99, of_m8, of_m2, of_m1, ix_nI, Option.bind_some, e1, e2, if_neg (show ¬ nI 1 = 0 by decide), ← (hr.1 _ h2).1, ← (hr.1 _ h4).1]
  split <;> rfl
theorem fm_drawnToY {s : S2} {a b I T B : Nat} {v : Nat → Int32} {p : Int32} (hv : VS I v) (hr : RS I T B v s) (ha : a < I) (hb : b < I) : f_M_drawnTo (nI a) (nI b) p 0 s = some (if apS v a b = 0 then 0 else p * (v (6 + hdS v b) - v (6 + hdS v a)) / apS v a b) := by
  have h6 := hv.1
  obtain ⟨h1, h2, -⟩ := hv.2.1 a ha
  obtain ⟨h3, h4, -⟩ := hv.2.1 b hb
  have e1 : s.1 82 0 a = nI (hdS v a) := by rw [← (hr.1 a ha).2.2.2.1, h1]
  have e2 : s.1 82 0 b = nI (hdS v b) := by rw [← (hr.1 b hb).2.2.2.1, h3]
  unfold f_M_drawnTo f_M_drawnTo_L62
  simp (disch := omega) only [fm_farOf hv hr ha hb, of_0, of_1, of_2, of_3, of_4, of_5, of_6, of_7, of_8, of_9, of_10, of_11, of_12, of_13, of_14, of_15, of_16, of_18, of_19, of_20, of_24, of_30, of_32, of_33, of_36, of_38, of_39, of_40, of_41, of_42, of_43, of_44, of_45, of_46, of_47, of_48, of_49, of_50, of_51, of_52, of_53, of_54, of_55, of_56, of_57, of_58, of_59, of_60, of_61, of_62, of_63, of_91, of_93, of_97, of_98, of_99, of_100, of_102, of_103, of_104, of_105, of_106, of_107, of_108, of_109, of_110, of_112, of_113, of_114, of_115, of_116, of_119, of_120, of_121, of_124, of_140, of_180, of_240, of_255, of_256, of_520, of_576, of_999, of_1000, of_1380, of_65536, of_252645135, of_858993459, of_1431655765, of_m1000000, of_m999, of_m99, of_m8, of_m2, of_m1, ix_nI, Option.bind_some, e1, e2, if_true, ← (hr.1 _ h2).2.1, ← (hr.1 _ h4).2.1]
  split <;> rfl
theorem RS_fr {I T B : Nat} {v : Nat → Int32} {s s' : S2} (hr : RS I T B v s) (h79 : s'.1 79 0 = s.1 79 0) (h80 : s'.1 80 0 = s.1 80 0) (h81 : s'.1 81 0 = s.1 81 0) (h82 : s'.1 82 0 = s.1 82 0) (h83 : s'.1 83 0 = s.1 83 0) (h76 : s'.1 76 0 = s.1 76 0) (h77 : s'.1 77 0 = s.1 77 0) (h36 : s'.1 60 0 36 = s.1 60 0 36) (h37 : s'.1 60 0 37 = s.1 60 0 37) : RS I T B v s' := by
  unfold RS
  rw [h79, h80, h81, h82, h83, h76, h77, h36, h37]
  exact hr
theorem fm_layTie {s : S2} {t a b I T B : Nat} {v : Nat → Int32} {p : Int32} {d : D2} (k : Int32 → S2 → Option S2) (hv : VS I v) (hr : RS I T B v s) (ht : t < 11) (ha : a < I) (hb : b < I) (ea : s.1 77 0 (4 * t) = nI a) (eb : s.1 77 0 (4 * t + 1) = nI b) (hd : DM d s) : ∃ s', f_M_layDrawn_L71 k (nI t) p s = k (nI (t + 1)) s' ∧ Fr MDw s s' ∧ DM (adS v a b p d) s' := by
  have h6 := hv.1
  obtain ⟨h1, h2, -⟩ := hv.2.1 a ha
  obtain ⟨h3, h4, -⟩ := hv.2.1 b hb
  have e1 : s.1 82 0 a = nI (hdS v a) := by rw [← (hr.1 a ha).2.2.2.1, h1]
  have e2 : s.1 82 0 b = nI (hdS v b) := by rw [← (hr.1 b hb).2.2.2.1, h3]
  unfold f_M_layDrawn_L71
  simp (disch := omega) only [of_0, of_1, of_2, of_3, of_4, of_5, of_6, of_7, of_8, of_9, of_10, of_11, of_12, of_13, of_14, of_15, of_16, of_18, of_19, of_20, of_24, of_30, of_32, of_33, of_36, of_38, of_39, of_40, of_41, of_42, of_43, of_44, of_45, of_46, of_47, of_48, of_49, of_50, of_51, of_52, of_53, of_54, of_55, of_56, of_57, of_58, of_59, of_60, of_61, of_62, of_63, of_91, of_93, of_97, of_98, of_99, of_100, of_102, of_103, of_104, of_105, of_106, of_107, of_108, of_109, of_110, of_112, of_113, of_114, of_115, of_116, of_119, of_120, of_121, of_124, of_140, of_180, of_240, of_255, of_256, of_520, of_576, of_999, of_1000, of_1380, of_65536, of_252645135, of_858993459, of_1431655765, of_m1000000, of_m999, of_m99, of_m8, of_m2, of_m1, mul_nI, nI_add, Int32.add_zero, ix_nI, Option.bind_some, ea, eb, e1, e2, fm_drawnToX hv hr ha hb, fm_drawnToY hv hr ha hb, pkS_1, and_true, Nat.reduceEqDiff, if_false, false_and]
  refine ⟨_, rfl, ((((Fr.refl _ _).pk' _ rfl).pk' _ rfl).pk' _ rfl).pk' _ rfl, fun k hk => ?_⟩
  have f1 := hd _ (show hdS v a < 6 by omega)
  have f2 := hd _ (show hdS v b < 6 by omega)
  have f3 := hd k hk
  unfold adS
  by_cases hap : apS v a b = 0
  · simp only [if_pos hap, Int32.add_zero, Int32.sub_zero]
    constructor
    · by_cases c1 : k = hdS v b <;> by_cases c2 : k = hdS v a <;> by_cases c3 : hdS v b = hdS v a <;> simp_all [pkS_v, upd]
    · by_cases c1 : k = hdS v b <;> by_cases c2 : k = hdS v a <;> by_cases c3 : hdS v b = hdS v a <;> simp_all [pkS_v, upd]
  · simp only [if_neg hap]
    constructor
    · by_cases c1 : k = hdS v b <;> by_cases c2 : k = hdS v a <;> by_cases c3 : hdS v b = hdS v a <;> simp_all [pkS_v, upd]
    · by_cases c1 : k = hdS v b <;> by_cases c2 : k = hdS v a <;> by_cases c3 : hdS v b = hdS v a <;> simp_all [pkS_v, upd]
/-- the pull that holds, by the class, by the reference -/
def K19 (c _ _ : Nat) : Bool := c == 19
def M70 (c _ _ : Nat) : Bool := c == 70
def WC (n : Nat) (w : WF6) (s : S2) : Prop := ∀ s' : S2, s'.1 17 n = s.1 17 n → s'.1 18 n = s.1 18 n → ∃ s'', f_Rule_worth n 32 0 6 s' = some (s'', w (s'.1 32 0 0) (s'.1 32 0 1) (s'.1 32 0 2) (s'.1 32 0 3) (s'.1 32 0 4) (s'.1 32 0 5)) ∧ Fr K19 s' s''
def HC (W : Option WF6) (s : S2) : Prop := match W with
  | none => rl (s.1 31 0 11) = none
  | some w => ∃ n, rl (s.1 31 0 11) = some n ∧ WC n w s
def mrule (s s' : S2) : Prop := s'.1 62 0 = s.1 62 0 ∧ s'.1 63 0 = s.1 63 0 ∧ s'.1 65 0 = s.1 65 0 ∧ s'.1 66 0 = s.1 66 0 ∧ s'.1 67 0 = s.1 67 0 ∧ s'.1 68 0 = s.1 68 0
/-- text n's own rows are the same -/
def mruleN (n : Nat) (s s' : S2) : Prop := (∀ k, 520 * n ≤ k → k < 520 * n + 520 → s'.1 62 0 k = s.1 62 0 k ∧ s'.1 63 0 k = s.1 63 0 k) ∧ s'.1 65 0 n = s.1 65 0 n ∧ ∀ k, 140 * n ≤ k → k < 140 * n + 140 → s'.1 66 0 k = s.1 66 0 k ∧ s'.1 67 0 k = s.1 67 0 k ∧ s'.1 68 0 k = s.1 68 0 k
theorem mruleN_of {n : Nat} {s s' : S2} (h : mrule s s') : mruleN n s s' := by
  obtain ⟨h1, h2, h3, h4, h5, h6⟩ := h
  unfold mruleN
  rw [h1, h2, h3, h4, h5, h6]
  exact ⟨fun _ _ _ => ⟨rfl, rfl⟩, rfl, fun _ _ _ => ⟨rfl, rfl, rfl⟩⟩
theorem mruleN_tr {n : Nat} {s s' s'' : S2} (h : mruleN n s s') (h' : mruleN n s' s'') : mruleN n s s'' := ⟨fun k a b => ⟨(h'.1 k a b).1.trans (h.1 k a b).1, (h'.1 k a b).2.trans (h.1 k a b).2⟩, h'.2.1.trans h.2.1, fun k a b => ⟨(h'.2.2 k a b).1.trans (h.2.2 k a b).1, (h'.2.2 k a b).2.1.trans (h.2.2 k a b).2.1, (h'.2.2 k a b).2.2.trans (h.2.2 k a b).2.2⟩⟩
def WM (n : Nat) (w : WF6) (s : S2) : Prop := ∀ s' : S2, mruleN n s s' → ∃ s'', f_M_worthOf (nI n) s' = some (s'', w (s'.1 69 0 0) (s'.1 69 0 1) (s'.1 69 0 2) (s'.1 69 0 3) (s'.1 69 0 4) (s'.1 69 0 5)) ∧ Fr M70 s' s''
def HM (W : Option WF6) (s : S2) : Prop := match W with
  | none => s.1 60 0 40 = -1
  | some w => ∃ n : Nat, n < 5 ∧ s.1 60 0 40 = nI n ∧ WM n w s
theorem HC_fr {W : Option WF6} {s s' : S2} (h : HC W s) (h1 : s'.1 31 0 11 = s.1 31 0 11) (h17 : ∀ n, s'.1 17 n = s.1 17 n) (h18 : ∀ n, s'.1 18 n = s.1 18 n) : HC W s' := by
  cases W with
  | none => exact (congrArg rl h1).trans h
  | some w =>
    obtain ⟨n, g1, g2⟩ := h
    exact ⟨n, (congrArg rl h1).trans g1, fun s'' k1 k2 => g2 s'' (k1.trans (h17 n)) (k2.trans (h18 n))⟩
theorem HM_fr {W : Option WF6} {s s' : S2} (h : HM W s) (h1 : s'.1 60 0 40 = s.1 60 0 40) (h2 : mrule s s') : HM W s' := by
  cases W with
  | none => exact h1.trans h
  | some w =>
    obtain ⟨n, g0, g1, g2⟩ := h
    exact ⟨n, g0, h1.trans g1, fun s'' k => g2 s'' (mruleN_tr (mruleN_of h2) k)⟩
theorem fc_pullOf {s : S2} {i a b I : Nat} {k st : Int32} {W : Option WF6} (hv : VS I (s.1 21 i)) (ha : a < I) (hb : b < I) (hW : HC W s) : ∃ s', f_Course_pullOf i (nI a) (nI b) k st s = some (s', plS W (s.1 21 i) a b k st) ∧ Fr KLt s s' := by
  unfold f_Course_pullOf plS
  rw [fc_apart hv ha hb, Option.bind_some]
  by_cases hap : apS (s.1 21 i) a b = 0
  · exact ⟨s, by rw [if_pos hap, if_pos hap, of_0], Fr.refl _ _⟩
  · rw [if_neg hap, if_neg hap]
    cases W with
    | none =>
      rw [show rl (s.1 31 0 11) = none from hW]
      refine ⟨s, ?_, Fr.refl _ _⟩
      dsimp only
      split <;> rfl
    | some w =>
      obtain ⟨n, g1, g2⟩ := hW
      rw [g1]
      have hs : ∀ s', Fr KLt s s' → VS I (s'.1 21 i) ∧ s'.1 21 i = s.1 21 i := fun s' h => by
        have e : s'.1 21 i = s.1 21 i := h.arr (fun _ => rfl)
        exact ⟨by rw [e]; exact hv, e⟩
      simp only [Option.bind_some, of_0, of_1, of_2, of_3, of_4, of_5, of_6, of_7, of_8, of_9, of_10, of_11, of_12, of_13, of_14, of_15, of_16, of_18, of_19, of_20, of_24, of_30, of_32, of_33, of_36, of_38, of_39, of_40, of_41, of_42, of_43, of_44, of_45, of_46, of_47, of_48, of_49, of_50, of_51, of_52, of_53, of_54, of_55, of_56, of_57, of_58, of_59, of_60, of_61, of_62, of_63, of_91, of_93, of_97, of_98, of_99, of_100, of_102, of_103, of_104, of_105, of_106, of_107, of_108, of_109, of_110, of_112, of_113, of_114, of_115, of_116, of_119, of_120, of_121, of_124, of_140, of_180, of_240, of_255, of_256, of_520, of_576, of_999, of_1000, of_1380, of_65536, of_252645135, of_858993459, of_1431655765, of_m1000000, of_m999, of_m99, of_m8, of_m2, of_m1]
      have F3 : Fr KLt s (pkS (pkS (pkS s 32 0 0 (apS (s.1 21 i) a b)) 32 0 1 st) 32 0 2 k) := (((Fr.refl _ _).pk' _ rfl).pk' _ rfl).pk' _ rfl
      generalize he3 : (pkS (pkS (pkS s 32 0 0 (apS (s.1 21 i) a b)) 32 0 1 st) 32 0 2 k) = s3 at F3
      obtain ⟨v3, w3⟩ := hs s3 F3
      rw [fc_massOf v3 ha, Option.bind_some, w3]
      have F5 := F3.pk' (c := 32) (i := 0) (k := 3) (s.1 21 i (12 + hdS (s.1 21 i) a)) rfl
      generalize he5 : pkS s3 32 0 3 (s.1 21 i (12 + hdS (s.1 21 i) a)) = s5 at F5
      obtain ⟨v5, w5⟩ := hs s5 F5
      rw [fc_massOf v5 hb, Option.bind_some, w5]
      have F7 := F5.pk' (c := 32) (i := 0) (k := 4) (s.1 21 i (12 + hdS (s.1 21 i) b)) rfl
      generalize he7 : pkS s5 32 0 4 (s.1 21 i (12 + hdS (s.1 21 i) b)) = s7 at F7
      have w7 := (hs s7 F7).2
      rw [show g_State_season i s7 = s.1 21 i 42 from congrFun w7 42]
      have F8 := F7.pk' (c := 32) (i := 0) (k := 5) (s.1 21 i 42) rfl
      generalize he8 : pkS s7 32 0 5 (s.1 21 i 42) = s8 at F8
      obtain ⟨s9, k1, k2⟩ := g2 s8 (F8.arr (fun _ => rfl)) (F8.arr (fun _ => rfl))
      rw [k1, Option.bind_some]
      refine ⟨s9, ?_, F8.trans (k2.mono fun c i k h => ?_)⟩
      · unfold g_D_held
        rw [show -(nI 99) = -99 by decide]
        subst he8 he7 he5 he3
        simp only [pkS_v]
        rfl
      · unfold KLt at h
        unfold K19
        exact (Bool.or_eq_false_iff.mp h).1
theorem fm_pullOf {s : S2} {t a b I T B : Nat} {v : Nat → Int32} {W : Option WF6} (hv : VS I v) (hr : RS I T B v s) (ht : t < 11) (ha : a < I) (hb : b < I) (ea : s.1 77 0 (4 * t) = nI a) (eb : s.1 77 0 (4 * t + 1) = nI b) (hW : HM W s) : ∃ s', f_M_pullOf (nI t) s = some (s', plS W v a b (s.1 77 0 (4 * t + 2)) (s.1 77 0 (4 * t + 3))) ∧ Fr MLt s s' := by
  have h6 := hv.1
  obtain ⟨h1, h2, -⟩ := hv.2.1 a ha
  obtain ⟨h3, h4, -⟩ := hv.2.1 b hb
  have e1 : s.1 82 0 a = nI (hdS v a) := by rw [← (hr.1 a ha).2.2.2.1, h1]
  have e2 : s.1 82 0 b = nI (hdS v b) := by rw [← (hr.1 b hb).2.2.2.1, h3]
  unfold f_M_pullOf plS
  simp (disch := omega) only [of_0, of_1, of_2, of_3, of_4, of_5, of_6, of_7, of_8, of_9, of_10, of_11, of_12, of_13, of_14, of_15, of_16, of_18, of_19, of_20, of_24, of_30, of_32, of_33, of_36, of_38, of_39, of_40, of_41, of_42, of_43, of_44, of_45, of_46, of_47, of_48, of_49, of_50, of_51, of_52, of_53, of_54, of_55, of_56, of_57, of_58, of_59, of_60, of_61, of_62, of_63, of_91, of_93, of_97, of_98, of_99, of_100, of_102, of_103, of_104, of_105, of_106, of_107, of_108, of_109, of_110, of_112, of_113, of_114, of_115, of_116, of_119, of_120, of_121, of_124, of_140, of_180, of_240, of_255, of_256, of_520, of_576, of_999, of_1000, of_1380, of_65536, of_252645135, of_858993459, of_1431655765, of_m1000000, of_m999, of_m99, of_m8, of_m2, of_m1, mul_nI, nI_add, Int32.add_zero, ix_nI, Option.bind_some, ea, eb, e1, e2, fm_farOf hv hr ha hb, nI_eqp, pkS_1, and_true, Nat.reduceEqDiff, if_false, false_and]
  by_cases hh : hdS v a = hdS v b
  · rw [if_pos hh, if_pos (apS_comm v a b hh)]
    exact ⟨s, rfl, Fr.refl _ _⟩
  · rw [if_neg hh]
    by_cases hap : apS v a b = 0
    · rw [if_pos hap, if_pos hap]
      exact ⟨s, rfl, Fr.refl _ _⟩
    · rw [if_neg hap, if_neg hap]
      cases W with
      | none =>
        rw [if_pos (show s.1 60 0 40 = -1 from hW)]
        refine ⟨s, ?_, Fr.refl _ _⟩
        dsimp only
        split <;> rfl
      | some w =>
        obtain ⟨n, g0, g1, g2⟩ := hW
        rw [g1, if_neg (fun z => by have := nI_nm1 (n := n) (by omega); rw [z] at this; exact cast this rfl)]
        have F : Fr MLt s (pkS (pkS (pkS (pkS (pkS (pkS s 69 0 0 (apS v a b)) 69 0 1 (s.1 77 0 (4 * t + 3))) 69 0 2 (s.1 77 0 (4 * t + 2))) 69 0 3 (s.1 81 0 (hdS v a))) 69 0 4 (s.1 81 0 (hdS v b))) 69 0 5 (s.1 60 0 37)) := ((((((Fr.refl _ _).pk' _ rfl).pk' _ rfl).pk' _ rfl).pk' _ rfl).pk' _ rfl).pk' _ rfl
        obtain ⟨s9, k1, k2⟩ := g2 _ (mruleN_of ⟨F.arr fun _ => rfl, F.arr fun _ => rfl, F.arr fun _ => rfl, F.arr fun _ => rfl, F.arr fun _ => rfl, F.arr fun _ => rfl⟩)
        rw [k1, Option.bind_some]
        refine ⟨s9, ?_, F.trans (k2.mono fun c i k h => ?_)⟩
        · simp only [pkS_v]
          rw [(hr.1 _ h2).2.2.1, (hr.1 _ h4).2.2.1, hr.2.2.2]
          rfl
        · unfold MLt at h
          unfold M70
          exact (Bool.or_eq_false_iff.mp h).2
