/-! ===== trade: the reference ===== -/
def MT (c _ _ : Nat) : Bool := c == 84 || (c == 85 || c == 86)
theorem MT_MD {c i k : Nat} (h : MD c i k = false) : MT c i k = false := by
  unfold MD at h
  unfold MT
  simp only [Bool.or_eq_false_iff] at h ⊢
  exact ⟨h.2.2.1, h.2.2.2.1, h.2.2.2.2.1⟩
/-- what the trade reads of the reference: isles, water, prices -/
def MW (I T B : Nat) (w v : Nat → Int32) (s : S2) : Prop := SE I T B w ∧ VS I v ∧ s.1 60 0 28 = nI I ∧ s.1 75 0 0 = w 0 ∧ (∀ a, a < I → ∀ k, 3 ≤ k → k < 7 → s.1 76 0 (8 * a + k) = w ((1 + a) * 8 + k)) ∧ RS I T B v s
theorem MW_MT {I T B : Nat} {w v : Nat → Int32} {s s' : S2} (h : MW I T B w v s) (hF : Fr MT s s') : MW I T B w v s' := by
  obtain ⟨g1, g2, g3, g4, g5, g6⟩ := h
  refine ⟨g1, g2, (hF.1 _ _ _ rfl).trans g3, (hF.1 _ _ _ rfl).trans g4, ?_, RS_MD g6 (hF.mono fun _ _ _ => MT_MD)⟩
  rw [hF.arr (c := 76) fun _ => rfl]
  exact g5
theorem fm_isH {I T B : Nat} {w v : Nat → Int32} {s : S2} (h : MW I T B w v s) {a : Nat} (ha : a < 2 ^ 31) : f_M_isHead (nI a) s = some (isH I v a) := fm_isHead h.2.2.1 h.2.1 h.2.2.2.2.2 ha
theorem fm_costOf {I T B : Nat} {w v : Nat → Int32} {s : S2} (h : MW I T B w v s) {i o : Nat} (hi : i < I) (ho : o < I) : f_M_costOf (nI i) (nI o) s = some (coS w v i o) := by
  have h6 := h.1.1.1
  unfold f_M_costOf coS
  rw [of_7, fm_of (by omega) (by omega), Option.bind_some, fm_farOf h.2.1 h.2.2.2.2.2 hi ho, Option.bind_some, h.2.2.2.1, ← (h.2.2.2.2.2.1 o ho).2.2.2.2.2]
theorem fm_cheapL {I T B : Nat} {w v le : Nat → Int32} {s : S2} (h : MW I T B w v s) {b : Nat} (hb : b < I) (hle : ∀ o, o < I → s.1 86 0 o = le o) : ∀ (m k fu : Nat), k + m = I → m < fu → f_M_cheapestFor_L4 fu (nI b) (cdO (chS I w v le b k)) (nI k) s = some (cdO (chS I w v le b I)) := by
  intro m
  induction m with
  | zero =>
    intro k fu hk hf
    obtain ⟨f, rfl, hf'⟩ := suc_of hf
    have h6 := h.1.1.1
    have e : k = I := by omega
    subst e
    show b_M_cheapestFor_L4 _ _ _ _ _ = _
    unfold b_M_cheapestFor_L4
    rw [h.2.2.1, if_pos (nI_le (by omega) (by omega))]
  | succ m ih =>
    intro k fu hk hf
    obtain ⟨f, rfl, hf'⟩ := suc_lt hf
    have h6 := h.1.1.1
    have hrec := ih (k + 1) f (by omega) hf'
    show b_M_cheapestFor_L4 _ _ _ _ _ = _
    unfold b_M_cheapestFor_L4 f_M_cheapestFor_L53 f_M_cheapestFor_L54 f_M_cheapestFor_L85 f_M_cheapestFor_L81 f_M_cheapestFor_L86
    rw [h.2.2.1, if_neg (nI_ge (by omega) (by omega)), of_1, nI_add, of_0, if_pos rfl]
    cases hok : okS I w v le b k with
    | false =>
      have ec : chS I w v le b (k + 1) = chS I w v le b k := by
        show (if okS I w v le b k && beS w v b k (chS I w v le b k) then some k else chS I w v le b k) = _
        rw [hok]; rfl
      rw [ec] at hrec
      unfold okS at hok
      by_cases c1 : k = b
      · rw [if_pos (by rw [c1])]; exact hrec
      · rw [if_neg (fun z => c1 ((nI_eq (by omega) (by omega)).mp z)), fm_isH h (by omega), Option.bind_some]
        cases c2 : isH I v k with
        | false => rw [if_pos (by decide)]; exact hrec
        | true =>
          rw [if_neg (by decide), of_3, fm_of (by omega) (by omega), Option.bind_some, of_4, fm_of (by omega) (by omega), Option.bind_some, h.2.2.2.2.1 k (by omega) 3 (by omega) (by omega), h.2.2.2.2.1 b hb 4 (by omega) (by omega)]
          by_cases c4 : w ((1 + k) * 8 + 3) = w ((1 + b) * 8 + 4)
          · rw [if_pos c4, ix_nI (by omega) (by omega), Option.bind_some, hle k (by omega)]
            by_cases c3 : 0 < le k
            · simp [c1, c2, c3, c4] at hok
            · rw [if_pos (Int32.not_lt.mp c3)]; exact hrec
          · rw [if_neg c4]; exact hrec
    | true =>
      have hok' := hok
      unfold okS at hok'
      simp only [Bool.and_eq_true, decide_eq_true_eq] at hok'
      obtain ⟨c1, c2, c3, c4⟩ := hok'
      rw [if_neg (fun z => c1 ((nI_eq (by omega) (by omega)).mp z)), fm_isH h (by omega), Option.bind_some, c2, if_neg (by decide), of_3, fm_of (by omega) (by omega), Option.bind_some, of_4, fm_of (by omega) (by omega), Option.bind_some, h.2.2.2.2.1 k (by omega) 3 (by omega) (by omega), h.2.2.2.2.1 b hb 4 (by omega) (by omega), if_pos c4, ix_nI (by omega) (by omega), Option.bind_some, hle k (by omega), if_neg (Int32.not_le.mpr c3), if_neg (show ¬ nI 1 = 0 by decide), of_m1]
      cases hch : chS I w v le b k with
      | none =>
        have ec : chS I w v le b (k + 1) = some k := by
          show (if okS I w v le b k && beS w v b k (chS I w v le b k) then some k else chS I w v le b k) = _
          rw [hok, hch]; rfl
        rw [ec] at hrec
        rw [if_pos (show cdO none = (-1 : Int32) from rfl)]
        exact hrec
      | some q =>
        have hq := chS_lt hch
        rw [if_neg (cdO_nm1 q (by omega)), fm_costOf h hb (by omega), Option.bind_some, show (cdO (some q) : Int32) = nI q from rfl, fm_costOf h hb (by omega), Option.bind_some]
        by_cases hlt : coS w v b k < coS w v b q
        · have ec : chS I w v le b (k + 1) = some k := by
            show (if okS I w v le b k && beS w v b k (chS I w v le b k) then some k else chS I w v le b k) = _
            rw [hok, hch, show beS w v b k (some q) = decide (coS w v b k < coS w v b q) from rfl, decide_eq_true hlt]; rfl
          rw [ec] at hrec
          rw [if_neg (Int32.not_le.mpr hlt)]
          exact hrec
        · have ec : chS I w v le b (k + 1) = some q := by
            show (if okS I w v le b k && beS w v b k (chS I w v le b k) then some k else chS I w v le b k) = _
            rw [hok, hch, show beS w v b k (some q) = decide (coS w v b k < coS w v b q) from rfl, decide_eq_false hlt]; rfl
          rw [ec] at hrec
          rw [if_pos (Int32.not_lt.mp hlt)]
          exact hrec
theorem fm_cheapestFor {I T B : Nat} {w v le : Nat → Int32} {s : S2} (h : MW I T B w v s) {b : Nat} (hb : b < I) (hle : ∀ o, o < I → s.1 86 0 o = le o) : f_M_cheapestFor (nI b) s = some (cdO (chS I w v le b I)) := by
  unfold f_M_cheapestFor
  rw [of_m1, of_0]
  exact fm_cheapL h hb hle I 0 FU (by omega) (lt_FU (by have := h.1.1.1; omega))
def MRT (I : Nat) (z : TS) (s : S2) : Prop := (∀ j, j < 36 → s.1 84 0 j = z.1 j) ∧ (∀ j, j < I → s.1 85 0 j = z.2.1 j) ∧ (∀ j, j < I → s.1 86 0 j = z.2.2.1 j)
/-- what comes next: none, or by whom -/
def nxS (I : Nat) (w v : Nat → Int32) (b : Nat) (z : TS) : Option Nat := if 0 < z.2.1 b then chS I w v z.2.2.1 b I else none
theorem puS_nx {I : Nat} {w v : Nat → Int32} {b : Nat} {z : TS} : puS I w v b z = (match nxS I w v b z with
  | none => none
  | some o => some (paS w v b o z)) := by
  unfold puS nxS
  split <;> rfl
theorem byS_none {I : Nat} {w v : Nat → Int32} {b n : Nat} {z : TS} (h : nxS I w v b z = none) : byS I w v b n z = z := by
  have hp : puS I w v b z = none := by rw [puS_nx, h]
  cases n with
  | zero => rfl
  | succ n => unfold byS; rw [hp]
theorem byS_some {I : Nat} {w v : Nat → Int32} {b n o : Nat} {z : TS} (h : nxS I w v b z = some o) : byS I w v b (n + 1) z = byS I w v b n (paS w v b o z) := by
  have hp : puS I w v b z = some (paS w v b o z) := by rw [puS_nx, h]
  show (match puS I w v b z with
    | none => z
    | some z' => byS I w v b n z') = _
  rw [hp]
theorem fm_buyL {I T B : Nat} {w v : Nat → Int32} (K : Int32 → S2 → Option S2) {b : Nat} (hb : b < I) : ∀ (n fu : Nat) (s : S2) (z : TS), n < fu → MW I T B w v s → MRT I z s → nxS I w v b (byS I w v b n z) = none → ∃ s', f_M_trade_L113 K fu (nI b) (cdO (nxS I w v b z)) s = K (nI (b + 1)) s' ∧ MRT I (byS I w v b n z) s' ∧ Fr MT s s' := by
  intro n
  induction n with
  | zero =>
    intro fu s z hf h hz hn
    obtain ⟨f, rfl, hf'⟩ := suc_of hf
    have hn : nxS I w v b z = none := hn
    refine ⟨s, ?_, hz, Fr.refl _ _⟩
    show b_M_trade_L113 _ _ _ _ _ = _
    unfold b_M_trade_L113
    rw [hn, of_m1, if_pos (show cdO none = (-1 : Int32) from rfl), of_1, nI_add]
  | succ n ih =>
    intro fu s z hf h hz hn
    obtain ⟨f, rfl, hf'⟩ := suc_lt hf
    have h6 := h.1.1.1
    show ∃ s', b_M_trade_L113 _ _ _ _ _ = _ ∧ _
    cases hx : nxS I w v b z with
    | none =>
      rw [byS_none hx]
      refine ⟨s, ?_, hz, Fr.refl _ _⟩
      unfold b_M_trade_L113
      rw [of_m1, if_pos (show cdO none = (-1 : Int32) from rfl), of_1, nI_add]
    | some o =>
      rw [byS_some hx] at hn ⊢
      have ho : o < I := by
        unfold nxS at hx
        split at hx
        · exact (chS_lt hx).1
        · cases hx
      obtain ⟨z1, z2, z3⟩ := hz
      unfold b_M_trade_L113 f_M_trade_L187
      rw [of_m1, if_neg (cdO_nm1 o (by omega)), show (cdO (some o) : Int32) = nI o from rfl, of_6, mul_nI, nI_add, show 6 * b + o = b * 6 + o by omega]
      simp (disch := omega) only [ix_nI, Option.bind_some, pkS_1, Nat.reduceEqDiff, false_and, if_false, and_true, if_true, upd_eq, z2 b hb, z3 o ho, of_0, of_1, of_2, of_3, of_4, of_5, of_6, of_7, of_8, of_9, of_10, of_11, of_12, of_13, of_14, of_15, of_16, of_18, of_19, of_20, of_24, of_30, of_32, of_33, of_36, of_38, of_39, of_40, of_41, of_42, of_43, of_44, of_45, of_46, of_47, of_48, of_49, of_50, of_51, of_52, of_53, of_54, of_55, of_56, of_57, of_58, of_59, of_60, of_61, of_62, of_63, of_91, of_93, of_97, of_98, of_99, of_100, of_102, of_103, of_104, of_105, of_106, of_107, of_108, of_109, of_110, of_112, of_113, of_114, of_115, of_116, of_119, of_120, of_121, of_124, of_140, of_180, of_240, of_255, of_256, of_520, of_576, of_999, of_1000, of_1380, of_65536, of_252645135, of_858993459, of_1431655765, of_m1000000, of_m999, of_m99, of_m8, of_m2, of_m1]
      have F : Fr MT s (pkS (pkS (pkS s 84 0 (b * 6 + o) (s.1 84 0 (b * 6 + o) + jmin (z.2.1 b) (z.2.2.1 o))) 85 0 b (z.2.1 b - jmin (z.2.1 b) (z.2.2.1 o))) 86 0 o (z.2.2.1 o - jmin (z.2.1 b) (z.2.2.1 o))) := (((Fr.refl _ _).pk' _ rfl).pk' _ rfl).pk' _ rfl
      have hM : MRT I (paS w v b o z) (pkS (pkS (pkS s 84 0 (b * 6 + o) (s.1 84 0 (b * 6 + o) + jmin (z.2.1 b) (z.2.2.1 o))) 85 0 b (z.2.1 b - jmin (z.2.1 b) (z.2.2.1 o))) 86 0 o (z.2.2.1 o - jmin (z.2.1 b) (z.2.2.1 o))) := by
        unfold paS
        refine ⟨fun j hj => ?_, fun j hj => ?_, fun j hj => ?_⟩
        · simp only [pkS_v, Nat.reduceEqDiff, false_and, if_false, true_and, upd]
          split
          · rename_i hh; rw [z1 _ (by omega)]
          · exact z1 j hj
        · simp only [pkS_v, Nat.reduceEqDiff, false_and, if_false, true_and, upd]
          split
          · rfl
          · exact z2 j hj
        · simp only [pkS_v, Nat.reduceEqDiff, false_and, if_false, true_and, upd]
          split
          · rfl
          · exact z3 j hj
      generalize (pkS (pkS (pkS s 84 0 (b * 6 + o) (s.1 84 0 (b * 6 + o) + jmin (z.2.1 b) (z.2.2.1 o))) 85 0 b (z.2.1 b - jmin (z.2.1 b) (z.2.2.1 o))) 86 0 o (z.2.2.1 o - jmin (z.2.1 b) (z.2.2.1 o))) = st at F hM
      have hW := MW_MT h F
      have hl : z.2.1 b - jmin (z.2.1 b) (z.2.2.1 o) = (paS w v b o z).2.1 b := (upd_eq _ _ _).symm
      rw [hl]
      obtain ⟨s', g1, g2, g3⟩ := ih f st (paS w v b o z) hf' hW hM hn
      refine ⟨s', ?_, g2, F.trans g3⟩
      rw [← g1]
      unfold nxS
      by_cases hp : 0 < (paS w v b o z).2.1 b
      · rw [if_neg (Int32.not_le.mpr hp), if_pos hp, fm_cheapestFor hW hb hM.2.2, Option.bind_some]
      · rw [if_pos (Int32.not_lt.mp hp), if_neg hp]
        rfl
theorem fm_tradeL {s0 : S2} {I T B : Nat} {w v : Nat → Int32} : ∀ (m k fu : Nat) (s : S2), k + m = I → m < fu → MW I T B w v s → MRT I (trS I w v k) s → Fr MT s0 s → ∃ s', f_M_trade_L86 fu (nI k) s = some s' ∧ MRT I (trS I w v I) s' ∧ Fr MT s0 s' := by
  intro m
  induction m with
  | zero =>
    intro k fu s hk hf h hz hF
    obtain ⟨f, rfl, hf'⟩ := suc_of hf
    have h6 := h.1.1.1
    refine ⟨s, ?_, by rw [show I = k by omega] at hz ⊢; exact hz, hF⟩
    show b_M_trade_L86 _ _ _ = _
    unfold b_M_trade_L86
    rw [h.2.2.1, if_pos (nI_le (by omega) (by omega))]
  | succ m ih =>
    intro k fu s hk hf h hz hF
    obtain ⟨f, rfl, hf'⟩ := suc_lt hf
    have h6 := h.1.1.1
    have hend := (byS_end (w := w) (v := v) h6 6 _ (trS_ZN (v := v) h.1 (k := k) (by omega)) (ctS_lt _ (by omega))).1
    have hn : nxS I w v k (byS I w v k 6 (trS I w v k)) = none := by
      rw [puS_nx] at hend
      cases hq : nxS I w v k (byS I w v k 6 (trS I w v k)) with
      | none => rfl
      | some o => rw [hq] at hend; cases hend
    obtain ⟨s', a1, a2, a3⟩ := fm_buyL (f_M_trade_L86 f) (b := k) (by omega) 6 FU s (trS I w v k) (lt_FU (by omega)) h hz hn
    obtain ⟨s2, b1, b2, b3⟩ := ih (k + 1) f s' (by omega) hf' (MW_MT h a3) a2 (hF.trans a3)
    refine ⟨s2, ?_, b2, b3⟩
    show b_M_trade_L86 _ _ _ = _
    rw [← b1, ← a1]
    unfold b_M_trade_L86 f_M_trade_L112
    rw [h.2.2.1, if_neg (nI_ge (by omega) (by omega)), ix_nI (by omega) (by omega), Option.bind_some, hz.2.1 k (by omega)]
    unfold nxS
    by_cases hp : 0 < (trS I w v k).2.1 k
    · rw [if_neg (Int32.not_le.mpr hp), if_pos hp, fm_cheapestFor h (by omega) hz.2.2, Option.bind_some]
    · rw [if_pos (Int32.not_lt.mp hp), if_neg hp]
      rfl
theorem fm_initL {s0 : S2} {I T B : Nat} {w v : Nat → Int32} : ∀ (m k fu : Nat) (s : S2), k + m = I → m < fu → MW I T B w v s → (∀ j, j < k → s.1 85 0 j = la0 I w v j ∧ s.1 86 0 j = w ((1 + j) * 8 + 6)) → (∀ j, j < 36 → s.1 84 0 j = 0) → Fr MT s0 s → ∃ s', f_M_trade_L23 fu (nI k) s = f_M_trade_L86 FU 0 s' ∧ MRT I (trS I w v 0) s' ∧ Fr MT s0 s' := by
  intro m
  induction m with
  | zero =>
    intro k fu s hk hf h hz h0 hF
    obtain ⟨f, rfl, hf'⟩ := suc_of hf
    have h6 := h.1.1.1
    refine ⟨s, ?_, ⟨h0, fun j hj => ?_, fun j hj => (hz j (by omega)).2⟩, hF⟩
    · show b_M_trade_L23 _ _ _ = _
      unfold b_M_trade_L23
      rw [h.2.2.1, if_pos (nI_le (by omega) (by omega)), of_0]
    · show _ = if j < I then la0 I w v j else 0
      rw [if_pos hj]
      exact (hz j (by omega)).1
  | succ m ih =>
    intro k fu s hk hf h hz h0 hF
    obtain ⟨f, rfl, hf'⟩ := suc_lt hf
    have h6 := h.1.1.1
    have F1 : Fr MT s (pkS s 86 0 k (w ((1 + k) * 8 + 6))) := Fr.pk rfl s _
    have hW1 := MW_MT h F1
    have F2 : Fr MT s (pkS (pkS s 86 0 k (w ((1 + k) * 8 + 6))) 85 0 k (la0 I w v k)) := F1.pk' _ rfl
    obtain ⟨s', g1, g2, g3⟩ := ih (k + 1) f _ (by omega) hf' (MW_MT h F2) (fun j hj => by
      simp only [pkS_v, Nat.reduceEqDiff, false_and, if_false, true_and]
      by_cases c : j = k
      · subst c; simp
      · have := hz j (by omega)
        simp [c, this.1, this.2]) (fun j hj => by
      simp only [pkS_v, Nat.reduceEqDiff, false_and, if_false]
      exact h0 j hj) (hF.trans F2)
    refine ⟨s', ?_, g2, g3⟩
    rw [← g1]
    show b_M_trade_L23 _ _ _ = _
    unfold b_M_trade_L23 f_M_trade_L76 f_M_trade_L77
    rw [h.2.2.1, if_neg (nI_ge (by omega) (by omega)), of_6, fm_of (by omega) (by omega), Option.bind_some, ix_nI (by omega) (by omega), Option.bind_some, Option.bind_some, h.2.2.2.2.1 k (by omega) 6 (by omega) (by omega), fm_isH hW1 (by omega), Option.bind_some, of_1, nI_add, of_0]
    unfold la0
    cases hh : isH I v k with
    | false =>
      rw [if_pos (by decide), Option.bind_some, Option.bind_some]
      rfl
    | true =>
      rw [if_neg (by decide), of_4, fm_of (by omega) (by omega), Option.bind_some, hW1.2.2.2.2.1 k (by omega) 4 (by omega) (by omega)]
      by_cases c : w ((1 + k) * 8 + 4) = nI 4
      · rw [if_pos c, Option.bind_some, Option.bind_some]
        simp [c]
      · rw [if_neg c, of_5, fm_of (by omega) (by omega), Option.bind_some, hW1.2.2.2.2.1 k (by omega) 5 (by omega) (by omega), Option.bind_some, Option.bind_some]
        simp [c]
theorem fm_zeroL : ∀ (m k fu : Nat) (s : S2), k + m = 36 → m < fu → (∀ j, j < k → s.1 84 0 j = 0) → ∃ s', f_M_trade_L2 fu (nI k) s = f_M_trade_L23 FU 0 s' ∧ (∀ j, j < 36 → s'.1 84 0 j = 0) ∧ Fr MT s s' := by
  intro m
  induction m with
  | zero =>
    intro k fu s hk hf hz
    obtain ⟨f, rfl, hf'⟩ := suc_of hf
    refine ⟨s, ?_, fun j hj => hz j (by omega), Fr.refl _ _⟩
    show b_M_trade_L2 _ _ _ = _
    unfold b_M_trade_L2
    rw [of_36, if_pos (nI_le (by omega) (by omega)), of_0]
  | succ m ih =>
    intro k fu s hk hf hz
    obtain ⟨f, rfl, hf'⟩ := suc_lt hf
    obtain ⟨s', g1, g2, g3⟩ := ih (k + 1) f (pkS s 84 0 k 0) (by omega) hf' (fun j hj => by
      rw [pkS_v]
      by_cases c : j = k
      · rw [if_pos ⟨rfl, rfl, c⟩]
      · rw [if_neg (fun z => c z.2.2)]; exact hz j (by omega))
    refine ⟨s', ?_, g2, (Fr.pk rfl s 0).trans g3⟩
    rw [← g1]
    show b_M_trade_L2 _ _ _ = _
    unfold b_M_trade_L2
    rw [of_36, if_neg (nI_ge (by omega) (by omega)), ix_nI (by omega) (by omega), Option.bind_some, Option.bind_some, of_1, nI_add, of_0]
theorem fm_trade {I T B : Nat} {w v : Nat → Int32} {s : S2} (h : MW I T B w v s) : ∃ s', f_M_trade s = some s' ∧ MRT I (trS I w v I) s' ∧ Fr MT s s' := by
  have h6 := h.1.1.1
  unfold f_M_trade
  rw [of_0]
  obtain ⟨s1, a1, a2, a3⟩ := fm_zeroL 36 0 FU s (by omega) (lt_FU (by omega)) (fun j hj => by omega)
  obtain ⟨s2, b1, b2, b3⟩ := fm_initL (s0 := s) (w := w) (v := v) I 0 FU s1 (by omega) (lt_FU (by omega)) (MW_MT h a3) (fun j hj => by omega) a2 a3
  obtain ⟨s3, c1, c2, c3⟩ := fm_tradeL (s0 := s) I 0 FU s2 (by omega) (lt_FU (by omega)) (MW_MT h b3) b2 b3
  rw [nI_0] at a1 b1 c1
  exact ⟨s3, a1.trans (b1.trans c1), c2, c3⟩
