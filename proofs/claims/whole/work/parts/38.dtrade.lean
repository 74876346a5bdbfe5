/-! ===== trade draws ===== -/
def AV (I : Nat) (v am : Nat → Int32) : Prop := ∀ k, k < 36 → am k = 0 ∨ (isH I v (k / 6) = true ∧ isH I v (k % 6) = true)
theorem byS_AV {I i : Nat} {w v : Nat → Int32} (hi : i < 6) (h6 : I ≤ 6) (hH : isH I v i = true) : ∀ (n : Nat) (z : TS), AV I v z.1 → AV I v (byS I w v i n z).1 := by
  intro n
  induction n with
  | zero => exact fun z h => h
  | succ n ih =>
    intro z h
    cases hx : nxS I w v i z with
    | none => rw [byS_none hx]; exact h
    | some o =>
      rw [byS_some hx]
      refine ih _ ?_
      have hok : okS I w v z.2.2.1 i o = true ∧ o < I := by
        unfold nxS at hx
        split at hx
        · exact ⟨(chS_lt hx).2, (chS_lt hx).1⟩
        · cases hx
      have hoH : isH I v o = true := by
        have := hok.1
        unfold okS at this
        simp only [Bool.and_eq_true] at this
        exact this.2.1
      intro k hk
      unfold paS
      show upd z.1 (i * 6 + o) _ k = 0 ∨ _
      by_cases c : k = i * 6 + o
      · right
        rw [show k / 6 = i by omega, show k % 6 = o by omega]
        exact ⟨hH, hoH⟩
      · rw [upd_ne _ _ c]
        exact h k hk
theorem trS_AV {I : Nat} {w v : Nat → Int32} (h6 : I ≤ 6) : ∀ k, k ≤ I → AV I v (trS I w v k).1
  | 0, _ => fun _ _ => Or.inl rfl
  | k + 1, hk => by
    have ih := trS_AV (w := w) (v := v) h6 k (by omega)
    show AV I v (byS I w v k 6 (trS I w v k)).1
    cases hH : isH I v k with
    | true => exact byS_AV (by omega) h6 hH 6 _ ih
    | false =>
      rw [byS_0]
      · exact ih
      · rw [trS_la (Nat.le_refl k), if_pos (by omega)]
        unfold la0
        rw [hH]; rfl
def dkS (v am : Nat → Int32) (d : D2) : Nat → D2
  | 0 => d
  | k + 1 => if 0 < am k then adS v (k / 6) (k % 6) (am k) (dkS v am d k) else dkS v am d k
theorem dkS_skip {I : Nat} {v am : Nat → Int32} {d : D2} (h : AV I v am) : ∀ (m k : Nat), k + m ≤ 36 → (∀ j, k ≤ j → j < k + m → ¬ (j / 6 < I ∧ j % 6 < I)) → dkS v am d (k + m) = dkS v am d k
  | 0, _, _, _ => rfl
  | m + 1, k, hk, hs => by
    show (if 0 < am (k + m) then _ else dkS v am d (k + m)) = _
    rw [if_neg, dkS_skip h m k (by omega) (fun j h1 h2 => hs j h1 (by omega))]
    rcases h (k + m) (by omega) with h0 | ⟨h1, h2⟩
    · rw [h0]; decide
    · exact absurd ⟨isH_lt h1, isH_lt h2⟩ (hs (k + m) (by omega) (by omega))
theorem fc_bought {r a b : Nat} {s : S2} (ha : a < 6) (hb : b < 6) : f_Trade_bought r (nI a) (nI b) s = some (s.1 27 r (a * 6 + b)) := by
  unfold f_Trade_bought
  simp (disch := omega) only [of_0, of_1, of_2, of_3, of_4, of_5, of_6, of_7, of_8, of_9, of_10, of_11, of_12, of_13, of_14, of_15, of_16, of_18, of_19, of_20, of_24, of_30, of_32, of_33, of_36, of_38, of_39, of_40, of_41, of_42, of_43, of_44, of_45, of_46, of_47, of_48, of_49, of_50, of_51, of_52, of_53, of_54, of_55, of_56, of_57, of_58, of_59, of_60, of_61, of_62, of_63, of_91, of_93, of_97, of_98, of_99, of_100, of_102, of_103, of_104, of_105, of_106, of_107, of_108, of_109, of_110, of_112, of_113, of_114, of_115, of_116, of_119, of_120, of_121, of_124, of_140, of_180, of_240, of_255, of_256, of_520, of_576, of_999, of_1000, of_1380, of_65536, of_252645135, of_858993459, of_1431655765, of_m1000000, of_m999, of_m99, of_m8, of_m2, of_m1, mul_nI, nI_add, ix_nI, Option.bind_some]
theorem fc_dtrI {s0 : S2} {i I T B : Nat} {W : Option WF6} {on : Nat → Bool} {x : XT} {e : Nat} {v w am : Nat → Int32} {d : D2} (K : Int32 → S2 → Option S2) (hv : VS I v) (hA : AV I v am) {a : Nat} (ha : a < I) : ∀ (m k fu : Nat) (s : S2), k + m = I → m < fu → CX I T B W on x e w s → s.1 21 i = v → (∀ j, j < 36 → s.1 27 1 j = am j) → DC (dkS v am d (a * 6 + k)) s → Fr KD s0 s → ∃ s', f_Course_drawByTrade_L15 i K fu (nI a) (nI k) s = K (nI (a + 1)) s' ∧ CX I T B W on x e w s' ∧ s'.1 21 i = v ∧ (∀ j, j < 36 → s'.1 27 1 j = am j) ∧ DC (dkS v am d ((a + 1) * 6)) s' ∧ Fr KD s0 s' := by
  intro m
  induction m with
  | zero =>
    intro k fu s hk hf hX hs ham hd hF
    obtain ⟨f, rfl, hf'⟩ := suc_of hf
    have h6 := hv.1
    refine ⟨s, ?_, hX, hs, ham, ?_, hF⟩
    · show b_Course_drawByTrade_L15 i _ _ _ _ _ = _
      unfold b_Course_drawByTrade_L15
      rw [show g_Sea_isles 0 s = nI I from hX.2.2.1.1, if_pos (nI_le (by omega) (by omega)), of_1, nI_add]
    · have := dkS_skip (d := d) hA (6 - I) (a * 6 + I) (by omega) (fun j h1 h2 => by omega)
      rw [show (a + 1) * 6 = a * 6 + I + (6 - I) by omega, this, show I = k by omega]
      exact hd
  | succ m ih =>
    intro k fu s hk hf hX hs ham hd hF
    obtain ⟨f, rfl, hf'⟩ := suc_lt hf
    have h6 := hv.1
    have e1 : (a * 6 + k) / 6 = a := by omega
    have e2 : (a * 6 + k) % 6 = k := by omega
    show ∃ s', b_Course_drawByTrade_L15 i _ _ _ _ _ = _ ∧ _
    unfold b_Course_drawByTrade_L15 f_Course_drawByTrade_L54
    rw [show g_Sea_isles 0 s = nI I from hX.2.2.1.1, if_neg (nI_ge (by omega) (by omega)), fc_bought (by omega) (by omega), Option.bind_some, ham _ (by omega), Option.bind_some, of_1, nI_add]
    by_cases hp : 0 < am (a * 6 + k)
    · rw [if_neg (Int32.not_le.mpr hp)]
      obtain ⟨s1, b1, b2, b3⟩ := fc_drawTwo (i := i) (s := s) (I := I) (a := a) (b := k) (p := am (a * 6 + k)) (by rw [hs]; exact hv) ha (by omega) hd
      have F1 : Fr KD s s1 := b2.mono fun _ _ _ => KD_KDw
      rw [b1, Option.bind_some]
      refine ih (k + 1) f s1 (by omega) hf' (CX_KD hX F1) ((F1.arr fun _ => rfl).trans hs) (fun j hj => (b2.1 _ _ _ rfl).trans (ham j hj)) ?_ (hF.trans F1)
      show DC (if 0 < am (a * 6 + k) then adS v ((a * 6 + k) / 6) ((a * 6 + k) % 6) (am (a * 6 + k)) (dkS v am d (a * 6 + k)) else _) s1
      rw [if_pos hp, e1, e2, ← hs]
      rw [hs] at b3 ⊢
      exact b3
    · rw [if_pos (Int32.not_lt.mp hp)]
      refine ih (k + 1) f s (by omega) hf' hX hs ham ?_ hF
      show DC (if 0 < am (a * 6 + k) then _ else dkS v am d (a * 6 + k)) s
      rw [if_neg hp]
      exact hd
theorem fc_dtr {s0 : S2} {i I T B : Nat} {W : Option WF6} {on : Nat → Bool} {x : XT} {e : Nat} {v w am : Nat → Int32} {d : D2} (hv : VS I v) (hA : AV I v am) : ∀ (m k fu : Nat) (s : S2), k + m = I → m < fu → CX I T B W on x e w s → s.1 21 i = v → (∀ j, j < 36 → s.1 27 1 j = am j) → DC (dkS v am d (k * 6)) s → Fr KD s0 s → ∃ s', f_Course_drawByTrade_L2 i fu (nI k) s = some s' ∧ DC (dkS v am d 36) s' ∧ Fr KD s0 s' := by
  intro m
  induction m with
  | zero =>
    intro k fu s hk hf hX hs ham hd hF
    obtain ⟨f, rfl, hf'⟩ := suc_of hf
    have h6 := hv.1
    refine ⟨s, ?_, ?_, hF⟩
    · show b_Course_drawByTrade_L2 i _ _ _ = _
      unfold b_Course_drawByTrade_L2
      rw [show g_Sea_isles 0 s = nI I from hX.2.2.1.1, if_pos (nI_le (by omega) (by omega))]
    · have := dkS_skip (d := d) hA (36 - k * 6) (k * 6) (by omega) (fun j h1 h2 => by omega)
      rw [show 36 = k * 6 + (36 - k * 6) by omega, this]
      exact hd
  | succ m ih =>
    intro k fu s hk hf hX hs ham hd hF
    obtain ⟨f, rfl, hf'⟩ := suc_lt hf
    have h6 := hv.1
    show ∃ s', b_Course_drawByTrade_L2 i _ _ _ = _ ∧ _
    unfold b_Course_drawByTrade_L2
    rw [show g_Sea_isles 0 s = nI I from hX.2.2.1.1, if_neg (nI_ge (by omega) (by omega)), of_0, ← nI_0]
    obtain ⟨s1, a1, a2, a3, a4, a5, a6⟩ := fc_dtrI (s0 := s0) (i := i) (d := d) (f_Course_drawByTrade_L2 i f) hv hA (a := k) (by omega) I 0 FU s (by omega) (lt_FU (by omega)) hX hs ham hd hF
    rw [a1]
    exact ih (k + 1) f s1 (by omega) hf' a2 a3 a4 a5 a6
theorem fc_drawByTrade {s : S2} {i I T B : Nat} {W : Option WF6} {on : Nat → Bool} {x : XT} {e : Nat} {w am : Nat → Int32} {d : D2} (hv : VS I (s.1 21 i)) (hA : AV I (s.1 21 i) am) (hX : CX I T B W on x e w s) (ham : ∀ j, j < 36 → s.1 27 1 j = am j) (hd : DC d s) : ∃ s', f_Course_drawByTrade i s = some s' ∧ DC (dkS (s.1 21 i) am d 36) s' ∧ Fr KD s s' := by
  unfold f_Course_drawByTrade
  rw [of_0, ← nI_0]
  exact fc_dtr (s0 := s) hv hA I 0 FU s (by omega) (lt_FU (by have := hv.1; omega)) hX rfl ham hd (Fr.refl _ _)
theorem jrem_nI {a b : Nat} (ha : a < 2 ^ 31) (h0 : 0 < b) (hb : b < 2 ^ 31) : jrem (nI a) (nI b) = nI (a % b) := pk_rem ha h0 hb
theorem div_nI {a b : Nat} (ha : a < 2 ^ 31) (h0 : 0 < b) (hb : b < 2 ^ 31) : nI a / nI b = nI (a / b) := pk_div ha h0 hb
theorem fm_dtr {s0 : S2} {I T B : Nat} {W : Option WF6} {on : Nat → Bool} {x : XT} {e : Nat} {v w am : Nat → Int32} {d : D2} (hv : VS I v) (hA : AV I v am) : ∀ (m k fu : Nat) (s : S2), k + m = 36 → m < fu → RS I T B v s → (∀ j, j < 36 → s.1 84 0 j = am j) → DM (dkS v am d k) s → Fr MD s0 s → ∃ s', f_M_layDrawn_L205 fu (nI k) s = some s' ∧ DM (dkS v am d 36) s' ∧ Fr MD s0 s' := by
  intro m
  induction m with
  | zero =>
    intro k fu s hk hf hr ham hd hF
    obtain ⟨f, rfl, hf'⟩ := suc_of hf
    refine ⟨s, ?_, by rw [show k = 36 by omega] at hd; exact hd, hF⟩
    show b_M_layDrawn_L205 _ _ _ = _
    unfold b_M_layDrawn_L205
    rw [of_36, if_pos (nI_le (by omega) (by omega))]
  | succ m ih =>
    intro k fu s hk hf hr ham hd hF
    obtain ⟨f, rfl, hf'⟩ := suc_lt hf
    have h6 := hv.1
    show ∃ s', b_M_layDrawn_L205 _ _ _ = _ ∧ _
    unfold b_M_layDrawn_L205 f_M_layDrawn_L312
    rw [of_36, if_neg (nI_ge (by omega) (by omega)), ix_nI (by omega) (by omega), Option.bind_some, ham k (by omega), of_1, nI_add]
    by_cases hp : 0 < am k
    · rw [if_neg (Int32.not_le.mpr hp)]
      have hh : isH I v (k / 6) = true ∧ isH I v (k % 6) = true := by
        rcases hA k (by omega) with h0 | h1
        · rw [h0] at hp; exact absurd hp (by decide)
        · exact h1
      have l1 := isH_lt hh.1
      have l2 := isH_lt hh.2
      have g1 : hdS v (k / 6) = k / 6 := of_decide_eq_true (Bool.and_eq_true_iff.mp hh.1).2
      have g2 : hdS v (k % 6) = k % 6 := of_decide_eq_true (Bool.and_eq_true_iff.mp hh.2).2
      rw [of_6, div_nI (by omega) (by omega) (by omega), jrem_nI (by omega) (by omega) (by omega)]
      simp (disch := omega) only [Option.bind_some, ix_nI, ham, fm_drawnToX hv hr l1 l2, fm_drawnToY hv hr l1 l2, of_0, of_1, of_2, of_3, of_4, of_5, of_6, of_7, of_8, of_9, of_10, of_11, of_12, of_13, of_14, of_15, of_16, of_18, of_19, of_20, of_24, of_30, of_32, of_33, of_36, of_38, of_39, of_40, of_41, of_42, of_43, of_44, of_45, of_46, of_47, of_48, of_49, of_50, of_51, of_52, of_53, of_54, of_55, of_56, of_57, of_58, of_59, of_60, of_61, of_62, of_63, of_91, of_93, of_97, of_98, of_99, of_100, of_102, of_103, of_104, of_105, of_106, of_107, of_108, of_109, of_110, of_112, of_113, of_114, of_115, of_116, of_119, of_120, of_121, of_124, of_140, of_180, of_240, of_255, of_256, of_520, of_576, of_999, of_1000, of_1380, of_65536, of_252645135, of_858993459, of_1431655765, of_m1000000, of_m999, of_m99, of_m8, of_m2, of_m1, pkS_1, Nat.reduceEqDiff, false_and, if_false, and_true]
      have key : ∀ st : S2, Fr MDw s st → DM (adS v (k / 6) (k % 6) (am k) (dkS v am d k)) st → ∃ s', f_M_layDrawn_L205 f (nI (k + 1)) st = some s' ∧ DM (dkS v am d 36) s' ∧ Fr MD s0 s' := fun st q1 q2 => by
        have F1 : Fr MD s st := q1.mono fun _ _ _ => MD_MDw
        refine ih (k + 1) f st (by omega) hf' (RS_MD hr F1) (fun j hj => (q1.1 _ _ _ rfl).trans (ham j hj)) ?_ (hF.trans F1)
        show DM (if 0 < am k then adS v (k / 6) (k % 6) (am k) (dkS v am d k) else _) st
        rw [if_pos hp]
        exact q2
      refine key _ (((((Fr.refl _ _).pk' _ rfl).pk' _ rfl).pk' _ rfl).pk' _ rfl) (fun j hj => ?_)
      have f1 := hd _ (show k / 6 < 6 by omega)
      have f2 := hd _ (show k % 6 < 6 by omega)
      have f3 := hd j hj
      unfold adS
      rw [g1, g2]
      by_cases hap : apS v (k / 6) (k % 6) = 0
      · simp only [if_pos hap, Int32.add_zero, Int32.sub_zero]
        constructor
        · by_cases c1 : j = k % 6 <;> by_cases c2 : j = k / 6 <;> by_cases c3 : k % 6 = k / 6 <;> simp_all [pkS_v, upd]
        · by_cases c1 : j = k % 6 <;> by_cases c2 : j = k / 6 <;> by_cases c3 : k % 6 = k / 6 <;> simp_all [pkS_v, upd]
      · simp only [if_neg hap]
        constructor
        · by_cases c1 : j = k % 6 <;> by_cases c2 : j = k / 6 <;> by_cases c3 : k % 6 = k / 6 <;> simp_all [pkS_v, upd]
        · by_cases c1 : j = k % 6 <;> by_cases c2 : j = k / 6 <;> by_cases c3 : k % 6 = k / 6 <;> simp_all [pkS_v, upd]
    · rw [if_pos (Int32.not_lt.mp hp)]
      refine ih (k + 1) f s (by omega) hf' hr ham ?_ hF
      show DM (if 0 < am k then _ else dkS v am d k) s
      rw [if_neg hp]
      exact hd
/-- all that draws in a season -/
def drS (I T : Nat) (W : Option WF6) (v w : Nat → Int32) (on : Nat → Bool) (x : XT) (e : Nat) : D2 := if w 2 = nI 1 then dkS v (trS I w v I).1 (dtS W v w T on x e) 36 else dtS W v w T on x e
theorem fm_layDrawn {s : S2} {I T B : Nat} {W : Option WF6} {on : Nat → Bool} {x : XT} {e : Nat} {v w : Nat → Int32} (hv : VS I v) (hX : MX I T B W on x e w s) (hr : RS I T B v s) : ∃ s', f_M_layDrawn s = some s' ∧ DM (drS I T W v w on x e) s' ∧ Fr MD s s' := by
  obtain ⟨s1, a1, a2, a3⟩ := fm_lay hv hX hr
  have hX1 := MX_MD hX a3
  have hr1 := RS_MD hr a3
  rw [a1]
  unfold tailM drS
  rw [hX1.2.2.1.2.2.1 2 (by omega), of_1]
  by_cases h2 : w 2 = nI 1
  · rw [if_pos h2, if_pos h2]
    obtain ⟨s2, b1, b2, b3⟩ := fm_trade (I := I) (T := T) (B := B) (w := w) (v := v) (s := s1) ⟨hX.1, hv, hX1.2.1.1, hX1.2.2.1.2.2.1 0 (by omega), hX1.2.2.1.2.2.2.1, hr1⟩
    have F2 : Fr MD s1 s2 := b3.mono fun _ _ _ => MT_MD
    rw [b1, Option.bind_some, of_0, ← nI_0]
    exact fm_dtr (s0 := s) (W := W) (on := on) (x := x) (e := e) (w := w) hv (trS_AV hv.1 I (Nat.le_refl I)) 36 0 FU s2 (by omega) (lt_FU (by omega)) (RS_MD hr1 F2) b2.1 (fun k hk => ⟨(b3.1 _ _ _ rfl).trans (a2 k hk).1, (b3.1 _ _ _ rfl).trans (a2 k hk).2⟩) (a3.trans F2)
  · rw [if_neg h2, if_neg h2]
    exact ⟨s1, rfl, a2, a3⟩
