/-! ===== undercut ===== -/
section
variable {I T B R : Nat} {W : Option WF6} {s s0 : S2} {w v : Nat → Int32}
theorem upd_upd (f : Nat → Int32) (k : Nat) (x y : Int32) : upd (upd f k x) k y = upd f k y := by
  funext j
  unfold upd
  split <;> rfl
/-- enough is bought at so much less -/
def ucP (I : Nat) (w v : Nat → Int32) (a b P c : Nat) : Bool := decide (0 < (trS I w (upd v (43 + a) (nI (P - c))) I).1 (b * 6 + a))
theorem VS_pr {a : Nat} {x : Int32} (hv : VS I v) : VS I (upd v (43 + a) x) := VS_of hv fun j _ h2 => upd_ne _ _ (by omega)
theorem KT0_KS {c i k : Nat} (h : KS c i k = false) : KT 0 c i k = false := by
  unfold KS at h
  unfold KT
  simp only [Bool.or_eq_false_iff, Bool.and_eq_false_iff] at h ⊢
  exact Or.inl h.2.1
theorem fc_cutL {a b P : Nat} (hv : VS I v) (ha : a < I) (hb : b < I) (hP : P ≤ 99) : ∀ (m c fu : Nat) (s : S2), c + m = P + 1 → m < fu → TC I T B w s → (∀ x, upd (s.1 21 2) (43 + a) x = upd v (43 + a) x) → Fr KS s0 s → ∃ s', f_Forecast_leastCut_L24 0 fu (nI a) (nI b) (nI P) (nI c) s = some (s', cdO (ffS (ucP I w v a b P) m c)) ∧ Fr KS s0 s' := by
  have h6 := hv.1
  intro m
  induction m with
  | zero =>
    intro c fu s hc hf hX hs hF
    obtain ⟨f, rfl, hf'⟩ := suc_of hf
    refine ⟨s, ?_, hF⟩
    show b_Forecast_leastCut_L24 _ _ _ _ _ _ _ = _
    unfold b_Forecast_leastCut_L24
    rw [if_pos (nI_lt (by omega) (by omega)), of_m1]
    rfl
  | succ m ih =>
    intro c fu s hc hf hX hs hF
    obtain ⟨f, rfl, hf'⟩ := suc_lt hf
    obtain ⟨t, ht⟩ : ∃ t, pkS s 21 2 (43 + a) (nI (P - c)) = t := ⟨_, rfl⟩
    have e21 : t.1 21 2 = upd v (43 + a) (nI (P - c)) := by rw [← ht, pkS_same, hs]
    have Ft : Fr (fun c i _ => c == 21 && i == 2) s t := by rw [← ht]; exact (Fr.refl _ s).pk' _ rfl
    have hXt : TC I T B w t := by
      unfold TC CN at hX ⊢
      rw [show t.1 14 0 = s.1 14 0 from Ft.arr fun _ => rfl, show t.1 15 0 = s.1 15 0 from Ft.arr fun _ => rfl]
      exact hX
    obtain ⟨s1, a1, a2, a3⟩ := fc_trade (r := 0) (i := 2) (s := t) (by rw [e21]; exact VS_pr hv) hXt
    rw [e21] at a2
    have hF1 : Fr KS s0 s1 := (hF.trans (Ft.mono fun c i k hk => by
      cases q : (c == 21 && i == 2) with
      | false => rfl
      | true =>
        obtain ⟨q1, q2⟩ := Bool.and_eq_true_iff.mp q
        rw [eq_of_beq q1, eq_of_beq q2] at hk
        unfold KS at hk
        simp at hk)).trans (a3.mono fun _ _ _ => KT0_KS)
    have e21' : s1.1 21 2 = upd v (43 + a) (nI (P - c)) := (a3.arr fun _ => KT_ne (by omega)).trans e21
    show ∃ s', b_Forecast_leastCut_L24 _ _ _ _ _ _ _ = _ ∧ _
    unfold b_Forecast_leastCut_L24 f_State_tellPrice
    rw [if_neg (nI_nlt (by omega) (by omega)), of_43, nI_add, ix_nI (n := 49) (k := 43 + a) (by omega) (by omega), Option.bind_some, Option.bind_some, sub_nI (by omega), Option.bind_some, ht, a1, Option.bind_some, fc_bought (by omega) (by omega), Option.bind_some, a2.1 _ (by omega), of_1, nI_add]
    cases q : ucP I w v a b P c with
    | true =>
      rw [if_neg (Int32.not_le.mpr (of_decide_eq_true q)), ffS_t q]
      exact ⟨s1, rfl, hF1⟩
    | false =>
      rw [if_pos (Int32.not_lt.mp (of_decide_eq_false q)), ffS_f q]
      exact ih (c + 1) f s1 (by omega) hf' (TC_KT hXt a3) (fun x => by rw [e21', upd_upd]) hF1
theorem RS_price {a : Nat} {x : Int32} (h6 : I ≤ 6) (h8 : T ≤ 8) (h4 : B ≤ 4) (hr : RS I T B v s) : RS I T B (upd v (43 + a) x) (pkS s 76 0 (8 * a + 7) x) := by
  obtain ⟨r1, r2, ⟨m, m1, m2, m3⟩, r4⟩ := hr
  refine ⟨fun j hj => ?_, fun u hu => ?_, ⟨m, m1, ?_, fun j hj => ?_⟩, ?_⟩
  · obtain ⟨g1, g2, g3, g4, g5, g6⟩ := r1 j hj
    simp only [pkS_v, Nat.reduceEqDiff, false_and, if_false, true_and]
    refine ⟨?_, ?_, ?_, ?_, ?_, ?_⟩
    · rw [upd_ne _ _ (by omega)]; exact g1
    · rw [upd_ne _ _ (by omega)]; exact g2
    · rw [upd_ne _ _ (by omega)]; exact g3
    · rw [upd_ne _ _ (by omega)]; exact g4
    · rw [upd_ne _ _ (by omega)]; exact g5
    · by_cases e : j = a
      · rw [e, upd_eq, if_pos rfl]
      · rw [upd_ne _ _ (by omega), if_neg (by omega)]; exact g6
  · rw [pkS_v, if_neg (by omega), upd_ne _ _ (by omega)]
    exact r2 u hu
  · rw [pkS_v, if_neg (by omega)]; exact m2
  · rw [upd_ne _ _ (by omega)]; exact m3 j hj
  · rw [upd_ne _ _ (by omega), pkS_v, if_neg (by omega)]; exact r4
theorem MW_price {a : Nat} {x y : Int32} (h8 : T ≤ 8) (h4 : B ≤ 4) (hv : VS I v) (h : MW I T B w (upd v (43 + a) y) s) : MW I T B w (upd v (43 + a) x) (pkS s 76 0 (8 * a + 7) x) := by
  obtain ⟨g1, g2, g3, g4, g5, g6⟩ := h
  refine ⟨g1, VS_pr hv, ?_, ?_, fun j hj k h1 h2 => ?_, ?_⟩
  · rw [pkS_v, if_neg (by omega)]; exact g3
  · rw [pkS_v, if_neg (by omega)]; exact g4
  · rw [pkS_v, if_neg (by omega)]; exact g5 j hj k h1 h2
  · have := RS_price (a := a) (x := x) hv.1 h8 h4 g6
    rw [upd_upd] at this
    exact this
def pxS (P c : Nat) : Int32 := if c ≤ P then nI (P - c) else -1
theorem pxS_s {P c : Nat} (h : c ≤ P) : nI (P - c) + Int32.ofInt (-1) = pxS P (c + 1) := by
  have e : Int32.ofInt (-1) = -(nI 1) := by decide
  unfold pxS
  rw [e, ← Int32.sub_eq_add_neg]
  by_cases d : c + 1 ≤ P
  · rw [if_pos d, sub_nI (by omega), show P - c - 1 = P - (c + 1) by omega]
  · rw [if_neg d, show P - c = 0 by omega]
    decide
def KU (c i k : Nat) : Bool := MT c i k || (c == 76 && Nat.beq (k % 8) 7)
theorem KU_76 (a : Nat) : KU 76 0 (8 * a + 7) = true := by
  unfold KU
  rw [show (8 * a + 7) % 8 = 7 by omega]
  rfl
theorem KU_MS {c i k : Nat} (h : MS T c i k = false) : KU c i k = false := by
  unfold KU MT
  cases q : (c == 84 || (c == 85 || c == 86)) with
  | true =>
    simp only [Bool.or_eq_true, beq_iff_eq] at q
    rcases q with rfl | rfl | rfl <;> · unfold MS at h; simp at h
  | false =>
    have := KR_MS h
    unfold KR at this
    simp only [Bool.or_eq_false_iff] at this
    rw [this.2.2.2.2.2.1]
    rfl
theorem fm_cutL {a b P : Nat} (h8 : T ≤ 8) (h4 : B ≤ 4) (hv : VS I v) (ha : a < I) (hb : b < I) (hP : P ≤ 99) : ∀ (m c fu : Nat) (y : Int32) (s : S2), c + m = P + 1 → m + 1 < fu → MW I T B w (upd v (43 + a) y) s → Fr KU s0 s → ∃ s' y', f_M_undercut_L25 fu (nI a) (nI b) (nI P) (-1) (pxS P c) s = f_M_undercut_L84 (nI a) (nI P) (cdO (ffS (ucP I w v a b P) m c)) s' ∧ MW I T B w (upd v (43 + a) y') s' ∧ Fr KU s0 s' := by
  have h6 := hv.1
  intro m
  induction m with
  | zero =>
    intro c fu y s hc hf hX hF
    obtain ⟨f, rfl, hf'⟩ := suc_of (show 0 < fu by omega)
    refine ⟨s, y, ?_, hX, hF⟩
    show b_M_undercut_L25 _ _ _ _ _ _ _ = _
    unfold b_M_undercut_L25 pxS
    rw [if_neg (show ¬ c ≤ P by omega), if_pos (by decide)]
    rfl
  | succ m ih =>
    intro c fu y s hc hf hX hF
    obtain ⟨f, rfl, hf'⟩ := suc_lt hf
    obtain ⟨t, ht⟩ : ∃ t, pkS s 76 0 (8 * a + 7) (nI (P - c)) = t := ⟨_, rfl⟩
    have hXt : MW I T B w (upd v (43 + a) (nI (P - c))) t := by rw [← ht]; exact MW_price h8 h4 hv hX
    obtain ⟨s1, a1, a2, a3⟩ := fm_trade hXt
    have hF1 : Fr KU s0 s1 := (by rw [← ht]; exact hF.pk' _ (KU_76 a) : Fr KU s0 t).trans (a3.mono fun _ _ _ hk => (Bool.or_eq_false_iff.mp hk).1)
    have hX1 := MW_MT hXt a3
    show ∃ s' y', b_M_undercut_L25 _ _ _ _ _ _ _ = _ ∧ _
    unfold b_M_undercut_L25 f_M_undercut_L76
    rw [show pxS P c = nI (P - c) from if_pos (by omega), if_neg (nI_pos (by omega)), of_m1, if_pos rfl, of_8, mul_nI, of_7, nI_add, ix_nI (n := 48) (k := 8 * a + 7) (by omega) (by omega), Option.bind_some, Option.bind_some, ht, a1, Option.bind_some, of_6, mul_nI, nI_add, ix_nI (n := 36) (k := 6 * b + a) (by omega) (by omega), Option.bind_some, show 6 * b + a = b * 6 + a by omega, a2.1 _ (by omega), show (-1 : Int32) = Int32.ofInt (-1) from of_m1.symm, pxS_s (by omega), sub_nI (by omega), of_m1]
    cases q : ucP I w v a b P c with
    | true =>
      rw [if_neg (Int32.not_le.mpr (of_decide_eq_true q)), ffS_t q, show P - (P - c) = c by omega]
      refine ⟨s1, _, ?_, hX1, hF1⟩
      obtain ⟨f', rfl, -⟩ := suc_of (show 0 < f by omega)
      show b_M_undercut_L25 _ _ _ _ _ _ _ = f_M_undercut_L84 (nI a) (nI P) (nI c) s1
      unfold b_M_undercut_L25
      rw [of_m1, if_neg (show ¬ nI c = -1 from cdO_nm1 c (by omega))]
      split <;> rfl
    | false =>
      rw [if_pos (Int32.not_lt.mp (of_decide_eq_false q)), ffS_f q]
      exact ih (c + 1) f _ s1 (by omega) (by omega) hX1 hF1
theorem q_undercut (h : INV I T B R W s) (x y : Int32) : ∃ s1 r s2, f_D_undercut x y s = some (s1, r) ∧ f_M_undercut x y s1 = some (s2, r) ∧ INV I T B R W s2 := by
  obtain ⟨h6, h8, h4⟩ := h.1.2.2.1.1
  unfold f_D_undercut
  cases c : g_D_areTwo x y s with
  | false => exact ⟨s, _, s, by rw [ifF], by unfold f_M_undercut; rw [areTwo_tr h h, c, ifF], h⟩
  | true =>
    obtain ⟨a, b, a1, b1, -, ex, ey⟩ := (v_areTwo h x y).2 c
    obtain ⟨P, hP, eP⟩ := h.1.1.2 a a1
    obtain ⟨t, ht⟩ : ∃ t, cpS s 21 2 (s.1 21 0) 0 0 49 = t := ⟨_, rfl⟩
    have F1 : Fr KS s t := by rw [← ht]; exact Fr_cp (fun _ => rfl) s _ _ _ _
    have hA : AG (s.1 21 0) (t.1 21 2) := by rw [← ht]; exact cpS_ag s 2 0
    have hv : VS I (t.1 21 2) := VS_ag h.1.2.2.2.2.1 hA
    have e14 : t.1 14 0 = s.1 14 0 := F1.arr fun _ => rfl
    have ht' := INV_KS h F1
    obtain ⟨s1, p1, p2⟩ := fc_cutL (I := I) (T := T) (B := B) (s0 := s) (w := s.1 14 0) (v := t.1 21 2) hv a1 b1 hP (P + 1) 0 FU t (by omega) (lt_FU (by omega)) ⟨h.1.2.2.1, e14, ht'.1.2.2.2.1⟩ (fun x => rfl) F1
    have h1 := INV_KS h p2
    have e14' : s1.1 14 0 = s.1 14 0 := p2.arr fun _ => rfl
    have e21' : s1.1 21 0 = s.1 21 0 := p2.arr fun _ => rfl
    have hr : RS I T B (t.1 21 2) s1 := RS_ag h6 h8 h4 h1.1.2.2.2.2.2.2.2.2 (by rw [e21']; exact hA)
    have hMR := h1.1.2.2.2.2.2.2.1
    rw [e14'] at hMR
    have hM : MW I T B (s.1 14 0) (upd (t.1 21 2) (43 + a) (t.1 21 2 (43 + a))) s1 := by
      rw [upd_self]
      exact ⟨h.1.2.2.1, hv, h1.1.2.2.2.2.2.1.1, hMR.2.2.1 0 (by omega), hMR.2.2.2.1, hr⟩
    obtain ⟨s2, y', q1, q2, q3⟩ := fm_cutL (s0 := s1) (b := b) (P := P) h8 h4 hv a1 b1 hP (P + 1) 0 FU _ s1 (by omega) (lt_FU (by omega)) hM (Fr.refl _ s1)
    have eP1 : s1.1 76 0 (8 * a + 7) = nI P := by
      rw [← (h1.1.2.2.2.2.2.2.2.2.1 a a1).2.2.2.2.2, e21', eP]
    have q4 := MW_price (x := nI P) h8 h4 hv q2
    have eu : upd (t.1 21 2) (43 + a) (nI P) = t.1 21 2 := by
      have : t.1 21 2 (43 + a) = nI P := (hA (43 + a) (by omega)).trans eP
      rw [← this, upd_self]
    rw [eu] at q4
    refine ⟨s1, cdO (ffS (ucP I (s.1 14 0) (t.1 21 2) a b P) (P + 1) 0), pkS s2 76 0 (8 * a + 7) (nI P), ?_, ?_, INV_MS h1 ((q3.pk' _ (KU_76 a)).mono fun _ _ _ => KU_MS) (by rw [e21']; exact RS_ag h6 h8 h4 q4.2.2.2.2.2 (AG_symm hA)) ?_ ?_⟩
    · have ep : f_State_priceOf 0 (nI a) t = some (nI P) := by
        rw [fc_priceOf (by omega), show t.1 21 0 = s.1 21 0 from F1.arr fun _ => rfl, eP]
      unfold f_Forecast_leastCut
      rw [ifT, ex, ey, fc_copy, ht, Option.bind_some, ep, Option.bind_some, show Int32.ofInt 0 = nI 0 from of_0, p1]
      rfl
    · unfold f_M_undercut
      rw [areTwo_tr h h1, c, ifT, ex, ey, of_7, fm_of (by omega) (by omega), Option.bind_some, eP1, of_m1]
      rw [show pxS P 0 = nI P from if_pos (by omega)] at q1
      rw [q1]
      unfold f_M_undercut_L84
      rw [of_8, mul_nI, of_7, nI_add, ix_nI (n := 48) (k := 8 * a + 7) (by omega) (by omega), Option.bind_some, Option.bind_some]
    · rw [pkS_v, if_neg (by omega), q3.1 _ _ _ rfl]
      exact h1.1.2.2.2.2.2.2.2.1.1
    · rw [pkS_v, if_neg (by omega), q3.1 _ _ _ rfl]
      exact h1.1.2.2.2.2.2.2.2.1.2
end
