/-! ===== forecasts: one, snap, nearest ===== -/
section
variable {I T B R : Nat} {W : Option WF6} {s0 : S2} {w v : Nat → Int32}
def onS (I T B : Nat) (W : Option WF6) (w v : Nat → Int32) (a b k : Nat) : Bool := decide (hdS (seS I T B W w v k) a = hdS (seS I T B W w v k) b)
theorem fc_one {a b n : Nat} (hv : VS I v) (ha : a < I) (hb : b < I) (hn : n < 100) : ∀ (m k fu : Nat) (s : S2), k + m = n → m < fu → CX I T B W onA xN 0 w s → s.1 21 2 = seS I T B W w v k → Fr KS s0 s → ∃ s', f_Forecast_oneBehind_L7 fu (nI a) (nI b) (nI n) (nI k) s = some (s', cdO (ffS (onS I T B W w v a b) (m + 1) k)) ∧ Fr KS s0 s' := by
  intro m
  induction m with
  | zero =>
    intro k fu s hk hf hX hs hF
    obtain ⟨f, rfl, hf'⟩ := suc_of hf
    have h6 := hv.1
    have hvs : VS I (s.1 21 2) := by rw [hs]; exact VS_se hv k
    have hq := VS_se (T := T) (B := B) (W := W) (w := w) hv k
    refine ⟨s, ?_, hF⟩
    show b_Forecast_oneBehind_L7 _ _ _ _ _ _ = _
    unfold b_Forecast_oneBehind_L7
    rw [if_pos (nI_le (by omega) (by omega)), fc_headOf hvs ha, Option.bind_some, fc_headOf hvs hb, Option.bind_some, hs, of_m1]
    have g1 := (hq.2.1 a ha).2.1
    have g2 := (hq.2.1 b hb).2.1
    by_cases c : hdS (seS I T B W w v k) a = hdS (seS I T B W w v k) b
    · rw [if_pos (by rw [c]), ffS_t (show onS I T B W w v a b k = true from decide_eq_true c), show n = k by omega]
      rfl
    · rw [if_neg (fun z => c ((nI_eq (by omega) (by omega)).mp z)), ffS_f (show onS I T B W w v a b k = false from decide_eq_false c)]
      rfl
  | succ m ih =>
    intro k fu s hk hf hX hs hF
    obtain ⟨f, rfl, hf'⟩ := suc_lt hf
    have h6 := hv.1
    have hvs : VS I (s.1 21 2) := by rw [hs]; exact VS_se hv k
    have hq := VS_se (T := T) (B := B) (W := W) (w := w) hv k
    obtain ⟨s1, a1, a2, a3, a4, a5, a6⟩ := fcs_step hv hX hs
    show ∃ s', b_Forecast_oneBehind_L7 _ _ _ _ _ _ = _ ∧ _
    unfold b_Forecast_oneBehind_L7
    rw [if_neg (nI_ge (by omega) (by omega)), fc_headOf hvs ha, Option.bind_some, fc_headOf hvs hb, Option.bind_some, hs, of_1, nI_add, a1, Option.bind_some]
    have g1 := (hq.2.1 a ha).2.1
    have g2 := (hq.2.1 b hb).2.1
    by_cases c : hdS (seS I T B W w v k) a = hdS (seS I T B W w v k) b
    · rw [if_pos (by rw [c]), ffS_t (show onS I T B W w v a b k = true from decide_eq_true c)]
      exact ⟨s, rfl, hF⟩
    · rw [if_neg (fun z => c ((nI_eq (by omega) (by omega)).mp z)), ffS_f (show onS I T B W w v a b k = false from decide_eq_false c)]
      exact ih (k + 1) f s1 (by omega) hf' a2 a3 (hF.trans a6)
theorem MK_hd {k : Nat} {s : S2} (hv : VS I v) (h : MK5 I T B W w v k s) {a : Nat} (ha : a < I) : s.1 82 0 a = nI (hdS (seS I T B W w v k) a) ∧ hdS (seS I T B W w v k) a < I := by
  have hq := VS_se (T := T) (B := B) (W := W) (w := w) hv k
  obtain ⟨g1, g2, -⟩ := hq.2.1 a ha
  exact ⟨by rw [← (h.2.1.1 a ha).2.2.2.1, g1], g2⟩
theorem fm_one {a b n : Nat} (hv : VS I v) (ha : a < I) (hb : b < I) (hn : n < 100) : ∀ (m k fu : Nat) (s : S2), k + m = n → m + 1 < fu → MK5 I T B W w v k s → Fr (MS T) s0 s → ∃ s', f_M_one_L50 fu (nI a) (nI b) (nI n) (-1) (nI (k + 1)) s = f_M_one_L95 (cdO (ffS (onS I T B W w v a b) m (k + 1))) s' ∧ SV I T B v 91 0 s' ∧ Fr (MS T) s0 s' := by
  intro m
  induction m with
  | zero =>
    intro k fu s hk hf h hF
    obtain ⟨f, rfl, hf'⟩ := suc_lt hf
    refine ⟨s, ?_, h.2.2, hF⟩
    show b_M_one_L50 _ _ _ _ _ _ _ = _
    unfold b_M_one_L50
    rw [if_pos (nI_lt (by omega) (by omega))]
    rfl
  | succ m ih =>
    intro k fu s hk hf h hF
    obtain ⟨f, rfl, hf'⟩ := suc_lt hf
    have h6 := hv.1
    obtain ⟨s1, a1, a2, a3, a4, a5⟩ := fms_step hv h
    obtain ⟨e1, l1⟩ := MK_hd hv a2 ha
    obtain ⟨e2, l2⟩ := MK_hd hv a2 hb
    show ∃ s', b_M_one_L50 _ _ _ _ _ _ _ = _ ∧ _
    unfold b_M_one_L50 f_M_one_L87
    rw [if_neg (nI_nlt (by omega) (by omega)), of_m1, if_pos rfl, a1, Option.bind_some, ix_nI (n := 6) (k := a) (by omega) (by omega), Option.bind_some, ix_nI (n := 6) (k := b) (by omega) (by omega), Option.bind_some, e1, e2, of_1, nI_add]
    by_cases c : hdS (seS I T B W w v (k + 1)) a = hdS (seS I T B W w v (k + 1)) b
    · obtain ⟨f', rfl, -⟩ := suc_of (show 0 < f by omega)
      rw [if_pos (by rw [c]), ffS_t (show onS I T B W w v a b (k + 1) = true from decide_eq_true c)]
      refine ⟨s1, ?_, a2.2.2, hF.trans a5⟩
      show b_M_one_L50 _ _ _ _ _ _ _ = _
      unfold b_M_one_L50
      rw [of_m1, if_neg (show ¬ nI (k + 1) = -1 from cdO_nm1 (k + 1) (by omega))]
      split <;> rfl
    · rw [if_neg (fun z => c ((nI_eq (by omega) (by omega)).mp z)), ffS_f (show onS I T B W w v a b (k + 1) = false from decide_eq_false c)]
      exact ih (k + 1) f s1 (by omega) (by omega) a2 (hF.trans a5)
theorem two_keep {s s3 : S2} {W' : Option WF6} (h : INV I T B R W s) (h3 : INV I T B R W' s3) (x y : Int32) : g_M_areTwo x y s3 = g_D_areTwo x y s := by
  rw [(v_areTwo h3 x y).1]
  unfold g_D_areTwo
  rw [(v_isle h3 x).1, (v_isle h3 y).1, (v_isle h x).1, (v_isle h y).1]
theorem q_one {s : S2} (h : INV I T B R W s) (x y z : Int32) : ∃ s1 r s2, f_D_one x y z s = some (s1, r) ∧ f_M_one x y z s1 = some (s2, r) ∧ INV I T B R W s2 := by
  have h6 := h.1.2.2.1.1.1
  unfold f_D_one
  rw [g_D_isWithin_eq, of_1, of_60]
  cases c1 : g_D_areTwo x y s with
  | false => exact ⟨s, _, s, by rw [ifF], by unfold f_M_one; rw [(v_areTwo h x y).1, c1, ifF], h⟩
  | true =>
    cases c2 : inS z (nI 1) (nI 60) with
    | false => exact ⟨s, _, s, by rw [ifT, ifF], by unfold f_M_one; rw [(v_areTwo h x y).1, c1, ifT, g_M_in_eq, of_1, of_60, c2, ifF], h⟩
    | true =>
      obtain ⟨a, b, a1, b1, -, rfl, rfl⟩ := (v_areTwo h x y).2 c1
      obtain ⟨n, n1, n2, rfl⟩ := inS_lit c2 (by omega) (by omega)
      obtain ⟨s1, p1, p2, p3, p4, p5⟩ := fc_begin h
      obtain ⟨s3, q1, q2⟩ := fc_one (s0 := s) (v := s1.1 21 2) (n := n) p3 a1 b1 (by omega) n 0 FU s1 (by omega) (lt_FU (by omega)) p2 rfl p5
      have h3 := INV_KS h q2
      have e14 : s3.1 14 0 = s.1 14 0 := q2.arr fun _ => rfl
      have e21 : s3.1 21 0 = s.1 21 0 := q2.arr fun _ => rfl
      obtain ⟨t1, u1, u2, u3⟩ := fm_begin (v := s1.1 21 2) h3 (by rw [e21]; exact p4)
      rw [e14] at u2
      obtain ⟨e1, l1⟩ := MK_hd p3 u2 a1
      obtain ⟨e2, l2⟩ := MK_hd p3 u2 b1
      have key : ∃ t2, (if nI (hdS (seS I T B W (s.1 14 0) (s1.1 21 2) 0) a) = nI (hdS (seS I T B W (s.1 14 0) (s1.1 21 2) 0) b) then f_M_one_L45 (nI a) (nI b) (nI n) (nI 0) t1 else f_M_one_L45 (nI a) (nI b) (nI n) (-1) t1) = f_M_one_L95 (cdO (ffS (onS I T B W (s.1 14 0) (s1.1 21 2) a b) (n + 1) 0)) t2 ∧ SV I T B (s1.1 21 2) 91 0 t2 ∧ Fr (MS T) s3 t2 := by
        unfold f_M_one_L45
        rw [of_1]
        by_cases c : hdS (seS I T B W (s.1 14 0) (s1.1 21 2) 0) a = hdS (seS I T B W (s.1 14 0) (s1.1 21 2) 0) b
        · rw [if_pos (by rw [c]), ffS_t (show onS I T B W (s.1 14 0) (s1.1 21 2) a b 0 = true from decide_eq_true c)]
          obtain ⟨f, ef, -⟩ := fu_succ
          refine ⟨t1, ?_, u2.2.2, u3⟩
          rw [ef]
          show b_M_one_L50 _ _ _ _ _ _ _ = _
          unfold b_M_one_L50
          rw [of_m1, if_neg (show ¬ nI 0 = -1 by decide)]
          split <;> rfl
        · rw [if_neg (fun z => c ((nI_eq (by omega) (by omega)).mp z)), ffS_f (show onS I T B W (s.1 14 0) (s1.1 21 2) a b 0 = false from decide_eq_false c)]
          exact fm_one (s0 := s3) p3 a1 b1 (show n < 100 by omega) n 0 FU t1 (by omega) (lt_FU (by omega)) u2 u3
      obtain ⟨t2, w1, w2, w3⟩ := key
      obtain ⟨t3, x1, x2⟩ := fm_end h3 (by rw [e21]; exact p4) w3 w2
      refine ⟨s3, cdO (ffS (onS I T B W (s.1 14 0) (s1.1 21 2) a b) (n + 1) 0), t3, ?_, ?_, x2⟩
      · rw [ifT, ifT]
        unfold f_Forecast_oneBehind
        rw [p1, Option.bind_some, show Int32.ofInt 0 = nI 0 from of_0, q1]
        rfl
      · unfold f_M_one
        rw [two_keep h h3, c1, ifT, g_M_in_eq, of_1, of_60, c2, ifT, u1, Option.bind_some, ix_nI (n := 6) (k := a) (by omega) (by omega), Option.bind_some, ix_nI (n := 6) (k := b) (by omega) (by omega), Option.bind_some, e1, e2, show Int32.ofInt 0 = nI 0 from of_0, of_m1, w1]
        unfold f_M_one_L95
        rw [x1]
        rfl
/-- a bridge has snapped -/
def spS (I T B : Nat) (W : Option WF6) (w v : Nat → Int32) (b k : Nat) : Bool := !decide (seS I T B W w v k (38 + b) = nI 1)
theorem fc_snap {b : Nat} (hv : VS I v) (hb : b < 4) : ∀ (m k fu : Nat) (s : S2), k + m = 60 → m < fu → CX I T B W onA xN 0 w s → s.1 21 2 = seS I T B W w v k → Fr KS s0 s → ∃ s', f_Forecast_snappedBehind_L6 fu (nI b) (nI k) s = some (s', cdO (ffS (spS I T B W w v b) (m + 1) k)) ∧ Fr KS s0 s' := by
  intro m
  induction m with
  | zero =>
    intro k fu s hk hf hX hs hF
    obtain ⟨f, rfl, hf'⟩ := suc_of hf
    have e : k = 60 := by omega
    subst e
    refine ⟨s, ?_, hF⟩
    show b_Forecast_snappedBehind_L6 _ _ _ _ = _
    unfold b_Forecast_snappedBehind_L6
    rw [of_60, if_pos (nI_le (by omega) (by omega)), fc_stands hb, Option.bind_some, hs, of_m1]
    cases c : decide (seS I T B W w v 60 (38 + b) = nI 1) with
    | true =>
      rw [ifT, ffS_f (show spS I T B W w v b 60 = false by unfold spS; rw [c]; rfl)]
      rfl
    | false =>
      rw [ifF, ffS_t (show spS I T B W w v b 60 = true by unfold spS; rw [c]; rfl)]
      rfl
  | succ m ih =>
    intro k fu s hk hf hX hs hF
    obtain ⟨f, rfl, hf'⟩ := suc_lt hf
    obtain ⟨s1, a1, a2, a3, a4, a5, a6⟩ := fcs_step hv hX hs
    show ∃ s', b_Forecast_snappedBehind_L6 _ _ _ _ = _ ∧ _
    unfold b_Forecast_snappedBehind_L6
    rw [of_60, if_neg (nI_ge (by omega) (by omega)), fc_stands hb, Option.bind_some, hs, of_1, nI_add, a1, Option.bind_some]
    cases c : decide (seS I T B W w v k (38 + b) = nI 1) with
    | true =>
      rw [ifT, ffS_f (show spS I T B W w v b k = false by unfold spS; rw [c]; rfl)]
      exact ih (k + 1) f s1 (by omega) hf' a2 a3 (hF.trans a6)
    | false =>
      rw [ifF, ffS_t (show spS I T B W w v b k = true by unfold spS; rw [c]; rfl)]
      exact ⟨s, rfl, hF⟩
theorem MK_st {k : Nat} {s : S2} (h : MK5 I T B W w v k s) {b : Nat} (hb : b < B) (hb4 : b < 4) : g_M_has (s.1 60 0 36) (nI b) s = decide (seS I T B W w v k (38 + b) = nI 1) := by
  obtain ⟨m, m1, m2, m3⟩ := h.2.1.2.2.1
  rw [m2, g_M_has_nI (by omega) (by omega)]
  rcases m3 b hb with ⟨q1, q2⟩ | ⟨q1, q2⟩
  · rw [q1, q2]; rfl
  · rw [q1, q2]; rfl
theorem fm_snap {b : Nat} (hv : VS I v) (hb : b < B) (hb4 : b < 4) : ∀ (m k fu : Nat) (s : S2), k + m = 60 → m + 1 < fu → MK5 I T B W w v k s → Fr (MS T) s0 s → ∃ s', f_M_snap_L39 fu (nI b) (-1) (nI (k + 1)) s = f_M_snap_L77 (cdO (ffS (spS I T B W w v b) m (k + 1))) s' ∧ SV I T B v 91 0 s' ∧ Fr (MS T) s0 s' := by
  intro m
  induction m with
  | zero =>
    intro k fu s hk hf h hF
    obtain ⟨f, rfl, hf'⟩ := suc_lt hf
    refine ⟨s, ?_, h.2.2, hF⟩
    show b_M_snap_L39 _ _ _ _ _ = _
    unfold b_M_snap_L39
    rw [of_60, if_pos (nI_lt (by omega) (by omega))]
    rfl
  | succ m ih =>
    intro k fu s hk hf h hF
    obtain ⟨f, rfl, hf'⟩ := suc_lt hf
    obtain ⟨s1, a1, a2, a3, a4, a5⟩ := fms_step hv h
    show ∃ s', b_M_snap_L39 _ _ _ _ _ = _ ∧ _
    unfold b_M_snap_L39 f_M_snap_L70
    rw [of_60, if_neg (nI_nlt (by omega) (by omega)), of_m1, if_pos rfl, a1, Option.bind_some, MK_st a2 hb hb4, of_1, nI_add]
    cases c : decide (seS I T B W w v (k + 1) (38 + b) = nI 1) with
    | true =>
      rw [ifT, ffS_f (show spS I T B W w v b (k + 1) = false by unfold spS; rw [c]; rfl)]
      exact ih (k + 1) f s1 (by omega) (by omega) a2 (hF.trans a5)
    | false =>
      obtain ⟨f', rfl, -⟩ := suc_of (show 0 < f by omega)
      rw [ifF, ffS_t (show spS I T B W w v b (k + 1) = true by unfold spS; rw [c]; rfl)]
      refine ⟨s1, ?_, a2.2.2, hF.trans a5⟩
      show b_M_snap_L39 _ _ _ _ _ = _
      unfold b_M_snap_L39
      rw [of_m1, if_neg (show ¬ nI (k + 1) = -1 from cdO_nm1 (k + 1) (by omega))]
      split <;> rfl
theorem q_snap {s : S2} (h : INV I T B R W s) (x : Int32) : ∃ s1 r s2, f_D_snap x s = some (s1, r) ∧ f_M_snap x s1 = some (s2, r) ∧ INV I T B R W s2 := by
  have h4 := h.1.2.2.1.1.2.2
  unfold f_D_snap
  rw [(v_bridge h x).1]
  cases c1 : inS x 0 (nI B - nI 1) with
  | false => exact ⟨s, _, s, by rw [ifF], by unfold f_M_snap; rw [(v_bridge h x).2, c1, ifF], h⟩
  | true =>
    obtain ⟨b, b1, rfl⟩ := inS_nI c1 (by omega)
    obtain ⟨s1, p1, p2, p3, p4, p5⟩ := fc_begin h
    obtain ⟨s3, q1, q2⟩ := fc_snap (s0 := s) (v := s1.1 21 2) (b := b) p3 (by omega) 60 0 FU s1 (by omega) (lt_FU (by omega)) p2 rfl p5
    have h3 := INV_KS h q2
    have e14 : s3.1 14 0 = s.1 14 0 := q2.arr fun _ => rfl
    have e21 : s3.1 21 0 = s.1 21 0 := q2.arr fun _ => rfl
    obtain ⟨t1, u1, u2, u3⟩ := fm_begin (v := s1.1 21 2) h3 (by rw [e21]; exact p4)
    rw [e14] at u2
    have key : ∃ t2, (if bI (g_M_has (t1.1 60 0 36) (nI b) t1) = 0 then f_M_snap_L36 (nI b) (nI 0) t1 else f_M_snap_L36 (nI b) (-1) t1) = f_M_snap_L77 (cdO (ffS (spS I T B W (s.1 14 0) (s1.1 21 2) b) 61 0)) t2 ∧ SV I T B (s1.1 21 2) 91 0 t2 ∧ Fr (MS T) s3 t2 := by
      unfold f_M_snap_L36
      rw [of_1, MK_st u2 b1 (by omega)]
      cases c : decide (seS I T B W (s.1 14 0) (s1.1 21 2) 0 (38 + b) = nI 1) with
      | true =>
        rw [ifT, ffS_f (show spS I T B W (s.1 14 0) (s1.1 21 2) b 0 = false by unfold spS; rw [c]; rfl)]
        exact fm_snap (s0 := s3) p3 b1 (by omega) 60 0 FU t1 (by omega) (lt_FU (by omega)) u2 u3
      | false =>
        rw [ifF, ffS_t (show spS I T B W (s.1 14 0) (s1.1 21 2) b 0 = true by unfold spS; rw [c]; rfl)]
        obtain ⟨f, ef, -⟩ := fu_succ
        refine ⟨t1, ?_, u2.2.2, u3⟩
        rw [ef]
        show b_M_snap_L39 _ _ _ _ _ = _
        unfold b_M_snap_L39
        rw [of_m1, if_neg (show ¬ nI 0 = -1 by decide)]
        split <;> rfl
    obtain ⟨t2, w1, w2, w3⟩ := key
    obtain ⟨t3, x1, x2⟩ := fm_end h3 (by rw [e21]; exact p4) w3 w2
    refine ⟨s3, cdO (ffS (spS I T B W (s.1 14 0) (s1.1 21 2) b) 61 0), t3, ?_, ?_, x2⟩
    · rw [ifT]
      unfold f_Forecast_snappedBehind
      rw [p1, Option.bind_some, show Int32.ofInt 0 = nI 0 from of_0, q1]
      rfl
    · unfold f_M_snap
      rw [(v_bridge h3 (nI b)).2, c1, ifT, u1, Option.bind_some, show Int32.ofInt 0 = nI 0 from of_0, of_m1, w1]
      unfold f_M_snap_L77
      rw [x1]
      rfl
end
