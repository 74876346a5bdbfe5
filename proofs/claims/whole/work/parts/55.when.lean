/-! ===== forecasts: when ===== -/
section
variable {I T B R : Nat} {W : Option WF6} {s0 : S2} {w v : Nat → Int32} {d : Int32}
def whS (I T B : Nat) (W : Option WF6) (w v : Nat → Int32) (a : Nat) (d : Int32) (k : Nat) : Bool := alS I (seS I T B W w v k) (hdS (seS I T B W w v k) a) d I 0
theorem fc_when {a n : Nat} (hv : VS I v) (ha : a < I) (hn : n < 100) : ∀ (m k fu : Nat) (s : S2), k + m = n → m < fu → CX I T B W onA xN 0 w s → s.1 21 2 = seS I T B W w v k → Fr KS s0 s → ∃ s', f_Forecast_seenByAllBehind_L7 fu (nI a) d (nI n) (nI k) s = some (s', cdO (ffS (whS I T B W w v a d) (m + 1) k)) ∧ Fr KS s0 s' := by
  intro m
  induction m with
  | zero =>
    intro k fu s hk hf hX hs hF
    obtain ⟨f, rfl, hf'⟩ := suc_of hf
    have h6 := hv.1
    have hvs : VS I (s.1 21 2) := by rw [hs]; exact VS_se hv k
    have g2 := (hvs.2.1 a ha).2.1
    refine ⟨s, ?_, hF⟩
    show b_Forecast_seenByAllBehind_L7 _ _ _ _ _ _ = _
    unfold b_Forecast_seenByAllBehind_L7
    rw [if_pos (nI_le (by omega) (by omega)), fc_headOf hvs ha, Option.bind_some, fc_all hvs g2, Option.bind_some, hs, of_m1]
    cases c : whS I T B W w v a d k with
    | true =>
      rw [show alS I (seS I T B W w v k) (hdS (seS I T B W w v k) a) d I 0 = true from c, ifT, ffS_t c, show n = k by omega]
      rfl
    | false =>
      rw [show alS I (seS I T B W w v k) (hdS (seS I T B W w v k) a) d I 0 = false from c, ifF, ffS_f c]
      rfl
  | succ m ih =>
    intro k fu s hk hf hX hs hF
    obtain ⟨f, rfl, hf'⟩ := suc_lt hf
    have h6 := hv.1
    have hvs : VS I (s.1 21 2) := by rw [hs]; exact VS_se hv k
    have g2 := (hvs.2.1 a ha).2.1
    obtain ⟨s1, a1, a2, a3, a4, a5, a6⟩ := fcs_step hv hX hs
    show ∃ s', b_Forecast_seenByAllBehind_L7 _ _ _ _ _ _ = _ ∧ _
    unfold b_Forecast_seenByAllBehind_L7
    rw [if_neg (nI_ge (by omega) (by omega)), fc_headOf hvs ha, Option.bind_some, fc_all hvs g2, Option.bind_some, hs, of_1, nI_add, a1, Option.bind_some]
    cases c : whS I T B W w v a d k with
    | true =>
      rw [show alS I (seS I T B W w v k) (hdS (seS I T B W w v k) a) d I 0 = true from c, ifT, ffS_t c]
      exact ⟨s, rfl, hF⟩
    | false =>
      rw [show alS I (seS I T B W w v k) (hdS (seS I T B W w v k) a) d I 0 = false from c, ifF, ffS_f c]
      exact ih (k + 1) f s1 (by omega) hf' a2 a3 (hF.trans a6)
theorem MK_has {k a : Nat} {s : S2} (hv : VS I v) (h : MK5 I T B W w v k s) (ha : a < I) : f_M_fromAll d s = some (nI (bsS (evS I (seS I T B W w v k) d) I)) ∧ g_M_has (nI (bsS (evS I (seS I T B W w v k) d) I)) (s.1 82 0 a) s = whS I T B W w v a d k := by
  have hq := VS_se (T := T) (B := B) (W := W) (w := w) hv k
  have h6 := hv.1
  obtain ⟨e1, l1⟩ := MK_hd hv h ha
  refine ⟨fm_every h.1.2.1.1 hq h.2.1, ?_⟩
  have := bsS_64 (evS I (seS I T B W w v k) d) h6
  rw [e1, g_M_has_nI (by omega) (by omega), bsS_bit, decide_eq_true l1, Bool.true_and]
  unfold evS isH
  rw [decide_eq_true l1, decide_eq_true (hq.2.1 a ha).2.2]
  rfl
theorem fm_when {a n : Nat} (hv : VS I v) (ha : a < I) (hn : n < 100) : ∀ (m k fu : Nat) (s : S2), k + m = n → m + 1 < fu → MK5 I T B W w v k s → Fr (MS T) s0 s → ∃ s', f_M_when_L62 fu (nI a) d (nI n) (-1) (nI (k + 1)) s = f_M_when_L109 (cdO (ffS (whS I T B W w v a d) m (k + 1))) s' ∧ SV I T B v 91 0 s' ∧ Fr (MS T) s0 s' := by
  intro m
  induction m with
  | zero =>
    intro k fu s hk hf h hF
    obtain ⟨f, rfl, hf'⟩ := suc_lt hf
    refine ⟨s, ?_, h.2.2, hF⟩
    show b_M_when_L62 _ _ _ _ _ _ _ = _
    unfold b_M_when_L62
    rw [if_pos (nI_lt (by omega) (by omega))]
    rfl
  | succ m ih =>
    intro k fu s hk hf h hF
    obtain ⟨f, rfl, hf'⟩ := suc_lt hf
    have h6 := hv.1
    obtain ⟨s1, a1, a2, a3, a4, a5⟩ := fms_step hv h
    obtain ⟨e1, e2⟩ := MK_has (d := d) hv a2 ha
    show ∃ s', b_M_when_L62 _ _ _ _ _ _ _ = _ ∧ _
    unfold b_M_when_L62 f_M_when_L101
    rw [if_neg (nI_nlt (by omega) (by omega)), of_m1, if_pos rfl, a1, Option.bind_some, e1, Option.bind_some, ix_nI (n := 6) (k := a) (by omega) (by omega), Option.bind_some, e2, of_1, nI_add]
    cases c : whS I T B W w v a d (k + 1) with
    | true =>
      obtain ⟨f', rfl, -⟩ := suc_of (show 0 < f by omega)
      rw [ifT, ffS_t c]
      refine ⟨s1, ?_, a2.2.2, hF.trans a5⟩
      show b_M_when_L62 _ _ _ _ _ _ _ = _
      unfold b_M_when_L62
      rw [of_m1, if_neg (show ¬ nI (k + 1) = -1 from cdO_nm1 (k + 1) (by omega))]
      split <;> rfl
    | false =>
      rw [ifF, ffS_f c]
      exact ih (k + 1) f s1 (by omega) (by omega) a2 (hF.trans a5)
theorem q_when {s : S2} (h : INV I T B R W s) (x y z : Int32) : ∃ s1 r s2, f_D_when x y z s = some (s1, r) ∧ f_M_when x y z s1 = some (s2, r) ∧ INV I T B R W s2 := by
  have h6 := h.1.2.2.1.1.1
  unfold f_D_when
  rw [(v_isle h x).1, g_D_isWithin_eq, g_D_isWithin_eq, show Int32.ofInt 0 = nI 0 from of_0, of_60]
  cases c1 : inS x 0 (nI I - nI 1) with
  | false => exact ⟨s, _, s, by rw [ifF], by unfold f_M_when; rw [(v_isle h x).2, c1, ifF], h⟩
  | true =>
    cases c2 : inS y (nI 0) (Int32.ofInt 999) with
    | false => exact ⟨s, _, s, by rw [ifT, ifF], by unfold f_M_when; rw [(v_isle h x).2, c1, ifT, g_M_in_eq, show Int32.ofInt 0 = nI 0 from of_0, c2, ifF], h⟩
    | true =>
      cases c3 : inS z (nI 0) (nI 60) with
      | false => exact ⟨s, _, s, by rw [ifT, ifT, ifF], by unfold f_M_when; rw [(v_isle h x).2, c1, ifT, g_M_in_eq, show Int32.ofInt 0 = nI 0 from of_0, c2, ifT, g_M_in_eq, of_60, c3, ifF], h⟩
      | true =>
        obtain ⟨a, a1, rfl⟩ := inS_nI c1 (by omega)
        obtain ⟨n, n1, n2, rfl⟩ := inS_lit c3 (by omega) (by omega)
        obtain ⟨s1, p1, p2, p3, p4, p5⟩ := fc_begin h
        obtain ⟨s3, q1, q2⟩ := fc_when (s0 := s) (d := y) (v := s1.1 21 2) (n := n) p3 a1 (by omega) n 0 FU s1 (by omega) (lt_FU (by omega)) p2 rfl p5
        have h3 := INV_KS h q2
        have e14 : s3.1 14 0 = s.1 14 0 := q2.arr fun _ => rfl
        have e21 : s3.1 21 0 = s.1 21 0 := q2.arr fun _ => rfl
        obtain ⟨t1, u1, u2, u3⟩ := fm_begin (v := s1.1 21 2) h3 (by rw [e21]; exact p4)
        rw [e14] at u2
        obtain ⟨e1, e2⟩ := MK_has (d := y) p3 u2 a1
        have key : ∃ t2, (if bI (g_M_has (nI (bsS (evS I (seS I T B W (s.1 14 0) (s1.1 21 2) 0) y) I)) (t1.1 82 0 a) t1) = 0 then f_M_when_L57 (nI a) y (nI n) (-1) t1 else f_M_when_L57 (nI a) y (nI n) (nI 0) t1) = f_M_when_L109 (cdO (ffS (whS I T B W (s.1 14 0) (s1.1 21 2) a y) (n + 1) 0)) t2 ∧ SV I T B (s1.1 21 2) 91 0 t2 ∧ Fr (MS T) s3 t2 := by
          unfold f_M_when_L57
          rw [of_1, e2]
          cases c : whS I T B W (s.1 14 0) (s1.1 21 2) a y 0 with
          | false =>
            rw [ifF, ffS_f c]
            exact fm_when (s0 := s3) p3 a1 (show n < 100 by omega) n 0 FU t1 (by omega) (lt_FU (by omega)) u2 u3
          | true =>
            rw [ifT, ffS_t c]
            obtain ⟨f, ef, -⟩ := fu_succ
            refine ⟨t1, ?_, u2.2.2, u3⟩
            rw [ef]
            show b_M_when_L62 _ _ _ _ _ _ _ = _
            unfold b_M_when_L62
            rw [of_m1, if_neg (show ¬ nI 0 = -1 by decide)]
            split <;> rfl
        obtain ⟨t2, w1, w2, w3⟩ := key
        obtain ⟨t3, x1, x2⟩ := fm_end h3 (by rw [e21]; exact p4) w3 w2
        refine ⟨s3, cdO (ffS (whS I T B W (s.1 14 0) (s1.1 21 2) a y) (n + 1) 0), t3, ?_, ?_, x2⟩
        · rw [ifT, ifT, ifT]
          unfold f_Forecast_seenByAllBehind
          rw [p1, Option.bind_some, show Int32.ofInt 0 = nI 0 from of_0, q1]
          rfl
        · unfold f_M_when
          rw [(v_isle h3 (nI a)).2, c1, ifT, g_M_in_eq, show Int32.ofInt 0 = nI 0 from of_0, c2, ifT, g_M_in_eq, of_60, c3, ifT, u1, Option.bind_some, e1, Option.bind_some, ix_nI (n := 6) (k := a) (by omega) (by omega), Option.bind_some, of_m1, w1]
          unfold f_M_when_L109
          rw [x1]
          rfl
end
