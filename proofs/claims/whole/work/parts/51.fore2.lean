/-! ===== forecasts: ahead, rest, one, snap ===== -/
def rdS (c : Nat) (v : Nat → Int32) (a : Nat) : Int32 := match c with
  | 0 => v (hdS v a)
  | 1 => v (6 + hdS v a)
  | _ => nI (hdS v a)
def ffS (p : Nat → Bool) : Nat → Nat → Option Nat
  | 0, _ => none
  | m + 1, k => if p k then some k else ffS p m (k + 1)
theorem ffS_t {p : Nat → Bool} {m k : Nat} (h : p k = true) : ffS p (m + 1) k = some k := by
  unfold ffS
  rw [h]; rfl
theorem ffS_f {p : Nat → Bool} {m k : Nat} (h : p k = false) : ffS p (m + 1) k = ffS p m (k + 1) := by
  show (if p k then some k else ffS p m (k + 1)) = _
  rw [h]; rfl
section
variable {I T B R : Nat} {W : Option WF6} {s0 : S2} {w v : Nat → Int32}
theorem fc_place {a n c : Nat} (hv : VS I v) (ha : a < I) (hn : n < 100) (hc : c ≤ 2) : ∀ (m k fu : Nat) (s : S2), k + m = n → m < fu → CX I T B W onA xN 0 w s → s.1 21 2 = seS I T B W w v k → Fr KS s0 s → ∃ s', f_Forecast_placeBehind_L7 fu (nI a) (nI n) (nI c) (nI (k + 1)) s = some (s', rdS c (seS I T B W w v n) a) ∧ Fr KS s0 s' := by
  intro m
  induction m with
  | zero =>
    intro k fu s hk hf hX hs hF
    obtain ⟨f, rfl, hf'⟩ := suc_of hf
    have e : k = n := by omega
    subst e
    have hvs : VS I (s.1 21 2) := by rw [hs]; exact VS_se hv k
    refine ⟨s, ?_, hF⟩
    show b_Forecast_placeBehind_L7 _ _ _ _ _ _ = _
    unfold b_Forecast_placeBehind_L7
    rw [if_pos (nI_lt (by omega) (by omega)), fc_xOf hvs ha, fc_yOf hvs ha, fc_headOf hvs ha, hs, show Int32.ofInt 0 = nI 0 from of_0, of_1]
    match c, hc with
    | 0, _ => rw [if_pos rfl]; rfl
    | 1, _ => rw [if_neg (by decide), if_pos rfl]; rfl
    | 2, _ => rw [if_neg (by decide), if_neg (by decide)]; rfl
  | succ m ih =>
    intro k fu s hk hf hX hs hF
    obtain ⟨f, rfl, hf'⟩ := suc_lt hf
    obtain ⟨s1, a1, a2, a3, -, -, a6⟩ := fcs_step hv hX hs
    obtain ⟨s', b1, b2⟩ := ih (k + 1) f s1 (by omega) hf' a2 a3 (hF.trans a6)
    refine ⟨s', ?_, b2⟩
    show b_Forecast_placeBehind_L7 _ _ _ _ _ _ = _
    unfold b_Forecast_placeBehind_L7
    rw [if_neg (nI_nlt (by omega) (by omega)), a1, Option.bind_some, of_1, nI_add]
    exact b1
theorem fm_passAll {n : Nat} (hv : VS I v) (hn : n < 100) : ∀ (m k fu : Nat) (s : S2), k + m = n → m < fu → MK5 I T B W w v k s → Fr (MS T) s0 s → ∃ s', f_M_passAll_L2 fu (nI n) (nI k) s = some s' ∧ MK5 I T B W w v n s' ∧ Fr (MS T) s0 s' := by
  intro m
  induction m with
  | zero =>
    intro k fu s hk hf h hF
    obtain ⟨f, rfl, hf'⟩ := suc_of hf
    have e : k = n := by omega
    subst e
    refine ⟨s, ?_, h, hF⟩
    show b_M_passAll_L2 _ _ _ _ = _
    unfold b_M_passAll_L2
    rw [if_pos (nI_le (by omega) (by omega))]
  | succ m ih =>
    intro k fu s hk hf h hF
    obtain ⟨f, rfl, hf'⟩ := suc_lt hf
    obtain ⟨s1, a1, a2, -, -, a5⟩ := fms_step hv h
    obtain ⟨s', b1, b2, b3⟩ := ih (k + 1) f s1 (by omega) hf' a2 (hF.trans a5)
    refine ⟨s', ?_, b2, b3⟩
    show b_M_passAll_L2 _ _ _ _ = _
    unfold b_M_passAll_L2
    rw [if_neg (nI_ge (by omega) (by omega)), a1, Option.bind_some, of_1, nI_add]
    exact b1
theorem q_ahead {s : S2} (h : INV I T B R W s) (x y z : Int32) : ∃ s1 r s2, f_D_ahead x y z s = some (s1, r) ∧ f_M_ahead x y z s1 = some (s2, r) ∧ INV I T B R W s2 := by
  have h6 := h.1.2.2.1.1.1
  unfold f_D_ahead
  rw [(v_isle h x).1, g_D_isWithin_eq, g_D_isWithin_eq, of_1, of_60, show Int32.ofInt 0 = nI 0 from of_0, of_2]
  cases c1 : inS x 0 (nI I - nI 1) with
  | false => exact ⟨s, _, s, by rw [ifF], by unfold f_M_ahead; rw [(v_isle h x).2, c1, ifF], h⟩
  | true =>
    cases c2 : inS y (nI 1) (nI 60) with
    | false => exact ⟨s, _, s, by rw [ifT, ifF], by unfold f_M_ahead; rw [(v_isle h x).2, c1, ifT, g_M_in_eq, of_1, of_60, c2, ifF], h⟩
    | true =>
      cases c3 : inS z (nI 0) (nI 2) with
      | false => exact ⟨s, _, s, by rw [ifT, ifT, ifF], by unfold f_M_ahead; rw [(v_isle h x).2, c1, ifT, g_M_in_eq, of_1, of_60, c2, ifT, g_M_in_eq, show Int32.ofInt 0 = nI 0 from of_0, of_2, c3, ifF], h⟩
      | true =>
        obtain ⟨a, a1, rfl⟩ := inS_nI c1 (by omega)
        obtain ⟨n, n1, n2, rfl⟩ := inS_lit c2 (by omega) (by omega)
        obtain ⟨c, -, k2, rfl⟩ := inS_lit c3 (by omega) (by omega)
        obtain ⟨s1, p1, p2, p3, p4, p5⟩ := fc_begin h
        obtain ⟨s3, q1, q2⟩ := fc_place (s0 := s) (v := s1.1 21 2) p3 a1 (show n < 100 by omega) k2 n 0 FU s1 (by omega) (lt_FU (by omega)) p2 rfl p5
        have h3 := INV_KS h q2
        have e14 : s3.1 14 0 = s.1 14 0 := q2.arr fun _ => rfl
        have e21 : s3.1 21 0 = s.1 21 0 := q2.arr fun _ => rfl
        obtain ⟨t1, u1, u2, u3⟩ := fm_begin (v := s1.1 21 2) h3 (by rw [e21]; exact p4)
        rw [e14] at u2
        obtain ⟨t2, w1, w2, w3⟩ := fm_passAll (s0 := s3) p3 (show n < 100 by omega) n 0 FU t1 (by omega) (lt_FU (by omega)) u2 u3
        obtain ⟨t3, x1, x2⟩ := fm_end h3 (by rw [e21]; exact p4) w3 w2.2.2
        have hvn : VS I (seS I T B W (s.1 14 0) (s1.1 21 2) n) := VS_se p3 n
        obtain ⟨g1, g2, -⟩ := hvn.2.1 a a1
        have ea := w2.2.1.1 a a1
        have eh := w2.2.1.1 _ g2
        have e82 : t2.1 82 0 a = nI (hdS (seS I T B W (s.1 14 0) (s1.1 21 2) n) a) := by rw [← ea.2.2.2.1, g1]
        refine ⟨s3, rdS c (seS I T B W (s.1 14 0) (s1.1 21 2) n) a, t3, ?_, ?_, x2⟩
        · rw [ifT, ifT, ifT]
          unfold f_Forecast_placeBehind
          rw [p1, Option.bind_some, of_1]
          rw [show nI (0 + 1) = nI 1 from rfl] at q1
          rw [q1]
          rfl
        · unfold f_M_ahead f_M_passAll f_M_ahead_L83
          rw [(v_isle h3 (nI a)).2, c1, ifT, g_M_in_eq, of_1, of_60, c2, ifT, g_M_in_eq, show Int32.ofInt 0 = nI 0 from of_0, of_2, c3, ifT, u1, Option.bind_some, w1, Option.bind_some, ix_nI (n := 6) (k := a) (by omega) (by omega), Option.bind_some, Option.bind_some, Option.bind_some, e82, ix_nI (n := 6) (k := hdS (seS I T B W (s.1 14 0) (s1.1 21 2) n) a) (by omega) (by omega), Option.bind_some, Option.bind_some, ← eh.1, ← eh.2.1, x1, Option.bind_some, Option.bind_some, Option.bind_some]
          rcases (show c = 0 ∨ c = 1 ∨ c = 2 by omega) with rfl | rfl | rfl
          · rw [if_pos nI_0]; rfl
          · rw [if_neg (show ¬ nI 1 = 0 by decide), if_pos rfl]; rfl
          · rw [if_neg (show ¬ nI 2 = 0 by decide), if_neg (show ¬ nI 2 = nI 1 by decide)]; rfl
/-- the next season would change nothing -/
def stS (I T B : Nat) (W : Option WF6) (w v : Nat → Int32) (k : Nat) : Bool := decide ((psS I T B W (seS I T B W w v k) w onA xN 0).2.2.2 = 0) && decide ((psS I T B W (seS I T B W w v k) w onA xN 0).2.1 = 0)
theorem fc_rest {n : Nat} (hv : VS I v) (hn : n < 100) : ∀ (m k fu : Nat) (s : S2), k + m = n + 1 → m < fu → CX I T B W onA xN 0 w s → s.1 21 2 = seS I T B W w v k → Fr KS s0 s → ∃ s', f_Forecast_restsBehind_L6 fu (nI n) (nI k) s = some (s', cdO (ffS (stS I T B W w v) m k)) ∧ Fr KS s0 s' := by
  intro m
  induction m with
  | zero =>
    intro k fu s hk hf hX hs hF
    obtain ⟨f, rfl, hf'⟩ := suc_of hf
    refine ⟨s, ?_, hF⟩
    show b_Forecast_restsBehind_L6 _ _ _ _ = _
    unfold b_Forecast_restsBehind_L6
    rw [if_pos (nI_lt (by omega) (by omega)), of_m1]
    rfl
  | succ m ih =>
    intro k fu s hk hf hX hs hF
    obtain ⟨f, rfl, hf'⟩ := suc_lt hf
    obtain ⟨s1, a1, a2, a3, a4, a5, a6⟩ := fcs_step hv hX hs
    have hmv : g_Course_movedNothing s1 = stS I T B W w v k := by
      unfold g_Course_movedNothing stS
      rw [a4, a5]
      by_cases c1 : (psS I T B W (seS I T B W w v k) w onA xN 0).2.2.2 = 0
      · by_cases c2 : (psS I T B W (seS I T B W w v k) w onA xN 0).2.1 = 0 <;> simp [c1, c2]
      · simp [c1]
    show ∃ s', b_Forecast_restsBehind_L6 _ _ _ _ = _ ∧ _
    unfold b_Forecast_restsBehind_L6
    rw [if_neg (nI_nlt (by omega) (by omega)), a1, Option.bind_some, hmv, of_1, nI_add]
    cases c : stS I T B W w v k with
    | true => exact ⟨s1, by rw [ifT, ffS_t c]; rfl, hF.trans a6⟩
    | false =>
      rw [ifF, ffS_f c]
      exact ih (k + 1) f s1 (by omega) hf' a2 a3 (hF.trans a6)
theorem fm_rest {n : Nat} (hv : VS I v) (hn : n < 100) : ∀ (m k fu : Nat) (s : S2), k + m = n + 1 → m + 1 < fu → MK5 I T B W w v k s → Fr (MS T) s0 s → ∃ s', f_M_rest_L21 fu (nI n) (-1) (nI k) s = f_M_rest_L61 (cdO (ffS (stS I T B W w v) m k)) s' ∧ SV I T B v 91 0 s' ∧ Fr (MS T) s0 s' := by
  intro m
  induction m with
  | zero =>
    intro k fu s hk hf h hF
    obtain ⟨f, rfl, hf'⟩ := suc_lt hf
    refine ⟨s, ?_, h.2.2, hF⟩
    show b_M_rest_L21 _ _ _ _ _ = _
    unfold b_M_rest_L21
    rw [if_pos (nI_lt (by omega) (by omega))]
    rfl
  | succ m ih =>
    intro k fu s hk hf h hF
    obtain ⟨f, rfl, hf'⟩ := suc_lt hf
    obtain ⟨s1, a1, a2, a3, a4, a5⟩ := fms_step hv h
    show ∃ s', b_M_rest_L21 _ _ _ _ _ = _ ∧ _
    unfold b_M_rest_L21 f_M_rest_L53 f_M_rest_L54
    rw [if_neg (nI_nlt (by omega) (by omega)), of_m1, if_pos rfl, a1, Option.bind_some, a3, a4, of_1, nI_add]
    cases c : stS I T B W w v k with
    | true =>
      obtain ⟨f', rfl, -⟩ := suc_of (show 0 < f by omega)
      have c' := c
      unfold stS at c'
      simp only [Bool.and_eq_true, decide_eq_true_eq] at c'
      rw [if_pos c'.1, if_pos c'.2, ffS_t c]
      refine ⟨s1, ?_, a2.2.2, hF.trans a5⟩
      show b_M_rest_L21 _ _ _ _ _ = _
      unfold b_M_rest_L21
      rw [of_m1, if_neg (show ¬ nI k = -1 from cdO_nm1 k (by omega))]
      split <;> rfl
    | false =>
      rw [ffS_f c]
      have hrec := ih (k + 1) f s1 (by omega) (by omega) a2 (hF.trans a5)
      unfold stS at c
      by_cases c1 : (psS I T B W (seS I T B W w v k) w onA xN 0).2.2.2 = 0
      · rw [if_pos c1, if_neg (fun z => by simp [c1, z] at c)]
        exact hrec
      · rw [if_neg c1]
        exact hrec
theorem v_seasons {s : S2} (h : INV I T B R W s) (y lo hi : Int32) : g_M_areSeasons y lo hi s = (decide (¬ I = 0) && inS y lo hi) := by
  have h6 := h.1.2.2.1.1.1
  unfold g_M_areSeasons
  rw [h.1.2.2.2.2.2.1.1, g_M_in_eq]
  by_cases c : I = 0
  · rw [c, nI_0, if_pos (by decide)]; rfl
  · rw [if_neg (nI_nle (by omega) (by omega)), decide_eq_true c]
    cases inS y lo hi <;> rfl
theorem q_rest {s : S2} (h : INV I T B R W s) (y : Int32) : ∃ s1 r s2, f_D_rest y s = some (s1, r) ∧ f_M_rest y s1 = some (s2, r) ∧ INV I T B R W s2 := by
  have h6 := h.1.2.2.1.1.1
  unfold f_D_rest
  rw [v_hasSea h, g_D_isWithin_eq, show Int32.ofInt 0 = nI 0 from of_0, of_60]
  by_cases cI : I = 0
  · rw [decide_eq_false (fun z => z cI)]
    exact ⟨s, _, s, by rw [ifF], by unfold f_M_rest; rw [v_seasons h, decide_eq_false (fun z => z cI), Bool.false_and, ifF], h⟩
  · rw [decide_eq_true cI]
    cases c2 : inS y (nI 0) (nI 60) with
    | false => exact ⟨s, _, s, by rw [ifT, ifF], by unfold f_M_rest; rw [v_seasons h, decide_eq_true cI, show Int32.ofInt 0 = nI 0 from of_0, of_60, c2, Bool.true_and, ifF], h⟩
    | true =>
      obtain ⟨n, n1, n2, rfl⟩ := inS_lit c2 (by omega) (by omega)
      obtain ⟨s1, p1, p2, p3, p4, p5⟩ := fc_begin h
      obtain ⟨s3, q1, q2⟩ := fc_rest (s0 := s) (v := s1.1 21 2) (n := n) p3 (by omega) (n + 1) 0 FU s1 (by omega) (lt_FU (by omega)) p2 rfl p5
      have h3 := INV_KS h q2
      have e14 : s3.1 14 0 = s.1 14 0 := q2.arr fun _ => rfl
      have e21 : s3.1 21 0 = s.1 21 0 := q2.arr fun _ => rfl
      obtain ⟨t1, u1, u2, u3⟩ := fm_begin (v := s1.1 21 2) h3 (by rw [e21]; exact p4)
      rw [e14] at u2
      obtain ⟨t2, w1, w2, w3⟩ := fm_rest (s0 := s3) (n := n) p3 (by omega) (n + 1) 0 FU t1 (by omega) (lt_FU (by omega)) u2 u3
      obtain ⟨t3, x1, x2⟩ := fm_end h3 (by rw [e21]; exact p4) w3 w2
      refine ⟨s3, cdO (ffS (stS I T B W (s.1 14 0) (s1.1 21 2)) (n + 1) 0), t3, ?_, ?_, x2⟩
      · rw [ifT, ifT]
        unfold f_Forecast_restsBehind
        rw [p1, Option.bind_some, show Int32.ofInt 0 = nI 0 from of_0, q1]
        rfl
      · unfold f_M_rest
        rw [v_seasons h3, decide_eq_true cI, show Int32.ofInt 0 = nI 0 from of_0, of_60, c2, Bool.true_and, ifT, u1, Option.bind_some, of_m1, w1]
        unfold f_M_rest_L61
        rw [x1]
        rfl
end
