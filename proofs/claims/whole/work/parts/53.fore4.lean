/-! ===== forecasts: nearest ===== -/
section
variable {I T B R : Nat} {W : Option WF6} {s0 : S2} {w v : Nat → Int32}
def nrS (I T B : Nat) (W : Option WF6) (w v : Nat → Int32) (a b : Nat) : Nat → Nat → Int32 → Int32 → Int32 × Int32
  | 0, _, d, t => (d, t)
  | m + 1, k, d, t => if d ≤ apS (seS I T B W w v k) a b then nrS I T B W w v a b m (k + 1) d t else nrS I T B W w v a b m (k + 1) (apS (seS I T B W w v k) a b) (nI k)
theorem nrS_t {a b m k : Nat} {d t : Int32} (c : d ≤ apS (seS I T B W w v k) a b) : nrS I T B W w v a b (m + 1) k d t = nrS I T B W w v a b m (k + 1) d t := by
  show (if d ≤ apS (seS I T B W w v k) a b then _ else _) = _
  rw [if_pos c]
theorem nrS_f {a b m k : Nat} {d t : Int32} (c : ¬ d ≤ apS (seS I T B W w v k) a b) : nrS I T B W w v a b (m + 1) k d t = nrS I T B W w v a b m (k + 1) (apS (seS I T B W w v k) a b) (nI k) := by
  show (if d ≤ apS (seS I T B W w v k) a b then _ else _) = _
  rw [if_neg c]
theorem fc_near {a b n c : Nat} (hv : VS I v) (ha : a < I) (hb : b < I) (hn : n < 100) : ∀ (m k fu : Nat) (s : S2) (d t : Int32), k + m = n → m < fu → CX I T B W onA xN 0 w s → s.1 21 2 = seS I T B W w v k → Fr KS s0 s → ∃ s', f_Forecast_leastApart_L21 fu (nI a) (nI b) (nI n) (nI c) d t (nI (k + 1)) s = some (s', if nI c = 0 then (nrS I T B W w v a b m (k + 1) d t).1 else (nrS I T B W w v a b m (k + 1) d t).2) ∧ Fr KS s0 s' := by
  intro m
  induction m with
  | zero =>
    intro k fu s d t hk hf hX hs hF
    obtain ⟨f, rfl, hf'⟩ := suc_of hf
    refine ⟨s, ?_, hF⟩
    show b_Forecast_leastApart_L21 _ _ _ _ _ _ _ _ _ = _
    unfold b_Forecast_leastApart_L21
    rw [if_pos (nI_lt (by omega) (by omega))]
    split <;> rfl
  | succ m ih =>
    intro k fu s d t hk hf hX hs hF
    obtain ⟨f, rfl, hf'⟩ := suc_lt hf
    have hq := VS_se (T := T) (B := B) (W := W) (w := w) hv (k + 1)
    obtain ⟨s1, a1, a2, a3, a4, a5, a6⟩ := fcs_step hv hX hs
    have hvs : VS I (s1.1 21 2) := by rw [a3]; exact hq
    show ∃ s', b_Forecast_leastApart_L21 _ _ _ _ _ _ _ _ _ = _ ∧ _
    unfold b_Forecast_leastApart_L21 f_Forecast_leastApart_L67
    rw [if_neg (nI_nlt (by omega) (by omega)), a1, Option.bind_some, fc_apart hvs ha hb, Option.bind_some, Option.bind_some, a3, of_1, nI_add]
    by_cases e : d ≤ apS (seS I T B W w v (k + 1)) a b
    · rw [if_pos e, nrS_t e]
      exact ih (k + 1) f s1 d t (by omega) hf' a2 a3 (hF.trans a6)
    · rw [if_neg e, nrS_f e]
      exact ih (k + 1) f s1 _ _ (by omega) hf' a2 a3 (hF.trans a6)
theorem fm_near {a b n c : Nat} (hv : VS I v) (ha : a < I) (hb : b < I) (hn : n < 100) : ∀ (m k fu : Nat) (s : S2) (d t : Int32), k + m = n → m < fu → MK5 I T B W w v k s → Fr (MS T) s0 s → ∃ s', f_M_nearest_L49 fu (nI a) (nI b) (nI n) (nI c) d t (nI (k + 1)) s = (f_M_takeBack s').bind (fun q => some (q, if nI c = 0 then (nrS I T B W w v a b m (k + 1) d t).1 else (nrS I T B W w v a b m (k + 1) d t).2)) ∧ SV I T B v 91 0 s' ∧ Fr (MS T) s0 s' := by
  intro m
  induction m with
  | zero =>
    intro k fu s d t hk hf h hF
    obtain ⟨f, rfl, hf'⟩ := suc_of hf
    refine ⟨s, ?_, h.2.2, hF⟩
    show b_M_nearest_L49 _ _ _ _ _ _ _ _ _ = _
    unfold b_M_nearest_L49
    rw [if_pos (nI_lt (by omega) (by omega))]
    by_cases e : nI c = 0
    · simp only [if_pos e, nrS]
    · simp only [if_neg e, nrS]
  | succ m ih =>
    intro k fu s d t hk hf h hF
    obtain ⟨f, rfl, hf'⟩ := suc_lt hf
    have hq := VS_se (T := T) (B := B) (W := W) (w := w) hv (k + 1)
    obtain ⟨s1, a1, a2, a3, a4, a5⟩ := fms_step hv h
    show ∃ s', b_M_nearest_L49 _ _ _ _ _ _ _ _ _ = _ ∧ _
    unfold b_M_nearest_L49 f_M_nearest_L77
    rw [if_neg (nI_nlt (by omega) (by omega)), a1, Option.bind_some, fm_farOf hq a2.2.1 ha hb, Option.bind_some, Option.bind_some, Option.bind_some, of_1, nI_add]
    by_cases e : d ≤ apS (seS I T B W w v (k + 1)) a b
    · rw [if_pos e, nrS_t e, show jmin d (apS (seS I T B W w v (k + 1)) a b) = d from if_neg (Int32.not_lt.mpr e)]
      exact ih (k + 1) f s1 d t (by omega) hf' a2 (hF.trans a5)
    · rw [if_neg e, nrS_f e, show jmin d (apS (seS I T B W w v (k + 1)) a b) = apS (seS I T B W w v (k + 1)) a b from if_pos (Int32.not_le.mp e)]
      exact ih (k + 1) f s1 _ _ (by omega) hf' a2 (hF.trans a5)
theorem q_nearest {s : S2} (h : INV I T B R W s) (x y z u : Int32) : ∃ s1 r s2, f_D_nearest x y z u s = some (s1, r) ∧ f_M_nearest x y z u s1 = some (s2, r) ∧ INV I T B R W s2 := by
  have h6 := h.1.2.2.1.1.1
  unfold f_D_nearest
  rw [g_D_isWithin_eq, g_D_isWithin_eq, of_1, of_60, show Int32.ofInt 0 = nI 0 from of_0]
  cases c1 : g_D_areTwo x y s with
  | false => exact ⟨s, _, s, by rw [ifF], by unfold f_M_nearest; rw [(v_areTwo h x y).1, c1, ifF], h⟩
  | true =>
    cases c2 : inS z (nI 0) (nI 60) with
    | false => exact ⟨s, _, s, by rw [ifT, ifF], by unfold f_M_nearest; rw [(v_areTwo h x y).1, c1, ifT, g_M_in_eq, show Int32.ofInt 0 = nI 0 from of_0, of_60, c2, ifF], h⟩
    | true =>
      cases c3 : inS u (nI 0) (nI 1) with
      | false => exact ⟨s, _, s, by rw [ifT, ifT, ifF], by unfold f_M_nearest; rw [(v_areTwo h x y).1, c1, ifT, g_M_in_eq, show Int32.ofInt 0 = nI 0 from of_0, of_60, c2, ifT, g_M_in_eq, of_1, c3, ifF], h⟩
      | true =>
        obtain ⟨a, b, a1, b1, -, rfl, rfl⟩ := (v_areTwo h x y).2 c1
        obtain ⟨n, n1, n2, rfl⟩ := inS_lit c2 (by omega) (by omega)
        obtain ⟨c, k1, k2, rfl⟩ := inS_lit c3 (by omega) (by omega)
        obtain ⟨s1, p1, p2, p3, p4, p5⟩ := fc_begin h
        obtain ⟨s3, q1, q2⟩ := fc_near (s0 := s) (v := s1.1 21 2) (n := n) (c := c) p3 a1 b1 (by omega) n 0 FU s1 (apS (s1.1 21 2) a b) (nI 0) (by omega) (lt_FU (by omega)) p2 rfl p5
        have h3 := INV_KS h q2
        have e14 : s3.1 14 0 = s.1 14 0 := q2.arr fun _ => rfl
        have e21 : s3.1 21 0 = s.1 21 0 := q2.arr fun _ => rfl
        obtain ⟨t1, u1, u2, u3⟩ := fm_begin (v := s1.1 21 2) h3 (by rw [e21]; exact p4)
        rw [e14] at u2
        obtain ⟨t2, w1, w2, w3⟩ := fm_near (s0 := s3) (n := n) (c := c) p3 a1 b1 (show n < 100 by omega) n 0 FU t1 (apS (s1.1 21 2) a b) (nI 0) (by omega) (lt_FU (by omega)) u2 u3
        obtain ⟨t3, x1, x2⟩ := fm_end h3 (by rw [e21]; exact p4) w3 w2
        have hc : (if nI c = nI 1 then f_D_nearest_L49 (nI a) (nI b) (nI n) (nI 1) s else f_D_nearest_L49 (nI a) (nI b) (nI n) (nI 0) s) = f_D_nearest_L49 (nI a) (nI b) (nI n) (nI c) s := by
          rcases (show c = 0 ∨ c = 1 by omega) with rfl | rfl
          · rw [if_neg (by decide)]
          · rw [if_pos rfl]
        obtain ⟨r, er⟩ : ∃ r, (if nI c = 0 then (nrS I T B W (s.1 14 0) (s1.1 21 2) a b n (0 + 1) (apS (s1.1 21 2) a b) (nI 0)).1 else (nrS I T B W (s.1 14 0) (s1.1 21 2) a b n (0 + 1) (apS (s1.1 21 2) a b) (nI 0)).2) = r := ⟨_, rfl⟩
        rw [er] at q1 w1
        refine ⟨s3, r, t3, ?_, ?_, x2⟩
        · rw [ifT, ifT, ifT, hc]
          unfold f_D_nearest_L49 f_Forecast_leastApart
          rw [p1, Option.bind_some, fc_apart p3 a1 b1, Option.bind_some, show Int32.ofInt 0 = nI 0 from of_0, of_1]
          rw [show nI (0 + 1) = nI 1 from rfl] at q1
          rw [q1]
          rfl
        · unfold f_M_nearest
          rw [two_keep h h3, c1, ifT, g_M_in_eq, show Int32.ofInt 0 = nI 0 from of_0, of_60, c2, ifT, g_M_in_eq, of_1, c3, ifT, u1, Option.bind_some, fm_farOf p3 u2.2.1 a1 b1, Option.bind_some]
          rw [show nI (0 + 1) = nI 1 from rfl] at w1
          rw [w1, x1]
          rfl
end
