/-! ===== led, drift ===== -/
section
variable {I T B R : Nat} {W : Option WF6} {s s' s0 : S2} {w v : Nat → Int32}
theorem c_told (h : INV I T B R W s) {t : Nat} (ht : t < T) : ∃ s1, f_Course_pullOfTold 0 (nI t) s = some (s1, plS W (s.1 21 0) (ta (s.1 14 0) t) (tb (s.1 14 0) t) (s.1 21 0 (30 + t)) (s.1 14 0 ((7 + t) * 8 + 3))) ∧ Fr KS s s1 := by
  have h8 := h.1.2.2.1.1.2.1
  obtain ⟨e1, e2, e3, e4⟩ := h.1.2.2.1.2.1 t ht
  obtain ⟨s1, a1, a2⟩ := fc_pullOf (i := 0) (a := ta (s.1 14 0) t) (b := tb (s.1 14 0) t) (k := s.1 21 0 (30 + t)) (st := s.1 14 0 ((7 + t) * 8 + 3)) (W := W) h.1.2.2.2.2.1 e2 e4 (HLD_HC h.2.1)
  refine ⟨s1, ?_, a2.mono fun c i k hk => ?_⟩
  · unfold f_Course_pullOfTold
    rw [show Int32.ofInt 0 = nI 0 from of_0, of_1, of_3, fc_ofTie (a := t) (k := 0) (by omega) (by omega), Option.bind_some, fc_ofTie (a := t) (k := 1) (by omega) (by omega), Option.bind_some, fc_kindOf (by omega), Option.bind_some, fc_ofTie (a := t) (k := 3) (by omega) (by omega), Option.bind_some, Nat.add_zero, e1, e3, a1]
    rfl
  · unfold KS at hk
    unfold KLt
    simp only [Bool.or_eq_false_iff, Bool.and_eq_false_iff] at hk ⊢
    refine ⟨hk.1, ?_⟩
    cases hq : c == 32 with
    | false => rfl
    | true =>
      have := eq_of_beq hq
      subst this
      rcases hk.2.2.2.1 with z | z <;> cases z
theorem m_told (h : INV I T B R W s) {t : Nat} (ht : t < T) : ∃ s2, f_M_pullOf (nI t) s = some (s2, plS W (s.1 21 0) (ta (s.1 14 0) t) (tb (s.1 14 0) t) (s.1 21 0 (30 + t)) (s.1 14 0 ((7 + t) * 8 + 3))) ∧ Fr MLt s s2 ∧ INV I T B R W s2 := by
  have h8 := h.1.2.2.1.1.2.1
  obtain ⟨e1, e2, e3, e4⟩ := h.1.2.2.1.2.1 t ht
  obtain ⟨v1, v2, v3⟩ := h.1.2.2.2.2.2.2.1.1 t ht
  have eK := h.1.2.2.2.2.2.2.2.2.2.1 t ht
  obtain ⟨s2, b1, b2⟩ := fm_pullOf (W := W) h.1.2.2.2.2.1 h.1.2.2.2.2.2.2.2.2 (show t < 11 by omega) e2 e4 (v1.trans e1) (v2.trans e3) (HLD_HM h.2.2.2.1.1 h.2.1)
  rw [← eK, v3] at b1
  refine ⟨s2, b1, b2, ?_⟩
  refine INV_MS h (b2.mono fun c i k hk => ?_) (RS_MD h.1.2.2.2.2.2.2.2.2 (b2.mono fun _ _ _ => MD_MLt)) ((b2.1 _ _ _ rfl).trans h.1.2.2.2.2.2.2.2.1.1) ((b2.1 _ _ _ rfl).trans h.1.2.2.2.2.2.2.2.1.2)
  unfold MS at hk
  unfold MLt
  simp only [Bool.or_eq_false_iff] at hk ⊢
  exact ⟨hk.2.1.1, hk.2.1.2.1⟩
/-- a tie leads an isle by r -/
def leS (v : Nat → Int32) (a x y : Nat) (r : Int32) : Int32 := if hdS v a = hdS v x then r else if hdS v a = hdS v y then -r else 0
def diS (v : Nat → Int32) (c x y : Nat) : Int32 := if c = 0 then v (hdS v y) - v (hdS v x) else v (6 + hdS v y) - v (6 + hdS v x)
theorem fc_ledL {a t c : Nat} (h : INV I T B R W s) (ha : a < I) (ht : t < T) (hc : c ≤ 1) : ∃ s1, f_Course_ledByTold 0 (nI a) (nI t) (nI c) s = some (s1, leS (s.1 21 0) a (ta (s.1 14 0) t) (tb (s.1 14 0) t) (if apS (s.1 21 0) (ta (s.1 14 0) t) (tb (s.1 14 0) t) = 0 then 0 else plS W (s.1 21 0) (ta (s.1 14 0) t) (tb (s.1 14 0) t) (s.1 21 0 (30 + t)) (s.1 14 0 ((7 + t) * 8 + 3)) * diS (s.1 21 0) c (ta (s.1 14 0) t) (tb (s.1 14 0) t) / apS (s.1 21 0) (ta (s.1 14 0) t) (tb (s.1 14 0) t))) ∧ Fr KS s s1 := by
  have h8 := h.1.2.2.1.1.2.1
  have h6 := h.1.2.2.1.1.1
  have hv := h.1.2.2.2.2.1
  obtain ⟨e1, e2, e3, e4⟩ := h.1.2.2.1.2.1 t ht
  have g0 := (hv.2.1 a ha).2.1
  have g1 := (hv.2.1 _ e2).2.1
  have g2 := (hv.2.1 _ e4).2.1
  obtain ⟨s1, p1, p2⟩ := c_told h ht
  have x21 : s1.1 21 0 = s.1 21 0 := p2.arr fun _ => rfl
  have hv1 : VS I (s1.1 21 0) := by rw [x21]; exact hv
  unfold f_Course_ledByTold
  rw [show Int32.ofInt 0 = nI 0 from of_0, of_1, fc_ofTie (a := t) (k := 0) (by omega) (by omega), Option.bind_some, fc_ofTie (a := t) (k := 1) (by omega) (by omega), Option.bind_some, Nat.add_zero, e1, e3, fc_apart hv e2 e4, Option.bind_some]
  by_cases cz : apS (s.1 21 0) (ta (s.1 14 0) t) (tb (s.1 14 0) t) = 0
  · refine ⟨s, ?_, Fr.refl _ s⟩
    rw [if_pos cz, if_pos cz]
    unfold leS
    split
    · rfl
    · split <;> rfl
  · rw [if_neg cz, if_neg cz, fc_xOf hv e2, fc_xOf hv e4, fc_yOf hv e2, fc_yOf hv e4, Option.bind_some, Option.bind_some, Option.bind_some, Option.bind_some]
    refine ⟨s1, ?_, p2⟩
    have key : ∀ D : Int32, f_Course_ledByTold_L73 0 (nI a) (nI t) (nI (ta (s.1 14 0) t)) (nI (tb (s.1 14 0) t)) (apS (s.1 21 0) (ta (s.1 14 0) t) (tb (s.1 14 0) t)) D s = some (s1, leS (s.1 21 0) a (ta (s.1 14 0) t) (tb (s.1 14 0) t) (plS W (s.1 21 0) (ta (s.1 14 0) t) (tb (s.1 14 0) t) (s.1 21 0 (30 + t)) (s.1 14 0 ((7 + t) * 8 + 3)) * D / apS (s.1 21 0) (ta (s.1 14 0) t) (tb (s.1 14 0) t))) := fun D => by
      unfold f_Course_ledByTold_L73 leS
      rw [p1, Option.bind_some, if_neg cz, fc_headOf hv1 ha, Option.bind_some, fc_headOf hv1 e2, Option.bind_some, fc_headOf hv1 e4, Option.bind_some, x21]
      by_cases c1 : hdS (s.1 21 0) a = hdS (s.1 21 0) (ta (s.1 14 0) t)
      · rw [if_pos c1, if_pos (by rw [c1])]
      · rw [if_neg c1, if_neg (fun z => c1 ((nI_eq (by omega) (by omega)).mp z))]
        by_cases c2 : hdS (s.1 21 0) a = hdS (s.1 21 0) (tb (s.1 14 0) t)
        · rw [if_pos c2, if_pos (by rw [c2])]
        · rw [if_neg c2, if_neg (fun z => c2 ((nI_eq (by omega) (by omega)).mp z))]
          rfl
    rw [key, key]
    unfold diS
    rcases (show c = 0 ∨ c = 1 by omega) with rfl | rfl
    · rw [if_pos nI_0, if_pos rfl]
    · rw [if_neg (by decide), if_neg (by decide)]
theorem q_led (h : INV I T B R W s) (x y z : Int32) : ∃ s1 r s2, f_D_led x y z s = some (s1, r) ∧ f_M_led x y z s1 = some (s2, r) ∧ INV I T B R W s2 := by
  have h6 := h.1.2.2.1.1.1
  have h8 := h.1.2.2.1.1.2.1
  unfold f_D_led
  rw [(v_isle h x).1, (v_tie h y).1, g_D_isWithin_eq, show Int32.ofInt 0 = nI 0 from of_0, of_1]
  cases c1 : inS x 0 (nI I - nI 1) with
  | false => exact ⟨s, _, s, by rw [ifF], by unfold f_M_led; rw [(v_isle h x).2, c1, ifF], h⟩
  | true =>
    cases c2 : inS y 0 (nI T - nI 1) with
    | false => exact ⟨s, _, s, by rw [ifT, ifF], by unfold f_M_led; rw [(v_isle h x).2, c1, ifT, (v_tie h y).2, c2, ifF], h⟩
    | true =>
      cases c3 : inS z (nI 0) (nI 1) with
      | false => exact ⟨s, _, s, by rw [ifT, ifT, ifF], by unfold f_M_led; rw [(v_isle h x).2, c1, ifT, (v_tie h y).2, c2, ifT, g_M_in_eq, show Int32.ofInt 0 = nI 0 from of_0, of_1, c3, ifF], h⟩
      | true =>
        obtain ⟨a, a1, rfl⟩ := inS_nI c1 (by omega)
        obtain ⟨t, t1, rfl⟩ := inS_nI c2 (by omega)
        obtain ⟨c, -, k2, rfl⟩ := inS_lit c3 (by omega) (by omega)
        obtain ⟨s1, p1, p2⟩ := fc_ledL (c := c) h a1 t1 k2
        have h1 := INV_KS h p2
        have e14 : s1.1 14 0 = s.1 14 0 := p2.arr fun _ => rfl
        have e21 : s1.1 21 0 = s.1 21 0 := p2.arr fun _ => rfl
        obtain ⟨s2, q1, q2, q3⟩ := m_told h1 t1
        obtain ⟨e1, e2, e3, e4⟩ := h1.1.2.2.1.2.1 t t1
        obtain ⟨v1, v2, v3⟩ := h1.1.2.2.2.2.2.2.1.1 t t1
        have hv1 := h1.1.2.2.2.2.1
        have hr2 := q3.1.2.2.2.2.2.2.2.2
        have x21 : s2.1 21 0 = s1.1 21 0 := q2.arr fun _ => rfl
        have x77 : s2.1 77 0 = s1.1 77 0 := q2.arr fun _ => rfl
        rw [x21] at hr2
        have g0 := (hv1.2.1 a a1).2.1
        have g1 := (hv1.2.1 _ e2).2.1
        have g2 := (hv1.2.1 _ e4).2.1
        refine ⟨s1, _, s2, by rw [ifT, ifT, ifT, p1]; rfl, ?_, q3⟩
        have hL : ∀ r : Int32, f_M_drawnTo (nI (ta (s1.1 14 0) t)) (nI (tb (s1.1 14 0) t)) (plS W (s1.1 21 0) (ta (s1.1 14 0) t) (tb (s1.1 14 0) t) (s1.1 21 0 (30 + t)) (s1.1 14 0 ((7 + t) * 8 + 3))) (nI (1 - c)) s2 = some r → f_M_led_L62 (nI a) (nI t) (nI (ta (s1.1 14 0) t)) (nI (tb (s1.1 14 0) t)) (plS W (s1.1 21 0) (ta (s1.1 14 0) t) (tb (s1.1 14 0) t) (s1.1 21 0 (30 + t)) (s1.1 14 0 ((7 + t) * 8 + 3))) (nI (1 - c)) s2 = some (s2, leS (s1.1 21 0) a (ta (s1.1 14 0) t) (tb (s1.1 14 0) t) r) := fun r hr => by
          unfold f_M_led_L62 leS
          rw [hr, Option.bind_some, ix_nI (n := 6) (k := a) (by omega) (by omega), Option.bind_some, of_4, of_1, mul_nI, nI_add, ix_nI (n := 44) (k := 4 * t) (by omega) (by omega), Option.bind_some, x77, v1, e1, ix_nI (n := 6) (k := ta (s1.1 14 0) t) (by omega) (by omega), Option.bind_some, RS_hd hv1 hr2 a1, RS_hd hv1 hr2 e2, Option.bind_some, ix_nI (n := 44) (k := 4 * t + 1) (by omega) (by omega), Option.bind_some, v2, e3, ix_nI (n := 6) (k := tb (s1.1 14 0) t) (by omega) (by omega), Option.bind_some, RS_hd hv1 hr2 e4]
          by_cases c1 : hdS (s1.1 21 0) a = hdS (s1.1 21 0) (ta (s1.1 14 0) t)
          · rw [if_pos c1, if_pos (by rw [c1])]
          · rw [if_neg c1, if_neg (fun z => c1 ((nI_eq (by omega) (by omega)).mp z)), RS_hd hv1 hr2 a1]
            by_cases c2 : hdS (s1.1 21 0) a = hdS (s1.1 21 0) (tb (s1.1 14 0) t)
            · rw [if_pos c2, if_pos (by rw [c2])]
            · rw [if_neg c2, if_neg (fun z => c2 ((nI_eq (by omega) (by omega)).mp z))]
              rfl
        unfold f_M_led
        rw [(v_isle h1 (nI a)).2, c1, ifT, (v_tie h1 (nI t)).2, c2, ifT, g_M_in_eq, show Int32.ofInt 0 = nI 0 from of_0, of_1, c3, ifT, of_4, mul_nI, nI_add, ix_nI (n := 44) (k := 4 * t) (by omega) (by omega), Option.bind_some, ix_nI (n := 44) (k := 4 * t + 1) (by omega) (by omega), Option.bind_some, q1, Option.bind_some, v1, v2, e1, e3]
        rw [← e14, ← e21]
        rcases (show c = 0 ∨ c = 1 by omega) with rfl | rfl
        · rw [if_pos nI_0]
          exact hL _ (fm_drawnToX hv1 hr2 e2 e4)
        · rw [if_neg (by decide)]
          exact hL _ (fm_drawnToY hv1 hr2 e2 e4)
theorem mvS_at {d : D2} {a : Nat} (ha : isH I v a = true) (h6 : a < 6) : ∀ k, a < k → k ≤ 6 → mvS I v d k a = clp (v a + d.1 a / v (12 + a)) ∧ mvS I v d k (6 + a) = clp (v (6 + a) + d.2 a / v (12 + a)) := by
  intro k
  induction k with
  | zero => intro h; omega
  | succ k ih =>
    intro h1 h2
    show (if isH I v k then upd (upd (mvS I v d k) k _) (6 + k) _ else mvS I v d k) a = _ ∧ (if isH I v k then upd (upd (mvS I v d k) k _) (6 + k) _ else mvS I v d k) (6 + a) = _
    by_cases c : a = k
    · subst c
      rw [if_pos ha, upd_ne _ _ (by omega), upd_eq, upd_eq]
      exact ⟨rfl, rfl⟩
    · have := ih (by omega) (by omega)
      split
      · rw [upd_ne _ _ (by omega), upd_ne _ _ (by omega), upd_ne _ _ (by omega), upd_ne _ _ (by omega)]
        exact this
      · exact this

theorem fc_goesL {d : D2} {a c : Nat} (hv : VS I (s.1 21 0)) (hd : DC d s) (ha : a < I) (hc : c ≤ 1) : f_Course_goesBy_L29 0 (nI a) (nI c) s = some (s, if c = 0 then mvS I (s.1 21 0) d 6 (hdS (s.1 21 0) a) - s.1 21 0 (hdS (s.1 21 0) a) else mvS I (s.1 21 0) d 6 (6 + hdS (s.1 21 0) a) - s.1 21 0 (6 + hdS (s.1 21 0) a)) := by
  have h6 := hv.1
  obtain ⟨g1, g2, g3⟩ := hv.2.1 a ha
  obtain ⟨m, m1, m2, m3⟩ := hv.2.2.2 _ g2
  obtain ⟨d1, d2⟩ := hd _ (show hdS (s.1 21 0) a < 6 by omega)
  have hh : isH I (s.1 21 0) (hdS (s.1 21 0) a) = true := by
    unfold isH
    rw [decide_eq_true g2, decide_eq_true g3]; rfl
  obtain ⟨k1, k2⟩ := mvS_at (d := d) hh (by omega) 6 (by omega) (by omega)
  unfold f_Course_goesBy_L29 f_Course_goesBy_L67 f_Course_goesBy_L90
  rw [fc_headOf hv ha, Option.bind_some, fc_massOf hv g2, Option.bind_some, fc_xOf hv g2, fc_yOf hv g2, Option.bind_some, Option.bind_some, g3, m3, of_1, jmax_mass m1 m2, ix_nI (n := 6) (k := hdS (s.1 21 0) a) (by omega) (by omega), of_999, Option.bind_some, Option.bind_some, Option.bind_some, Option.bind_some, clp_held, clp_held, clp_held, clp_held, k1, k2, d1, d2, m3]
  have hm : ¬ nI m = 0 := fun z => by
    have := (nI_eq (by omega) (by omega)).mp (z.trans nI_0.symm)
    omega
  rw [if_neg hm, if_neg hm]
  rcases (show c = 0 ∨ c = 1 by omega) with rfl | rfl
  · rw [if_pos nI_0, if_pos nI_0, if_pos rfl]
  · rw [if_neg (show ¬ nI 1 = 0 by decide), if_neg (show ¬ nI 1 = 0 by decide)]
    first | rfl | (rw [if_neg hm]; rfl)
end
