/-! ===== drift ===== -/
section
variable {I T B R : Nat} {W : Option WF6} {s s' s0 : S2} {w v : Nat → Int32}
theorem KD_KS {c i k : Nat} (h : KS c i k = false) : KD c i k = false := (Bool.or_eq_false_iff.mp (KP2_KS h)).1
theorem fc_goes {a c : Nat} (hv : VS I (s.1 21 0)) (hX : CX I T B W onA xN 0 w s) (ha : a < I) (hc : c ≤ 1) : ∃ s', f_Course_goesBy 0 (nI a) (nI c) s = some (s', if c = 0 then mvS I (s.1 21 0) (drS I T W (s.1 21 0) w onA xN 0) 6 (hdS (s.1 21 0) a) - s.1 21 0 (hdS (s.1 21 0) a) else mvS I (s.1 21 0) (drS I T W (s.1 21 0) w onA xN 0) 6 (6 + hdS (s.1 21 0) a) - s.1 21 0 (6 + hdS (s.1 21 0) a)) ∧ Fr KD s s' := by
  obtain ⟨s1, a1, a2, a3⟩ := fc_drawByTies hv hX
  have hX1 := CX_KD hX a3
  have e1 : s1.1 21 0 = s.1 21 0 := a3.arr fun _ => rfl
  unfold f_Course_goesBy f_Course_doesTradePull
  rw [a1, Option.bind_some, of_2, fc_ofWater (by omega), Option.bind_some, hX1.2.1, of_1]
  by_cases h2 : w 2 = nI 1
  · rw [if_pos h2, Option.bind_some, if_neg (by decide)]
    obtain ⟨s2, b1, b2, b3⟩ := fc_trade (s := s1) (r := 1) (i := 0) (I := I) (T := T) (B := B) (w := w) (by rw [e1]; exact hv) ⟨hX1.1, hX1.2.1, hX1.2.2.1⟩
    have F2 : Fr KD s1 s2 := b3.mono fun c j k h => by
      unfold KD at h
      unfold KT
      simp only [Bool.or_eq_false_iff, Bool.and_eq_false_iff, beq_eq_false_iff_ne] at h ⊢
      omega
    have hX2 := CX_KD hX1 F2
    have e2 : s2.1 21 0 = s.1 21 0 := (F2.arr fun _ => rfl).trans e1
    rw [e1] at b2
    rw [b1, Option.bind_some]
    obtain ⟨s3, c1, c2, c3⟩ := fc_drawByTrade (s := s2) (i := 0) (am := (trS I w (s.1 21 0) I).1) (d := dtS W (s.1 21 0) w T onA xN 0) (by rw [e2]; exact hv) (by rw [e2]; exact trS_AV hv.1 I (Nat.le_refl I)) hX2 b2.1 (fun k hk => by
      have q1 : s2.1 33 0 k = s1.1 33 0 k := b3.1 _ _ _ (KT_ne (by omega))
      have q2 : s2.1 34 0 k = s1.1 34 0 k := b3.1 _ _ _ (KT_ne (by omega))
      rw [q1, q2]; exact a2 k hk)
    rw [e2] at c2
    have e3 : s3.1 21 0 = s.1 21 0 := (c3.arr fun _ => rfl).trans e2
    have := fc_goesL (I := I) (s := s3) (d := drS I T W (s.1 21 0) w onA xN 0) (a := a) (c := c) (by rw [e3]; exact hv) (by unfold drS; rw [if_pos h2]; exact c2) ha hc
    rw [e3] at this
    rw [c1, Option.bind_some, this]
    exact ⟨s3, rfl, (a3.trans F2).trans c3⟩
  · rw [if_neg h2, Option.bind_some, if_pos (by decide)]
    have := fc_goesL (I := I) (s := s1) (d := drS I T W (s.1 21 0) w onA xN 0) (a := a) (c := c) (by rw [e1]; exact hv) (by unfold drS; rw [if_neg h2]; exact a2) ha hc
    rw [e1] at this
    rw [this]
    exact ⟨s1, rfl, a3⟩
theorem q_drift (h : INV I T B R W s) (x y : Int32) : ∃ s1 r s2, f_D_drift x y s = some (s1, r) ∧ f_M_drift x y s1 = some (s2, r) ∧ INV I T B R W s2 := by
  have h6 := h.1.2.2.1.1.1
  have hv := h.1.2.2.2.2.1
  unfold f_D_drift
  rw [(v_isle h x).1, g_D_isWithin_eq, show Int32.ofInt 0 = nI 0 from of_0, of_1]
  cases c1 : inS x 0 (nI I - nI 1) with
  | false => exact ⟨s, _, s, by rw [ifF], by unfold f_M_drift; rw [(v_isle h x).2, c1, ifF], h⟩
  | true =>
    cases c2 : inS y (nI 0) (nI 1) with
    | false => exact ⟨s, _, s, by rw [ifT, ifF], by unfold f_M_drift; rw [(v_isle h x).2, c1, ifT, g_M_in_eq, show Int32.ofInt 0 = nI 0 from of_0, of_1, c2, ifF], h⟩
    | true =>
      obtain ⟨a, a1, rfl⟩ := inS_nI c1 (by omega)
      obtain ⟨c, -, k2, rfl⟩ := inS_lit c2 (by omega) (by omega)
      obtain ⟨g1, g2, g3⟩ := hv.2.1 a a1
      have F1 : Fr KS s (pkS (pkS s 31 0 12 (nI 255)) 31 0 13 0) := ((Fr.refl _ s).pk' _ rfl).pk' _ rfl
      have hX := CX_told h F1 (by rw [pkS_v, if_neg (by omega), pkS_v, if_pos ⟨rfl, rfl, rfl⟩]) (by rw [pkS_v, if_pos ⟨rfl, rfl, rfl⟩])
      have e21 : (pkS (pkS s 31 0 12 (nI 255)) 31 0 13 0).1 21 0 = s.1 21 0 := by rw [pkS_1, if_neg (by omega), pkS_1, if_neg (by omega)]
      obtain ⟨s1, p1, p2⟩ := fc_goes (a := a) (c := c) (by rw [e21]; exact hv) hX a1 k2
      rw [e21] at p1
      have F2 : Fr KS s s1 := F1.trans (p2.mono fun _ _ _ => KD_KS)
      have h3 := INV_KS h F2
      have x21 : s1.1 21 0 = s.1 21 0 := F2.arr fun _ => rfl
      have x14 : s1.1 14 0 = s.1 14 0 := F2.arr fun _ => rfl
      obtain ⟨t1, u1, u2, u3⟩ := fm_begin (v := s.1 21 0) h3 (by rw [x21]; exact fun _ _ => rfl)
      rw [x14] at u2
      have hr1 : RS I T B (s.1 21 0) t1 := u2.2.1
      obtain ⟨t2, w1, w2, w3, w4, w5⟩ := fm_goAll hv u2.1 hr1
      obtain ⟨t3, y1, y2⟩ := fm_end (v := s.1 21 0) h3 (by rw [x21]; exact fun _ _ => rfl) (u3.trans (w5.mono fun _ _ _ => MP_MS)) (SV_fr u2.2.2 (w5.arr fun _ => rfl))
      obtain ⟨z1, z2⟩ := w4 _ g2
      obtain ⟨r1, r2, -⟩ := w2.1 _ g2
      refine ⟨s1, if c = 0 then mvS I (s.1 21 0) (drS I T W (s.1 21 0) (s.1 14 0) onA xN 0) 6 (hdS (s.1 21 0) a) - s.1 21 0 (hdS (s.1 21 0) a) else mvS I (s.1 21 0) (drS I T W (s.1 21 0) (s.1 14 0) onA xN 0) 6 (6 + hdS (s.1 21 0) a) - s.1 21 0 (6 + hdS (s.1 21 0) a), t3, ?_, ?_, y2⟩
      · rw [ifT, ifT]
        unfold f_Course_drawByTold
        rw [of_255, of_0, Option.bind_some, Option.bind_some, Option.bind_some, p1]
        rfl
      · unfold f_M_drift f_M_drift_L69
        rw [(v_isle h3 (nI a)).2, c1, ifT, g_M_in_eq, show Int32.ofInt 0 = nI 0 from of_0, of_1, c2, ifT, u1, Option.bind_some, ix_nI (n := 6) (k := a) (by omega) (by omega), Option.bind_some, w1, Option.bind_some, RS_hd hv hr1 a1, ix_nI (n := 6) (k := hdS (s.1 21 0) a) (by omega) (by omega), Option.bind_some, Option.bind_some, Option.bind_some, Option.bind_some, y1, Option.bind_some, Option.bind_some, z1, z2, ← r1, ← r2]
        rcases (show c = 0 ∨ c = 1 by omega) with rfl | rfl
        · rw [if_pos nI_0, if_pos rfl]
        · rw [if_neg (show ¬ nI 1 = 0 by decide)]; rfl
end
