/-! ===== the law's loop ===== -/
section
variable {xs : Nat → Int32} {L : Nat} {P : MK S2} {QL : S2 → Option MV → Prop}
/-- every checked piece of the law's body is run as the machine runs it -/
abbrev LPc (xs : Nat → Int32) (L : Nat) (P : MK S2) (QL : S2 → Option MV → Prop) : Prop := ∀ (cd : MC) (ws : List Nat), cchk "DriftSeaLaw" false code cd ws = true → MClosed (O3 xs L) (kcall (O3 xs L) DD) cd 1 QL P
/-- the helper's call -/
abbrev HC4 (P : MK S2) : Prop := ∀ (lv : ML) (a c k : Int32) (s s1 : S2) (b : Nat × Nat), 1 ≤ b.1 → 6 ≤ b.2 → ((∃ r, f_D_isle a c s = some r ∧ s1 = (s.1, uJ s.2 55 r.toInt64) ∧ k = Int32.ofInt 0) ∨ (badI a c s ∧ s1 = s ∧ k = Int32.ofInt 1)) → lv.length = 7 → mlg lv 3 = some (mR 55 0) → P 401 lv [mI k] s1 (b.1 - 1, b.2 - 6) → P 398 lv [mR 55 0, mI c, mI a, mR 10 0] s b
theorem lw_over {L t : Nat} (hL : L < 2 ^ 30) (h : L < 7 * t + 7) (ht : 7 * t < 2 ^ 30) : nI L - Int32.ofInt 7 < nI (7 * t) := by
  rw [of_7, Int32.lt_iff_toInt_lt]
  have e1 : (nI L - nI 7).toInt = (L : Int) - 7 := by
    rw [Int32.toInt_sub, nI_toInt (by omega), nI_toInt (by omega)]
    show ((L : Int) - 7).bmod (2 ^ 32) = _
    exact Int.bmod_eq_of_le (by omega) (by omega)
  rw [e1, nI_toInt (by omega)]
  omega
theorem uJ_55 {J : Nat → Int64} {x : Int64} : uJ J 55 x 55 = x := by
  unfold uJ
  rfl
theorem isle_J (a b : Int32) (s : S2) (J : Nat → Int64) : f_D_isle a b (s.1, J) = f_D_isle a b s := rfl
theorem INV_J {I T B R : Nat} {W : Option WF6} {s : S2} (h : INV I T B R W s) (J : Nat → Int64) : INV I T B R W (s.1, J) := h
set_option maxRecDepth 20000 in
set_option maxHeartbeats 4000000 in
theorem lc_4 {t : Nat} {I T B R : Nat} {W : Option WF6} {s : S2} {l5 l6 : Option MV} {b : Nat × Nat} (hP : MClosed (O3 xs L) (kcall (O3 xs L) DD) kd_L_4 1 QL P) (h4 : HC4 P) (ht : 7 * t + 7 ≤ L) (h : INV I T B R W s) (b1 : 1 ≤ b.1) (b2 : 6 ≤ b.2) (hk : ∀ l5 l6, LK P t l5 l6 (b.1 - 1, b.2 - 6)) : P 384 (LV t l5 l6) [] s b := by
  refine mgo_from hP [398] 200 ?_
  refine go_ix (7 * t + 1) (by omega) (ixk of_1) ?_
  refine go_ix (7 * t + 2) (by omega) (ixk of_2) ?_
  cases c : (inS (xs (7 * t + 1)) 0 (nI I - nI 1) && inS (xs (7 * t + 2)) 0 (nI 9)) with
  | true =>
    obtain ⟨r, e1, -⟩ := q_isle_ok h _ _ c
    obtain ⟨r', f1, f2⟩ := q_isle_ok (INV_J h (uJ s.2 55 r.toInt64)) _ _ c
    rw [isle_J, e1] at f1
    cases f1
    refine h4 (LV t l5 l6) (xs (7 * t + 1)) (xs (7 * t + 2)) (Int32.ofInt 0) s (s.1, uJ s.2 55 r.toInt64) b b1 b2 (Or.inl ⟨r, e1, rfl, rfl⟩) rfl rfl ?_
    refine mgo_from hP [1954] 200 ?_
    refine go_ix (7 * t + 1) (by omega) (ixk of_1) ?_
    refine go_ix (7 * t + 2) (by omega) (ixk of_2) ?_
    refine go_call (fun _ hw => c_M_isle f2 hw) ?_
    refine go_call (fun _ hw => c_M_thrown hw) ?_
    refine go_br (fun _ => ?_) (fun hc => absurd (show g_M_thrown (pkS (s.1, uJ s.2 55 r.toInt64) 60 0 0 0) = Int32.ofInt 0 by unfold g_M_thrown; rw [pkS_v, if_pos ⟨rfl, rfl, rfl⟩]; rfl) hc)
    refine go_brn (fun hc => absurd rfl hc) (fun _ => ?_)
    refine go_ix 0 (by omega) rfl ?_
    refine go_br (fun _ => ?_) (fun hc => absurd (show lg_cmp (uJ s.2 55 r.toInt64 55) r.toInt64 = 0 by rw [uJ_55]; unfold lg_cmp; simp) hc)
    exact hk _ _ _ _ _ _ _ _ (INV_60_0 (INV_J h _) _)
  | false =>
    obtain ⟨e1, e2⟩ := q_isle_no h _ _ c
    refine h4 (LV t l5 l6) (xs (7 * t + 1)) (xs (7 * t + 2)) (Int32.ofInt 1) s s b b1 b2 (Or.inr ⟨?_, rfl, rfl⟩) rfl rfl ?_
    · show bI (g_D_isIsle _ s) = 0 ∨ bI (g_D_isWithin _ _ _ s) = 0
      rw [(v_isle h _).1, g_D_isWithin_eq, of_0, of_9]
      cases c1 : inS (xs (7 * t + 1)) 0 (nI I - nI 1) with
      | false => exact Or.inl rfl
      | true =>
        rw [c1, Bool.true_and] at c
        rw [c]
        exact Or.inr rfl
    refine mgo_from hP [1954] 200 ?_
    refine go_ix (7 * t + 1) (by omega) (ixk of_1) ?_
    refine go_ix (7 * t + 2) (by omega) (ixk of_2) ?_
    refine go_call (fun _ hw => c_M_isle e2 hw) ?_
    refine go_call (fun _ hw => c_M_thrown hw) ?_
    refine go_br (fun _ => ?_) (fun hc => absurd (show g_M_thrown (pkS s 60 0 0 (nI 1)) = Int32.ofInt 1 by unfold g_M_thrown; rw [pkS_v, if_pos ⟨rfl, rfl, rfl⟩]; exact of_1.symm) hc)
    refine go_brn (fun _ => ?_) (fun hc => absurd (show Int32.ofInt 1 = 0 from hc) (by decide))
    exact hk _ _ _ _ _ _ _ _ (INV_60_0 h _)
set_option maxRecDepth 20000 in
set_option maxHeartbeats 8000000 in
theorem law_loop (hP : LPc xs L P QL) (h4 : HC4 P) (hL : L ≤ 3584) (hend : ∀ (lv : ML) (s : S2) (b : Nat × Nat), lv.length = 7 → P 1961 lv [mI (Int32.ofInt 1)] s b) : ∀ (n t I T B R : Nat) (W : Option WF6) (s : S2) (l5 l6 : Option MV) (b : Nat × Nat), INV I T B R W s → 7 * t ≤ L + 7 → L < 7 * (t + n) + 7 → n ≤ b.1 → 6 * n ≤ b.2 → P 23 (LV t l5 l6) [] s b := by
  have hover : ∀ (t : Nat) (s : S2) (l5 l6 : Option MV) (b : Nat × Nat), 7 * t ≤ L + 7 → L < 7 * t + 7 → P 23 (LV t l5 l6) [] s b := by
    intro t s l5 l6 b h1 h2
    refine mgo_from (hP _ _ ck_L_b) [236, 309, 334, 359, 384, 452, 489, 526, 563, 588, 613, 650, 687, 712, 781, 794, 831, 880, 917, 954, 979, 1004, 1041, 1078, 1127, 1152, 1189, 1238, 1299, 1324, 1385, 1434, 1495, 1582, 1643, 1668, 1693, 1730, 1755, 1804, 1841, 1878, 1903, 1916, 1929, 1954, 1960] 200 ?_
    refine go_br (fun _ => ?_) (fun hc => absurd ?_ hc)
    · refine mgo_from (hP _ _ ck_L_c) [1961] 200 ?_
      exact hend _ _ _ rfl
    · show nI L - Int32.ofInt 7 < nI (7 * t)
      exact lw_over (by omega) (by omega) (by omega)
  intro n
  induction n with
  | zero => exact fun t I T B R W s l5 l6 b h h0 hn hb1 hb2 => hover t s l5 l6 b h0 (by omega)
  | succ n ih =>
    intro t I T B R W s l5 l6 b h h0 hn hb1 hb2
    rcases Nat.lt_or_ge L (7 * t + 7) with w | ht
    · exact hover t s l5 l6 b h0 w
    have hk0 : ∀ (l5 l6 : Option MV) (b' : Nat × Nat), n ≤ b'.1 → 6 * n ≤ b'.2 → LK P t l5 l6 b' := by
      intro l5 l6 b' c1 c2 I T B R W s h
      refine mgo_from (hP _ _ ck_L_c) [23] 200 ?_
      show P 23 [some (mR 5 0), some (mR 10 0), some (mR 60 0), some (mR 55 0), some (mI (nI (7 * t) + Int32.ofInt 7)), l5, l6] [] s b'
      rw [ixk of_7, show 7 * t + 7 = 7 * (t + 1) by omega]
      exact ih (t + 1) I T B R W s l5 l6 b' h (by omega) (by omega) c1 c2
    have hk : LK P t l5 l6 b := hk0 l5 l6 b (by omega) (by omega)
    refine mgo_from (hP _ _ ck_L_b) [236, 309, 334, 359, 384, 452, 489, 526, 563, 588, 613, 650, 687, 712, 781, 794, 831, 880, 917, 954, 979, 1004, 1041, 1078, 1127, 1152, 1189, 1238, 1299, 1324, 1385, 1434, 1495, 1582, 1643, 1668, 1693, 1730, 1755, 1804, 1841, 1878, 1903, 1916, 1929, 1954, 1960] 200 ?_
    refine go_br (fun _ => ?_) (fun hc => ?_)
    · refine mgo_from (hP _ _ ck_L_c) [1961] 200 ?_
      exact hend _ _ _ rfl
    refine go_ix (7 * t) (by omega) rfl ?_
    have q0 : P 236 (LV t l5 l6) [] s b := lc_0 (hP _ _ ck_L_0) ht h hk
    refine go_br (fun _ => q0) (fun _ => ?_)
    have q1 : P 309 (LV t l5 l6) [] s b := lc_1 (hP _ _ ck_L_1) ht h hk
    refine go_br (fun _ => q1) (fun _ => ?_)
    have q2 : P 334 (LV t l5 l6) [] s b := lc_2 (hP _ _ ck_L_2) ht h hk
    refine go_br (fun _ => q2) (fun _ => ?_)
    have q3 : P 359 (LV t l5 l6) [] s b := lc_3 (hP _ _ ck_L_3) ht h hk
    refine go_br (fun _ => q3) (fun _ => ?_)
    have q4 : P 384 (LV t l5 l6) [] s b := lc_4 (hP _ _ ck_L_4) h4 ht h (by omega) (by omega) (fun l5 l6 => hk0 l5 l6 (b.1 - 1, b.2 - 6) (by show n ≤ b.1 - 1; omega) (by show 6 * n ≤ b.2 - 6; omega))
    refine go_br (fun _ => q4) (fun _ => ?_)
    have q5 : P 452 (LV t l5 l6) [] s b := lc_5 (hP _ _ ck_L_5) ht h hk
    refine go_br (fun _ => q5) (fun _ => ?_)
    have q6 : P 489 (LV t l5 l6) [] s b := lc_6 (hP _ _ ck_L_6) ht h hk
    refine go_br (fun _ => q6) (fun _ => ?_)
    have q7 : P 526 (LV t l5 l6) [] s b := lc_7 (hP _ _ ck_L_7) ht h hk
    refine go_br (fun _ => q7) (fun _ => ?_)
    have q8 : P 563 (LV t l5 l6) [] s b := lc_8 (hP _ _ ck_L_8) ht h hk
    refine go_br (fun _ => q8) (fun _ => ?_)
    have q9 : P 588 (LV t l5 l6) [] s b := lc_9 (hP _ _ ck_L_9) ht h hk
    refine go_br (fun _ => q9) (fun _ => ?_)
    have q10 : P 613 (LV t l5 l6) [] s b := lc_10 (hP _ _ ck_L_10) ht h hk
    refine go_br (fun _ => q10) (fun _ => ?_)
    have q11 : P 650 (LV t l5 l6) [] s b := lc_11 (hP _ _ ck_L_11) ht h hk
    refine go_br (fun _ => q11) (fun _ => ?_)
    have q12 : P 687 (LV t l5 l6) [] s b := lc_12 (hP _ _ ck_L_12) ht h hk
    refine go_br (fun _ => q12) (fun _ => ?_)
    have q13 : P 712 (LV t l5 l6) [] s b := lc_13 (hP _ _ ck_L_13) ht h hk
    refine go_br (fun _ => q13) (fun _ => ?_)
    have q14 : P 781 (LV t l5 l6) [] s b := lc_14 (hP _ _ ck_L_14) ht h hk
    refine go_br (fun _ => q14) (fun _ => ?_)
    have q15 : P 794 (LV t l5 l6) [] s b := lc_15 (hP _ _ ck_L_15) ht h hk
    refine go_br (fun _ => q15) (fun _ => ?_)
    have q16 : P 831 (LV t l5 l6) [] s b := lc_16 (hP _ _ ck_L_16) ht h hk
    refine go_br (fun _ => q16) (fun _ => ?_)
    have q17 : P 880 (LV t l5 l6) [] s b := lc_17 (hP _ _ ck_L_17) ht h hk
    refine go_br (fun _ => q17) (fun _ => ?_)
    have q18 : P 917 (LV t l5 l6) [] s b := lc_18 (hP _ _ ck_L_18) ht h hk
    refine go_br (fun _ => q18) (fun _ => ?_)
    have q19 : P 954 (LV t l5 l6) [] s b := lc_19 (hP _ _ ck_L_19) ht h hk
    refine go_br (fun _ => q19) (fun _ => ?_)
    have q20 : P 979 (LV t l5 l6) [] s b := lc_20 (hP _ _ ck_L_20) ht h hk
    refine go_br (fun _ => q20) (fun _ => ?_)
    have q21 : P 1004 (LV t l5 l6) [] s b := lc_21 (hP _ _ ck_L_21) ht h hk
    refine go_br (fun _ => q21) (fun _ => ?_)
    have q22 : P 1041 (LV t l5 l6) [] s b := lc_22 (hP _ _ ck_L_22) ht h hk
    refine go_br (fun _ => q22) (fun _ => ?_)
    have q23 : P 1078 (LV t l5 l6) [] s b := lc_23 (hP _ _ ck_L_23) ht h hk
    refine go_br (fun _ => q23) (fun _ => ?_)
    have q24 : P 1127 (LV t l5 l6) [] s b := lc_24 (hP _ _ ck_L_24) ht h hk
    refine go_br (fun _ => q24) (fun _ => ?_)
    have q25 : P 1152 (LV t l5 l6) [] s b := lc_25 (hP _ _ ck_L_25) ht h hk
    refine go_br (fun _ => q25) (fun _ => ?_)
    have q26 : P 1189 (LV t l5 l6) [] s b := lc_26 (hP _ _ ck_L_26) ht h hk
    refine go_br (fun _ => q26) (fun _ => ?_)
    have q27 : P 1238 (LV t l5 l6) [] s b := lc_27 (hP _ _ ck_L_27) ht h hk
    refine go_br (fun _ => q27) (fun _ => ?_)
    have q28 : P 1299 (LV t l5 l6) [] s b := lc_28 (hP _ _ ck_L_28) ht h hk
    refine go_br (fun _ => q28) (fun _ => ?_)
    have q29 : P 1324 (LV t l5 l6) [] s b := lc_29 (hP _ _ ck_L_29) ht h hk
    refine go_br (fun _ => q29) (fun _ => ?_)
    have q30 : P 1385 (LV t l5 l6) [] s b := lc_30 (hP _ _ ck_L_30) ht h hk
    refine go_br (fun _ => q30) (fun _ => ?_)
    have q31 : P 1434 (LV t l5 l6) [] s b := lc_31 (hP _ _ ck_L_31) ht h hk
    refine go_br (fun _ => q31) (fun _ => ?_)
    have q32 : P 1495 (LV t l5 l6) [] s b := lc_32 (hP _ _ ck_L_32) ht h hk
    refine go_br (fun _ => q32) (fun _ => ?_)
    have q33 : P 1582 (LV t l5 l6) [] s b := lc_33 (hP _ _ ck_L_33) ht h hk
    refine go_br (fun _ => q33) (fun _ => ?_)
    have q34 : P 1643 (LV t l5 l6) [] s b := lc_34 (hP _ _ ck_L_34) ht h hk
    refine go_br (fun _ => q34) (fun _ => ?_)
    have q35 : P 1668 (LV t l5 l6) [] s b := lc_35 (hP _ _ ck_L_35) ht h hk
    refine go_br (fun _ => q35) (fun _ => ?_)
    have q36 : P 1693 (LV t l5 l6) [] s b := lc_36 (hP _ _ ck_L_36) ht h hk
    refine go_br (fun _ => q36) (fun _ => ?_)
    have q37 : P 1730 (LV t l5 l6) [] s b := lc_37 (hP _ _ ck_L_37) ht h hk
    refine go_br (fun _ => q37) (fun _ => ?_)
    have q38 : P 1755 (LV t l5 l6) [] s b := lc_38 (hP _ _ ck_L_38) ht h hk
    refine go_br (fun _ => q38) (fun _ => ?_)
    have q39 : P 1804 (LV t l5 l6) [] s b := lc_39 (hP _ _ ck_L_39) ht h hk
    refine go_br (fun _ => q39) (fun _ => ?_)
    have q40 : P 1841 (LV t l5 l6) [] s b := lc_40 (hP _ _ ck_L_40) ht h hk
    refine go_br (fun _ => q40) (fun _ => ?_)
    have q41 : P 1878 (LV t l5 l6) [] s b := lc_41 (hP _ _ ck_L_41) ht h hk
    refine go_br (fun _ => q41) (fun _ => ?_)
    have q42 : P 1903 (LV t l5 l6) [] s b := lc_42 (hP _ _ ck_L_42) ht h hk
    refine go_br (fun _ => q42) (fun _ => ?_)
    have q43 : P 1916 (LV t l5 l6) [] s b := lc_43 (hP _ _ ck_L_43) ht h hk
    refine go_br (fun _ => q43) (fun _ => ?_)
    have q44 : P 1929 (LV t l5 l6) [] s b := lc_44 (hP _ _ ck_L_44) ht h hk
    refine go_br (fun _ => q44) (fun _ => ?_)
    exact hk _ _ _ _ _ _ h
end
