/-! ===== the law's calls, one by one ===== -/
/-- how deep calls go -/
abbrev DD : Nat := 400
theorem ixk {a k : Nat} {z : Int} (h : Int32.ofInt z = nI k) : nI a + Int32.ofInt z = nI (a + k) := by
  rw [h]
  exact nI_add a k
/-- the law's locals -/
abbrev LV (t : Nat) (l5 l6 : Option MV) : ML := [some (mR 5 0), some (mR 10 0), some (mR 60 0), some (mR 55 0), some (mI (nI (7 * t))), l5, l6]
/-- behind a call -/
abbrev LK (P : MK S2) (t : Nat) (l5 l6 : Option MV) (b : Nat × Nat) : Prop := ∀ (I T B R : Nat) (W : Option WF6) (s : S2), INV I T B R W s → P 1954 (LV t l5 l6) [] s b
section
variable {xs : Nat → Int32} {L t : Nat} {P : MK S2} {QL : S2 → Option MV → Prop} {I T B R : Nat} {W : Option WF6} {s : S2} {l5 l6 : Option MV}
set_option maxRecDepth 20000 in
set_option maxHeartbeats 4000000 in
theorem lc_0 {b : Nat × Nat} (hP : MClosed (O3 xs L) (kcall (O3 xs L) DD) kd_L_0 1 QL P) (ht : 7 * t + 7 ≤ L) (h : INV I T B R W s) (hk : LK P t l5 l6 b) : P 236 (LV t l5 l6) [] s b := by
  obtain ⟨s1, r, s2, e1, e2, h2⟩ := q_feed h (xs (7 * t + 1)) (xs (7 * t + 2)) (xs (7 * t + 3)) (xs (7 * t + 4)) (xs (7 * t + 5))
  refine mgo_from hP [1954] 200 ?_
  refine go_ix (7 * t + 1) (by omega) (ixk of_1) ?_
  refine go_ix (7 * t + 2) (by omega) (ixk of_2) ?_
  refine go_ix (7 * t + 3) (by omega) (ixk of_3) ?_
  refine go_ix (7 * t + 4) (by omega) (ixk of_4) ?_
  refine go_ix (7 * t + 5) (by omega) (ixk of_5) ?_
  refine go_call (fun _ hw => c_D_feed e1 hw) ?_
  refine go_ix (7 * t + 1) (by omega) (ixk of_1) ?_
  refine go_ix (7 * t + 2) (by omega) (ixk of_2) ?_
  refine go_ix (7 * t + 3) (by omega) (ixk of_3) ?_
  refine go_ix (7 * t + 4) (by omega) (ixk of_4) ?_
  refine go_ix (7 * t + 5) (by omega) (ixk of_5) ?_
  refine go_call (fun _ hw => c_M_feed e2 hw) ?_
  refine go_br (fun _ => ?_) (fun hc => absurd rfl hc)
  exact hk _ _ _ _ _ _ h2
set_option maxRecDepth 20000 in
set_option maxHeartbeats 4000000 in
theorem lc_1 {b : Nat × Nat} (hP : MClosed (O3 xs L) (kcall (O3 xs L) DD) kd_L_1 1 QL P) (ht : 7 * t + 7 ≤ L) (h : INV I T B R W s) (hk : LK P t l5 l6 b) : P 309 (LV t l5 l6) [] s b := by
  obtain ⟨s1, r, s2, e1, e2, h2⟩ := q_end h (xs (7 * t + 1))
  refine mgo_from hP [1954] 200 ?_
  refine go_ix (7 * t + 1) (by omega) (ixk of_1) ?_
  refine go_call (fun _ hw => c_D_end e1 hw) ?_
  refine go_ix (7 * t + 1) (by omega) (ixk of_1) ?_
  refine go_call (fun _ hw => c_M_end e2 hw) ?_
  refine go_br (fun _ => ?_) (fun hc => absurd rfl hc)
  exact hk _ _ _ _ _ _ h2
set_option maxRecDepth 20000 in
set_option maxHeartbeats 4000000 in
theorem lc_2 {b : Nat × Nat} (hP : MClosed (O3 xs L) (kcall (O3 xs L) DD) kd_L_2 1 QL P) (ht : 7 * t + 7 ≤ L) (h : INV I T B R W s) (hk : LK P t l5 l6 b) : P 334 (LV t l5 l6) [] s b := by
  obtain ⟨s1, r, s2, e1, e2, h2⟩ := q_fault (xs (7 * t + 1)) h
  refine mgo_from hP [1954] 200 ?_
  refine go_ix (7 * t + 1) (by omega) (ixk of_1) ?_
  refine go_call (fun _ hw => c_D_fault e1 hw) ?_
  refine go_ix (7 * t + 1) (by omega) (ixk of_1) ?_
  refine go_call (fun _ hw => c_M_fault e2 hw) ?_
  refine go_br (fun _ => ?_) (fun hc => absurd rfl hc)
  exact hk _ _ _ _ _ _ h2
set_option maxRecDepth 20000 in
set_option maxHeartbeats 4000000 in
theorem lc_3 {b : Nat × Nat} (hP : MClosed (O3 xs L) (kcall (O3 xs L) DD) kd_L_3 1 QL P) (ht : 7 * t + 7 ≤ L) (h : INV I T B R W s) (hk : LK P t l5 l6 b) : P 359 (LV t l5 l6) [] s b := by
  obtain ⟨s1, r, s2, I2, T2, B2, R2, e1, e2, h2⟩ := q_text (xs (7 * t + 1)) h
  refine mgo_from hP [1954] 200 ?_
  refine go_ix (7 * t + 1) (by omega) (ixk of_1) ?_
  refine go_call (fun _ hw => c_D_text e1 hw) ?_
  refine go_ix (7 * t + 1) (by omega) (ixk of_1) ?_
  refine go_call (fun _ hw => c_M_text e2 hw) ?_
  refine go_br (fun _ => ?_) (fun hc => absurd rfl hc)
  exact hk _ _ _ _ _ _ h2
set_option maxRecDepth 20000 in
set_option maxHeartbeats 4000000 in
theorem lc_5 {b : Nat × Nat} (hP : MClosed (O3 xs L) (kcall (O3 xs L) DD) kd_L_5 1 QL P) (ht : 7 * t + 7 ≤ L) (h : INV I T B R W s) (hk : LK P t l5 l6 b) : P 452 (LV t l5 l6) [] s b := by
  obtain ⟨s1, r, s2, e1, e2, h2⟩ := q_tie h (xs (7 * t + 1)) (xs (7 * t + 2))
  refine mgo_from hP [1954] 200 ?_
  refine go_ix (7 * t + 1) (by omega) (ixk of_1) ?_
  refine go_ix (7 * t + 2) (by omega) (ixk of_2) ?_
  refine go_call (fun _ hw => c_D_tie e1 hw) ?_
  refine go_ix (7 * t + 1) (by omega) (ixk of_1) ?_
  refine go_ix (7 * t + 2) (by omega) (ixk of_2) ?_
  refine go_call (fun _ hw => c_M_tie e2 hw) ?_
  refine go_br (fun _ => ?_) (fun hc => absurd rfl hc)
  exact hk _ _ _ _ _ _ h2
set_option maxRecDepth 20000 in
set_option maxHeartbeats 4000000 in
theorem lc_6 {b : Nat × Nat} (hP : MClosed (O3 xs L) (kcall (O3 xs L) DD) kd_L_6 1 QL P) (ht : 7 * t + 7 ≤ L) (h : INV I T B R W s) (hk : LK P t l5 l6 b) : P 489 (LV t l5 l6) [] s b := by
  obtain ⟨r, e1, e2⟩ := q_bridge h (xs (7 * t + 1)) (xs (7 * t + 2))
  refine mgo_from hP [1954] 200 ?_
  refine go_ix (7 * t + 1) (by omega) (ixk of_1) ?_
  refine go_ix (7 * t + 2) (by omega) (ixk of_2) ?_
  refine go_call (fun _ hw => c_D_bridge e1 hw) ?_
  refine go_ix (7 * t + 1) (by omega) (ixk of_1) ?_
  refine go_ix (7 * t + 2) (by omega) (ixk of_2) ?_
  refine go_call (fun _ hw => c_M_bridge e2 hw) ?_
  refine go_br (fun _ => ?_) (fun hc => absurd rfl hc)
  exact hk _ _ _ _ _ _ h
set_option maxRecDepth 20000 in
set_option maxHeartbeats 4000000 in
theorem lc_7 {b : Nat × Nat} (hP : MClosed (O3 xs L) (kcall (O3 xs L) DD) kd_L_7 1 QL P) (ht : 7 * t + 7 ≤ L) (h : INV I T B R W s) (hk : LK P t l5 l6 b) : P 526 (LV t l5 l6) [] s b := by
  obtain ⟨r, e1, e2⟩ := q_far h (xs (7 * t + 1)) (xs (7 * t + 2))
  refine mgo_from hP [1954] 200 ?_
  refine go_ix (7 * t + 1) (by omega) (ixk of_1) ?_
  refine go_ix (7 * t + 2) (by omega) (ixk of_2) ?_
  refine go_call (fun _ hw => c_D_far e1 hw) ?_
  refine go_ix (7 * t + 1) (by omega) (ixk of_1) ?_
  refine go_ix (7 * t + 2) (by omega) (ixk of_2) ?_
  refine go_call (fun _ hw => c_M_far e2 hw) ?_
  refine go_br (fun _ => ?_) (fun hc => absurd rfl hc)
  exact hk _ _ _ _ _ _ h
set_option maxRecDepth 20000 in
set_option maxHeartbeats 4000000 in
theorem lc_8 {b : Nat × Nat} (hP : MClosed (O3 xs L) (kcall (O3 xs L) DD) kd_L_8 1 QL P) (ht : 7 * t + 7 ≤ L) (h : INV I T B R W s) (hk : LK P t l5 l6 b) : P 563 (LV t l5 l6) [] s b := by
  obtain ⟨s1, r, s2, W2, e1, e2, h2⟩ := q_pull h (xs (7 * t + 1))
  refine mgo_from hP [1954] 200 ?_
  refine go_ix (7 * t + 1) (by omega) (ixk of_1) ?_
  refine go_call (fun _ hw => c_D_pull e1 hw) ?_
  refine go_ix (7 * t + 1) (by omega) (ixk of_1) ?_
  refine go_call (fun _ hw => c_M_pull e2 hw) ?_
  refine go_br (fun _ => ?_) (fun hc => absurd rfl hc)
  exact hk _ _ _ _ _ _ h2
set_option maxRecDepth 20000 in
set_option maxHeartbeats 4000000 in
theorem lc_9 {b : Nat × Nat} (hP : MClosed (O3 xs L) (kcall (O3 xs L) DD) kd_L_9 1 QL P) (ht : 7 * t + 7 ≤ L) (h : INV I T B R W s) (hk : LK P t l5 l6 b) : P 588 (LV t l5 l6) [] s b := by
  obtain ⟨s1, r, s2, e1, e2, h2⟩ := q_turn h (xs (7 * t + 1))
  refine mgo_from hP [1954] 200 ?_
  refine go_ix (7 * t + 1) (by omega) (ixk of_1) ?_
  refine go_call (fun _ hw => c_D_turn e1 hw) ?_
  refine go_ix (7 * t + 1) (by omega) (ixk of_1) ?_
  refine go_call (fun _ hw => c_M_turn e2 hw) ?_
  refine go_br (fun _ => ?_) (fun hc => absurd rfl hc)
  exact hk _ _ _ _ _ _ h2
set_option maxRecDepth 20000 in
set_option maxHeartbeats 4000000 in
theorem lc_10 {b : Nat × Nat} (hP : MClosed (O3 xs L) (kcall (O3 xs L) DD) kd_L_10 1 QL P) (ht : 7 * t + 7 ≤ L) (h : INV I T B R W s) (hk : LK P t l5 l6 b) : P 613 (LV t l5 l6) [] s b := by
  obtain ⟨s1, r, s2, e1, e2, h2⟩ := q_price h (xs (7 * t + 1)) (xs (7 * t + 2))
  refine mgo_from hP [1954] 200 ?_
  refine go_ix (7 * t + 1) (by omega) (ixk of_1) ?_
  refine go_ix (7 * t + 2) (by omega) (ixk of_2) ?_
  refine go_call (fun _ hw => c_D_price e1 hw) ?_
  refine go_ix (7 * t + 1) (by omega) (ixk of_1) ?_
  refine go_ix (7 * t + 2) (by omega) (ixk of_2) ?_
  refine go_call (fun _ hw => c_M_price e2 hw) ?_
  refine go_br (fun _ => ?_) (fun hc => absurd rfl hc)
  exact hk _ _ _ _ _ _ h2
set_option maxRecDepth 20000 in
set_option maxHeartbeats 4000000 in
theorem lc_11 {b : Nat × Nat} (hP : MClosed (O3 xs L) (kcall (O3 xs L) DD) kd_L_11 1 QL P) (ht : 7 * t + 7 ≤ L) (h : INV I T B R W s) (hk : LK P t l5 l6 b) : P 650 (LV t l5 l6) [] s b := by
  obtain ⟨s1, r, s2, e1, e2, h2⟩ := q_chance h (xs (7 * t + 1)) (xs (7 * t + 2))
  refine mgo_from hP [1954] 200 ?_
  refine go_ix (7 * t + 1) (by omega) (ixk of_1) ?_
  refine go_ix (7 * t + 2) (by omega) (ixk of_2) ?_
  refine go_call (fun _ hw => c_D_chance e1 hw) ?_
  refine go_ix (7 * t + 1) (by omega) (ixk of_1) ?_
  refine go_ix (7 * t + 2) (by omega) (ixk of_2) ?_
  refine go_call (fun _ hw => c_M_chance e2 hw) ?_
  refine go_br (fun _ => ?_) (fun hc => absurd rfl hc)
  exact hk _ _ _ _ _ _ h2
set_option maxRecDepth 20000 in
set_option maxHeartbeats 4000000 in
theorem lc_12 {b : Nat × Nat} (hP : MClosed (O3 xs L) (kcall (O3 xs L) DD) kd_L_12 1 QL P) (ht : 7 * t + 7 ≤ L) (h : INV I T B R W s) (hk : LK P t l5 l6 b) : P 687 (LV t l5 l6) [] s b := by
  obtain ⟨s1, r, s2, e1, e2, h2⟩ := q_go h (xs (7 * t + 1))
  refine mgo_from hP [1954] 200 ?_
  refine go_ix (7 * t + 1) (by omega) (ixk of_1) ?_
  refine go_call (fun _ hw => c_D_go e1 hw) ?_
  refine go_ix (7 * t + 1) (by omega) (ixk of_1) ?_
  refine go_call (fun _ hw => c_M_go e2 hw) ?_
  refine go_br (fun _ => ?_) (fun hc => absurd rfl hc)
  exact hk _ _ _ _ _ _ h2
set_option maxRecDepth 20000 in
set_option maxHeartbeats 4000000 in
theorem lc_13 {b : Nat × Nat} (hP : MClosed (O3 xs L) (kcall (O3 xs L) DD) kd_L_13 1 QL P) (ht : 7 * t + 7 ≤ L) (h : INV I T B R W s) (hk : LK P t l5 l6 b) : P 712 (LV t l5 l6) [] s b := by
  obtain ⟨s1, r, s2, e1, e2, h2⟩ := q_years h (xs (7 * t + 1)) (((xs (7 * t + 2)).toInt64 <<< ((Int32.ofInt 32).toInt64 &&& 63)) ||| ((xs (7 * t + 3)).toInt64 &&& Int64.ofInt 4294967295))
  refine mgo_from hP [1954] 200 ?_
  refine go_ix (7 * t + 1) (by omega) (ixk of_1) ?_
  refine go_ix (7 * t + 2) (by omega) (ixk of_2) ?_
  refine go_ix (7 * t + 3) (by omega) (ixk of_3) ?_
  refine go_call (fun _ hw => c_D_years e1 hw) ?_
  refine go_ix (7 * t + 1) (by omega) (ixk of_1) ?_
  refine go_ix (7 * t + 2) (by omega) (ixk of_2) ?_
  refine go_ix (7 * t + 3) (by omega) (ixk of_3) ?_
  refine go_call (fun _ hw => c_M_years e2 hw) ?_
  refine go_br (fun _ => ?_) (fun hc => absurd rfl hc)
  exact hk _ _ _ _ _ _ h2
set_option maxRecDepth 20000 in
set_option maxHeartbeats 4000000 in
theorem lc_14 {b : Nat × Nat} (hP : MClosed (O3 xs L) (kcall (O3 xs L) DD) kd_L_14 1 QL P) (ht : 7 * t + 7 ≤ L) (h : INV I T B R W s) (hk : LK P t l5 l6 b) : P 781 (LV t l5 l6) [] s b := by
  obtain ⟨s1, r, s2, e1, e2, h2⟩ := q_undo h 
  refine mgo_from hP [1954] 200 ?_
  refine go_call (fun _ hw => c_D_undo e1 hw) ?_
  refine go_call (fun _ hw => c_M_undo e2 hw) ?_
  refine go_br (fun _ => ?_) (fun hc => absurd rfl hc)
  exact hk _ _ _ _ _ _ h2
set_option maxRecDepth 20000 in
set_option maxHeartbeats 4000000 in
theorem lc_15 {b : Nat × Nat} (hP : MClosed (O3 xs L) (kcall (O3 xs L) DD) kd_L_15 1 QL P) (ht : 7 * t + 7 ≤ L) (h : INV I T B R W s) (hk : LK P t l5 l6 b) : P 794 (LV t l5 l6) [] s b := by
  obtain ⟨r, e1, e2⟩ := q_log h (xs (7 * t + 1)) (xs (7 * t + 2))
  refine mgo_from hP [1954] 200 ?_
  refine go_ix (7 * t + 1) (by omega) (ixk of_1) ?_
  refine go_ix (7 * t + 2) (by omega) (ixk of_2) ?_
  refine go_call (fun _ hw => c_D_log e1 hw) ?_
  refine go_ix (7 * t + 1) (by omega) (ixk of_1) ?_
  refine go_ix (7 * t + 2) (by omega) (ixk of_2) ?_
  refine go_call (fun _ hw => c_M_log e2 hw) ?_
  refine go_br (fun _ => ?_) (fun hc => absurd rfl hc)
  exact hk _ _ _ _ _ _ h
end
