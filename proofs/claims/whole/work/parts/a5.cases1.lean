/-! ===== the law's calls, one by one ===== -/
section
variable {xs : Nat → Int32} {L t : Nat} {P : MK S2} {QL : S2 → Option MV → Prop} {I T B R : Nat} {W : Option WF6} {s : S2} {l5 l6 : Option MV}
set_option maxRecDepth 20000 in
set_option maxHeartbeats 4000000 in
theorem lc_16 {b : Nat × Nat} (hP : MClosed (O3 xs L) (kcall (O3 xs L) DD) kd_L_16 1 QL P) (ht : 7 * t + 7 ≤ L) (h : INV I T B R W s) (hk : LK P t l5 l6 b) : P 831 (LV t l5 l6) [] s b := by
  obtain ⟨s1, r, s2, e1, e2, h2⟩ := q_led h (xs (7 * t + 1)) (xs (7 * t + 2)) (xs (7 * t + 3))
  refine mgo_from hP [1954] 200 ?_
  refine go_ix (7 * t + 1) (by omega) (ixk of_1) ?_
  refine go_ix (7 * t + 2) (by omega) (ixk of_2) ?_
  refine go_ix (7 * t + 3) (by omega) (ixk of_3) ?_
  refine go_call (fun _ hw => c_D_led e1 hw) ?_
  refine go_ix (7 * t + 1) (by omega) (ixk of_1) ?_
  refine go_ix (7 * t + 2) (by omega) (ixk of_2) ?_
  refine go_ix (7 * t + 3) (by omega) (ixk of_3) ?_
  refine go_call (fun _ hw => c_M_led e2 hw) ?_
  refine go_br (fun _ => ?_) (fun hc => absurd rfl hc)
  exact hk _ _ _ _ _ _ h2
set_option maxRecDepth 20000 in
set_option maxHeartbeats 4000000 in
theorem lc_17 {b : Nat × Nat} (hP : MClosed (O3 xs L) (kcall (O3 xs L) DD) kd_L_17 1 QL P) (ht : 7 * t + 7 ≤ L) (h : INV I T B R W s) (hk : LK P t l5 l6 b) : P 880 (LV t l5 l6) [] s b := by
  obtain ⟨s1, r, s2, e1, e2, h2⟩ := q_drift h (xs (7 * t + 1)) (xs (7 * t + 2))
  refine mgo_from hP [1954] 200 ?_
  refine go_ix (7 * t + 1) (by omega) (ixk of_1) ?_
  refine go_ix (7 * t + 2) (by omega) (ixk of_2) ?_
  refine go_call (fun _ hw => c_D_drift e1 hw) ?_
  refine go_ix (7 * t + 1) (by omega) (ixk of_1) ?_
  refine go_ix (7 * t + 2) (by omega) (ixk of_2) ?_
  refine go_call (fun _ hw => c_M_drift e2 hw) ?_
  refine go_br (fun _ => ?_) (fun hc => absurd rfl hc)
  exact hk _ _ _ _ _ _ h2
set_option maxRecDepth 20000 in
set_option maxHeartbeats 4000000 in
theorem lc_18 {b : Nat × Nat} (hP : MClosed (O3 xs L) (kcall (O3 xs L) DD) kd_L_18 1 QL P) (ht : 7 * t + 7 ≤ L) (h : INV I T B R W s) (hk : LK P t l5 l6 b) : P 917 (LV t l5 l6) [] s b := by
  obtain ⟨s1, r, s2, e1, e2, h2⟩ := q_buys h (xs (7 * t + 1)) (xs (7 * t + 2))
  refine mgo_from hP [1954] 200 ?_
  refine go_ix (7 * t + 1) (by omega) (ixk of_1) ?_
  refine go_ix (7 * t + 2) (by omega) (ixk of_2) ?_
  refine go_call (fun _ hw => c_D_buys e1 hw) ?_
  refine go_ix (7 * t + 1) (by omega) (ixk of_1) ?_
  refine go_ix (7 * t + 2) (by omega) (ixk of_2) ?_
  refine go_call (fun _ hw => c_M_buys e2 hw) ?_
  refine go_br (fun _ => ?_) (fun hc => absurd rfl hc)
  exact hk _ _ _ _ _ _ h2
set_option maxRecDepth 20000 in
set_option maxHeartbeats 4000000 in
theorem lc_19 {b : Nat × Nat} (hP : MClosed (O3 xs L) (kcall (O3 xs L) DD) kd_L_19 1 QL P) (ht : 7 * t + 7 ≤ L) (h : INV I T B R W s) (hk : LK P t l5 l6 b) : P 954 (LV t l5 l6) [] s b := by
  obtain ⟨s1, r, s2, e1, e2, h2⟩ := q_pays h (xs (7 * t + 1))
  refine mgo_from hP [1954] 200 ?_
  refine go_ix (7 * t + 1) (by omega) (ixk of_1) ?_
  refine go_call (fun _ hw => c_D_pays e1 hw) ?_
  refine go_ix (7 * t + 1) (by omega) (ixk of_1) ?_
  refine go_call (fun _ hw => c_M_pays e2 hw) ?_
  refine go_br (fun _ => ?_) (fun hc => absurd rfl hc)
  exact hk _ _ _ _ _ _ h2
set_option maxRecDepth 20000 in
set_option maxHeartbeats 4000000 in
theorem lc_20 {b : Nat × Nat} (hP : MClosed (O3 xs L) (kcall (O3 xs L) DD) kd_L_20 1 QL P) (ht : 7 * t + 7 ≤ L) (h : INV I T B R W s) (hk : LK P t l5 l6 b) : P 979 (LV t l5 l6) [] s b := by
  obtain ⟨s1, r, s2, e1, e2, h2⟩ := q_lacks h (xs (7 * t + 1))
  refine mgo_from hP [1954] 200 ?_
  refine go_ix (7 * t + 1) (by omega) (ixk of_1) ?_
  refine go_call (fun _ hw => c_D_lacks e1 hw) ?_
  refine go_ix (7 * t + 1) (by omega) (ixk of_1) ?_
  refine go_call (fun _ hw => c_M_lacks e2 hw) ?_
  refine go_br (fun _ => ?_) (fun hc => absurd rfl hc)
  exact hk _ _ _ _ _ _ h2
set_option maxRecDepth 20000 in
set_option maxHeartbeats 4000000 in
theorem lc_21 {b : Nat × Nat} (hP : MClosed (O3 xs L) (kcall (O3 xs L) DD) kd_L_21 1 QL P) (ht : 7 * t + 7 ≤ L) (h : INV I T B R W s) (hk : LK P t l5 l6 b) : P 1004 (LV t l5 l6) [] s b := by
  obtain ⟨s1, r, s2, e1, e2, h2⟩ := q_monopoly h (xs (7 * t + 1)) (xs (7 * t + 2))
  refine mgo_from hP [1954] 200 ?_
  refine go_ix (7 * t + 1) (by omega) (ixk of_1) ?_
  refine go_ix (7 * t + 2) (by omega) (ixk of_2) ?_
  refine go_call (fun _ hw => c_D_monopoly e1 hw) ?_
  refine go_ix (7 * t + 1) (by omega) (ixk of_1) ?_
  refine go_ix (7 * t + 2) (by omega) (ixk of_2) ?_
  refine go_call (fun _ hw => c_M_monopoly e2 hw) ?_
  refine go_br (fun _ => ?_) (fun hc => absurd rfl hc)
  exact hk _ _ _ _ _ _ h2
set_option maxRecDepth 20000 in
set_option maxHeartbeats 4000000 in
theorem lc_22 {b : Nat × Nat} (hP : MClosed (O3 xs L) (kcall (O3 xs L) DD) kd_L_22 1 QL P) (ht : 7 * t + 7 ≤ L) (h : INV I T B R W s) (hk : LK P t l5 l6 b) : P 1041 (LV t l5 l6) [] s b := by
  obtain ⟨s1, r, s2, e1, e2, h2⟩ := q_undercut h (xs (7 * t + 1)) (xs (7 * t + 2))
  refine mgo_from hP [1954] 200 ?_
  refine go_ix (7 * t + 1) (by omega) (ixk of_1) ?_
  refine go_ix (7 * t + 2) (by omega) (ixk of_2) ?_
  refine go_call (fun _ hw => c_D_undercut e1 hw) ?_
  refine go_ix (7 * t + 1) (by omega) (ixk of_1) ?_
  refine go_ix (7 * t + 2) (by omega) (ixk of_2) ?_
  refine go_call (fun _ hw => c_M_undercut e2 hw) ?_
  refine go_br (fun _ => ?_) (fun hc => absurd rfl hc)
  exact hk _ _ _ _ _ _ h2
set_option maxRecDepth 20000 in
set_option maxHeartbeats 4000000 in
theorem lc_23 {b : Nat × Nat} (hP : MClosed (O3 xs L) (kcall (O3 xs L) DD) kd_L_23 1 QL P) (ht : 7 * t + 7 ≤ L) (h : INV I T B R W s) (hk : LK P t l5 l6 b) : P 1078 (LV t l5 l6) [] s b := by
  obtain ⟨s1, r, s2, e1, e2, h2⟩ := q_ahead h (xs (7 * t + 1)) (xs (7 * t + 2)) (xs (7 * t + 3))
  refine mgo_from hP [1954] 200 ?_
  refine go_ix (7 * t + 1) (by omega) (ixk of_1) ?_
  refine go_ix (7 * t + 2) (by omega) (ixk of_2) ?_
  refine go_ix (7 * t + 3) (by omega) (ixk of_3) ?_
  refine go_call (fun _ hw => c_D_ahead e1 hw) ?_
  refine go_ix (7 * t + 1) (by omega) (ixk of_1) ?_
  refine go_ix (7 * t + 2) (by omega) (ixk of_2) ?_
  refine go_ix (7 * t + 3) (by omega) (ixk of_3) ?_
  refine go_call (fun _ hw => c_M_ahead e2 hw) ?_
  refine go_br (fun _ => ?_) (fun hc => absurd rfl hc)
  exact hk _ _ _ _ _ _ h2
set_option maxRecDepth 20000 in
set_option maxHeartbeats 4000000 in
theorem lc_24 {b : Nat × Nat} (hP : MClosed (O3 xs L) (kcall (O3 xs L) DD) kd_L_24 1 QL P) (ht : 7 * t + 7 ≤ L) (h : INV I T B R W s) (hk : LK P t l5 l6 b) : P 1127 (LV t l5 l6) [] s b := by
  obtain ⟨s1, r, s2, e1, e2, h2⟩ := q_rest h (xs (7 * t + 1))
  refine mgo_from hP [1954] 200 ?_
  refine go_ix (7 * t + 1) (by omega) (ixk of_1) ?_
  refine go_call (fun _ hw => c_D_rest e1 hw) ?_
  refine go_ix (7 * t + 1) (by omega) (ixk of_1) ?_
  refine go_call (fun _ hw => c_M_rest e2 hw) ?_
  refine go_br (fun _ => ?_) (fun hc => absurd rfl hc)
  exact hk _ _ _ _ _ _ h2
set_option maxRecDepth 20000 in
set_option maxHeartbeats 4000000 in
theorem lc_25 {b : Nat × Nat} (hP : MClosed (O3 xs L) (kcall (O3 xs L) DD) kd_L_25 1 QL P) (ht : 7 * t + 7 ≤ L) (h : INV I T B R W s) (hk : LK P t l5 l6 b) : P 1152 (LV t l5 l6) [] s b := by
  obtain ⟨s1, r, s2, e1, e2, h2⟩ := q_round h (xs (7 * t + 1)) (xs (7 * t + 2))
  refine mgo_from hP [1954] 200 ?_
  refine go_ix (7 * t + 1) (by omega) (ixk of_1) ?_
  refine go_ix (7 * t + 2) (by omega) (ixk of_2) ?_
  refine go_call (fun _ hw => c_D_round e1 hw) ?_
  refine go_ix (7 * t + 1) (by omega) (ixk of_1) ?_
  refine go_ix (7 * t + 2) (by omega) (ixk of_2) ?_
  refine go_call (fun _ hw => c_M_round e2 hw) ?_
  refine go_br (fun _ => ?_) (fun hc => absurd rfl hc)
  exact hk _ _ _ _ _ _ h2
set_option maxRecDepth 20000 in
set_option maxHeartbeats 4000000 in
theorem lc_26 {b : Nat × Nat} (hP : MClosed (O3 xs L) (kcall (O3 xs L) DD) kd_L_26 1 QL P) (ht : 7 * t + 7 ≤ L) (h : INV I T B R W s) (hk : LK P t l5 l6 b) : P 1189 (LV t l5 l6) [] s b := by
  obtain ⟨s1, r, s2, e1, e2, h2⟩ := q_one h (xs (7 * t + 1)) (xs (7 * t + 2)) (xs (7 * t + 3))
  refine mgo_from hP [1954] 200 ?_
  refine go_ix (7 * t + 1) (by omega) (ixk of_1) ?_
  refine go_ix (7 * t + 2) (by omega) (ixk of_2) ?_
  refine go_ix (7 * t + 3) (by omega) (ixk of_3) ?_
  refine go_call (fun _ hw => c_D_one e1 hw) ?_
  refine go_ix (7 * t + 1) (by omega) (ixk of_1) ?_
  refine go_ix (7 * t + 2) (by omega) (ixk of_2) ?_
  refine go_ix (7 * t + 3) (by omega) (ixk of_3) ?_
  refine go_call (fun _ hw => c_M_one e2 hw) ?_
  refine go_br (fun _ => ?_) (fun hc => absurd rfl hc)
  exact hk _ _ _ _ _ _ h2
set_option maxRecDepth 20000 in
set_option maxHeartbeats 4000000 in
theorem lc_27 {b : Nat × Nat} (hP : MClosed (O3 xs L) (kcall (O3 xs L) DD) kd_L_27 1 QL P) (ht : 7 * t + 7 ≤ L) (h : INV I T B R W s) (hk : LK P t l5 l6 b) : P 1238 (LV t l5 l6) [] s b := by
  obtain ⟨s1, r, s2, e1, e2, h2⟩ := q_nearest h (xs (7 * t + 1)) (xs (7 * t + 2)) (xs (7 * t + 3)) (xs (7 * t + 4))
  refine mgo_from hP [1954] 200 ?_
  refine go_ix (7 * t + 1) (by omega) (ixk of_1) ?_
  refine go_ix (7 * t + 2) (by omega) (ixk of_2) ?_
  refine go_ix (7 * t + 3) (by omega) (ixk of_3) ?_
  refine go_ix (7 * t + 4) (by omega) (ixk of_4) ?_
  refine go_call (fun _ hw => c_D_nearest e1 hw) ?_
  refine go_ix (7 * t + 1) (by omega) (ixk of_1) ?_
  refine go_ix (7 * t + 2) (by omega) (ixk of_2) ?_
  refine go_ix (7 * t + 3) (by omega) (ixk of_3) ?_
  refine go_ix (7 * t + 4) (by omega) (ixk of_4) ?_
  refine go_call (fun _ hw => c_M_nearest e2 hw) ?_
  refine go_br (fun _ => ?_) (fun hc => absurd rfl hc)
  exact hk _ _ _ _ _ _ h2
set_option maxRecDepth 20000 in
set_option maxHeartbeats 4000000 in
theorem lc_28 {b : Nat × Nat} (hP : MClosed (O3 xs L) (kcall (O3 xs L) DD) kd_L_28 1 QL P) (ht : 7 * t + 7 ≤ L) (h : INV I T B R W s) (hk : LK P t l5 l6 b) : P 1299 (LV t l5 l6) [] s b := by
  obtain ⟨s1, r, s2, e1, e2, h2⟩ := q_snap h (xs (7 * t + 1))
  refine mgo_from hP [1954] 200 ?_
  refine go_ix (7 * t + 1) (by omega) (ixk of_1) ?_
  refine go_call (fun _ hw => c_D_snap e1 hw) ?_
  refine go_ix (7 * t + 1) (by omega) (ixk of_1) ?_
  refine go_call (fun _ hw => c_M_snap e2 hw) ?_
  refine go_br (fun _ => ?_) (fun hc => absurd rfl hc)
  exact hk _ _ _ _ _ _ h2
set_option maxRecDepth 20000 in
set_option maxHeartbeats 4000000 in
theorem lc_29 {b : Nat × Nat} (hP : MClosed (O3 xs L) (kcall (O3 xs L) DD) kd_L_29 1 QL P) (ht : 7 * t + 7 ≤ L) (h : INV I T B R W s) (hk : LK P t l5 l6 b) : P 1324 (LV t l5 l6) [] s b := by
  obtain ⟨s1, r, s2, e1, e2, h2⟩ := q_sail h (xs (7 * t + 1)) (xs (7 * t + 2)) (xs (7 * t + 3)) (xs (7 * t + 4))
  refine mgo_from hP [1954] 200 ?_
  refine go_ix (7 * t + 1) (by omega) (ixk of_1) ?_
  refine go_ix (7 * t + 2) (by omega) (ixk of_2) ?_
  refine go_ix (7 * t + 3) (by omega) (ixk of_3) ?_
  refine go_ix (7 * t + 4) (by omega) (ixk of_4) ?_
  refine go_call (fun _ hw => c_D_sail e1 hw) ?_
  refine go_ix (7 * t + 1) (by omega) (ixk of_1) ?_
  refine go_ix (7 * t + 2) (by omega) (ixk of_2) ?_
  refine go_ix (7 * t + 3) (by omega) (ixk of_3) ?_
  refine go_ix (7 * t + 4) (by omega) (ixk of_4) ?_
  refine go_call (fun _ hw => c_M_sail e2 hw) ?_
  refine go_br (fun _ => ?_) (fun hc => absurd rfl hc)
  exact hk _ _ _ _ _ _ h2
set_option maxRecDepth 20000 in
set_option maxHeartbeats 4000000 in
theorem lc_30 {b : Nat × Nat} (hP : MClosed (O3 xs L) (kcall (O3 xs L) DD) kd_L_30 1 QL P) (ht : 7 * t + 7 ≤ L) (h : INV I T B R W s) (hk : LK P t l5 l6 b) : P 1385 (LV t l5 l6) [] s b := by
  obtain ⟨s1, r, s2, e1, e2, h2⟩ := q_haste h (xs (7 * t + 1)) (xs (7 * t + 2)) (xs (7 * t + 3))
  refine mgo_from hP [1954] 200 ?_
  refine go_ix (7 * t + 1) (by omega) (ixk of_1) ?_
  refine go_ix (7 * t + 2) (by omega) (ixk of_2) ?_
  refine go_ix (7 * t + 3) (by omega) (ixk of_3) ?_
  refine go_call (fun _ hw => c_D_haste e1 hw) ?_
  refine go_ix (7 * t + 1) (by omega) (ixk of_1) ?_
  refine go_ix (7 * t + 2) (by omega) (ixk of_2) ?_
  refine go_ix (7 * t + 3) (by omega) (ixk of_3) ?_
  refine go_call (fun _ hw => c_M_haste e2 hw) ?_
  refine go_br (fun _ => ?_) (fun hc => absurd rfl hc)
  exact hk _ _ _ _ _ _ h2
end
