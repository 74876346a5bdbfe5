/-! ===== the law's calls, one by one ===== -/
section
variable {xs : Nat → Int32} {L t : Nat} {P : MK S2} {QL : S2 → Option MV → Prop} {I T B R : Nat} {W : Option WF6} {s : S2} {l5 l6 : Option MV}
set_option maxRecDepth 20000 in
set_option maxHeartbeats 4000000 in
theorem lc_31 {b : Nat × Nat} (hP : MClosed (O3 xs L) (kcall (O3 xs L) DD) kd_L_31 1 QL P) (ht : 7 * t + 7 ≤ L) (h : INV I T B R W s) (hk : LK P t l5 l6 b) : P 1434 (LV t l5 l6) [] s b := by
  obtain ⟨s1, r, s2, e1, e2, h2⟩ := q_treaty h (xs (7 * t + 1)) (xs (7 * t + 2)) (xs (7 * t + 3)) (xs (7 * t + 4))
  refine mgo_from hP [1954] 200 ?_
  refine go_ix (7 * t + 1) (by omega) (ixk of_1) ?_
  refine go_ix (7 * t + 2) (by omega) (ixk of_2) ?_
  refine go_ix (7 * t + 3) (by omega) (ixk of_3) ?_
  refine go_ix (7 * t + 4) (by omega) (ixk of_4) ?_
  refine go_call (fun _ hw => c_D_treaty e1 hw) ?_
  refine go_ix (7 * t + 1) (by omega) (ixk of_1) ?_
  refine go_ix (7 * t + 2) (by omega) (ixk of_2) ?_
  refine go_ix (7 * t + 3) (by omega) (ixk of_3) ?_
  refine go_ix (7 * t + 4) (by omega) (ixk of_4) ?_
  refine go_call (fun _ hw => c_M_treaty e2 hw) ?_
  refine go_br (fun _ => ?_) (fun hc => absurd rfl hc)
  exact hk _ _ _ _ _ _ h2
set_option maxRecDepth 20000 in
set_option maxHeartbeats 4000000 in
theorem lc_32 {b : Nat × Nat} (hP : MClosed (O3 xs L) (kcall (O3 xs L) DD) kd_L_32 1 QL P) (ht : 7 * t + 7 ≤ L) (h : INV I T B R W s) (hk : LK P t l5 l6 b) : P 1495 (LV t l5 l6) [] s b := by
  obtain ⟨s1, r, s2, e1, e2, h2⟩ := q_bicker h (xs (7 * t + 1)) (xs (7 * t + 2)) (xs (7 * t + 3)) (xs (7 * t + 4)) (xs (7 * t + 5)) (xs (7 * t + 6))
  refine mgo_from hP [1954] 200 ?_
  refine go_ix (7 * t + 1) (by omega) (ixk of_1) ?_
  refine go_ix (7 * t + 2) (by omega) (ixk of_2) ?_
  refine go_ix (7 * t + 3) (by omega) (ixk of_3) ?_
  refine go_ix (7 * t + 4) (by omega) (ixk of_4) ?_
  refine go_ix (7 * t + 5) (by omega) (ixk of_5) ?_
  refine go_ix (7 * t + 6) (by omega) (ixk of_6) ?_
  refine go_call (fun _ hw => c_D_bicker e1 hw) ?_
  refine go_ix (7 * t + 1) (by omega) (ixk of_1) ?_
  refine go_ix (7 * t + 2) (by omega) (ixk of_2) ?_
  refine go_ix (7 * t + 3) (by omega) (ixk of_3) ?_
  refine go_ix (7 * t + 4) (by omega) (ixk of_4) ?_
  refine go_ix (7 * t + 5) (by omega) (ixk of_5) ?_
  refine go_ix (7 * t + 6) (by omega) (ixk of_6) ?_
  refine go_call (fun _ hw => c_M_bicker e2 hw) ?_
  refine go_br (fun _ => ?_) (fun hc => absurd rfl hc)
  exact hk _ _ _ _ _ _ h2
set_option maxRecDepth 20000 in
set_option maxHeartbeats 4000000 in
theorem lc_33 {b : Nat × Nat} (hP : MClosed (O3 xs L) (kcall (O3 xs L) DD) kd_L_33 1 QL P) (ht : 7 * t + 7 ≤ L) (h : INV I T B R W s) (hk : LK P t l5 l6 b) : P 1582 (LV t l5 l6) [] s b := by
  obtain ⟨s1, r, s2, e1, e2, h2⟩ := q_chart h (xs (7 * t + 1)) (xs (7 * t + 2)) (xs (7 * t + 3)) (xs (7 * t + 4))
  refine mgo_from hP [1954] 200 ?_
  refine go_ix (7 * t + 1) (by omega) (ixk of_1) ?_
  refine go_ix (7 * t + 2) (by omega) (ixk of_2) ?_
  refine go_ix (7 * t + 3) (by omega) (ixk of_3) ?_
  refine go_ix (7 * t + 4) (by omega) (ixk of_4) ?_
  refine go_call (fun _ hw => c_D_chart e1 hw) ?_
  refine go_ix (7 * t + 1) (by omega) (ixk of_1) ?_
  refine go_ix (7 * t + 2) (by omega) (ixk of_2) ?_
  refine go_ix (7 * t + 3) (by omega) (ixk of_3) ?_
  refine go_ix (7 * t + 4) (by omega) (ixk of_4) ?_
  refine go_call (fun _ hw => c_M_chart e2 hw) ?_
  refine go_br (fun _ => ?_) (fun hc => absurd rfl hc)
  exact hk _ _ _ _ _ _ h2
set_option maxRecDepth 20000 in
set_option maxHeartbeats 4000000 in
theorem lc_34 {b : Nat × Nat} (hP : MClosed (O3 xs L) (kcall (O3 xs L) DD) kd_L_34 1 QL P) (ht : 7 * t + 7 ≤ L) (h : INV I T B R W s) (hk : LK P t l5 l6 b) : P 1643 (LV t l5 l6) [] s b := by
  obtain ⟨s1, r, s2, e1, e2, h2⟩ := q_fits h (xs (7 * t + 1))
  refine mgo_from hP [1954] 200 ?_
  refine go_ix (7 * t + 1) (by omega) (ixk of_1) ?_
  refine go_call (fun _ hw => c_D_fits e1 hw) ?_
  refine go_ix (7 * t + 1) (by omega) (ixk of_1) ?_
  refine go_call (fun _ hw => c_M_fits e2 hw) ?_
  refine go_br (fun _ => ?_) (fun hc => absurd rfl hc)
  exact hk _ _ _ _ _ _ h2
set_option maxRecDepth 20000 in
set_option maxHeartbeats 4000000 in
theorem lc_35 {b : Nat × Nat} (hP : MClosed (O3 xs L) (kcall (O3 xs L) DD) kd_L_35 1 QL P) (ht : 7 * t + 7 ≤ L) (h : INV I T B R W s) (hk : LK P t l5 l6 b) : P 1668 (LV t l5 l6) [] s b := by
  obtain ⟨s1, r, s2, e1, e2, h2⟩ := q_secret h (xs (7 * t + 1))
  refine mgo_from hP [1954] 200 ?_
  refine go_ix (7 * t + 1) (by omega) (ixk of_1) ?_
  refine go_call (fun _ hw => c_D_secret e1 hw) ?_
  refine go_ix (7 * t + 1) (by omega) (ixk of_1) ?_
  refine go_call (fun _ hw => c_M_secret e2 hw) ?_
  refine go_br (fun _ => ?_) (fun hc => absurd rfl hc)
  exact hk _ _ _ _ _ _ h2
set_option maxRecDepth 20000 in
set_option maxHeartbeats 4000000 in
theorem lc_36 {b : Nat × Nat} (hP : MClosed (O3 xs L) (kcall (O3 xs L) DD) kd_L_36 1 QL P) (ht : 7 * t + 7 ≤ L) (h : INV I T B R W s) (hk : LK P t l5 l6 b) : P 1693 (LV t l5 l6) [] s b := by
  obtain ⟨r, e1, e2⟩ := q_sees h (xs (7 * t + 1)) (xs (7 * t + 2))
  refine mgo_from hP [1954] 200 ?_
  refine go_ix (7 * t + 1) (by omega) (ixk of_1) ?_
  refine go_ix (7 * t + 2) (by omega) (ixk of_2) ?_
  refine go_call (fun _ hw => c_D_sees e1 hw) ?_
  refine go_ix (7 * t + 1) (by omega) (ixk of_1) ?_
  refine go_ix (7 * t + 2) (by omega) (ixk of_2) ?_
  refine go_call (fun _ hw => c_M_sees e2 hw) ?_
  refine go_br (fun _ => ?_) (fun hc => absurd rfl hc)
  exact hk _ _ _ _ _ _ h
set_option maxRecDepth 20000 in
set_option maxHeartbeats 4000000 in
theorem lc_37 {b : Nat × Nat} (hP : MClosed (O3 xs L) (kcall (O3 xs L) DD) kd_L_37 1 QL P) (ht : 7 * t + 7 ≤ L) (h : INV I T B R W s) (hk : LK P t l5 l6 b) : P 1730 (LV t l5 l6) [] s b := by
  obtain ⟨r, e1, e2⟩ := q_everywhere h (xs (7 * t + 1))
  refine mgo_from hP [1954] 200 ?_
  refine go_ix (7 * t + 1) (by omega) (ixk of_1) ?_
  refine go_call (fun _ hw => c_D_everywhere e1 hw) ?_
  refine go_ix (7 * t + 1) (by omega) (ixk of_1) ?_
  refine go_call (fun _ hw => c_M_everywhere e2 hw) ?_
  refine go_br (fun _ => ?_) (fun hc => absurd rfl hc)
  exact hk _ _ _ _ _ _ h
set_option maxRecDepth 20000 in
set_option maxHeartbeats 4000000 in
theorem lc_38 {b : Nat × Nat} (hP : MClosed (O3 xs L) (kcall (O3 xs L) DD) kd_L_38 1 QL P) (ht : 7 * t + 7 ≤ L) (h : INV I T B R W s) (hk : LK P t l5 l6 b) : P 1755 (LV t l5 l6) [] s b := by
  obtain ⟨s1, r, s2, e1, e2, h2⟩ := q_when h (xs (7 * t + 1)) (xs (7 * t + 2)) (xs (7 * t + 3))
  refine mgo_from hP [1954] 200 ?_
  refine go_ix (7 * t + 1) (by omega) (ixk of_1) ?_
  refine go_ix (7 * t + 2) (by omega) (ixk of_2) ?_
  refine go_ix (7 * t + 3) (by omega) (ixk of_3) ?_
  refine go_call (fun _ hw => c_D_when e1 hw) ?_
  refine go_ix (7 * t + 1) (by omega) (ixk of_1) ?_
  refine go_ix (7 * t + 2) (by omega) (ixk of_2) ?_
  refine go_ix (7 * t + 3) (by omega) (ixk of_3) ?_
  refine go_call (fun _ hw => c_M_when e2 hw) ?_
  refine go_br (fun _ => ?_) (fun hc => absurd rfl hc)
  exact hk _ _ _ _ _ _ h2
set_option maxRecDepth 20000 in
set_option maxHeartbeats 4000000 in
theorem lc_39 {b : Nat × Nat} (hP : MClosed (O3 xs L) (kcall (O3 xs L) DD) kd_L_39 1 QL P) (ht : 7 * t + 7 ≤ L) (h : INV I T B R W s) (hk : LK P t l5 l6 b) : P 1804 (LV t l5 l6) [] s b := by
  obtain ⟨r, e1, e2⟩ := q_lands h (xs (7 * t + 1)) (xs (7 * t + 2))
  refine mgo_from hP [1954] 200 ?_
  refine go_ix (7 * t + 1) (by omega) (ixk of_1) ?_
  refine go_ix (7 * t + 2) (by omega) (ixk of_2) ?_
  refine go_call (fun _ hw => c_D_lands e1 hw) ?_
  refine go_ix (7 * t + 1) (by omega) (ixk of_1) ?_
  refine go_ix (7 * t + 2) (by omega) (ixk of_2) ?_
  refine go_call (fun _ hw => c_M_lands e2 hw) ?_
  refine go_br (fun _ => ?_) (fun hc => absurd rfl hc)
  exact hk _ _ _ _ _ _ h
set_option maxRecDepth 20000 in
set_option maxHeartbeats 4000000 in
theorem lc_40 {b : Nat × Nat} (hP : MClosed (O3 xs L) (kcall (O3 xs L) DD) kd_L_40 1 QL P) (ht : 7 * t + 7 ≤ L) (h : INV I T B R W s) (hk : LK P t l5 l6 b) : P 1841 (LV t l5 l6) [] s b := by
  obtain ⟨r, e1, e2⟩ := q_land h (xs (7 * t + 1)) (xs (7 * t + 2))
  refine mgo_from hP [1954] 200 ?_
  refine go_ix (7 * t + 1) (by omega) (ixk of_1) ?_
  refine go_ix (7 * t + 2) (by omega) (ixk of_2) ?_
  refine go_call (fun _ hw => c_D_land e1 hw) ?_
  refine go_ix (7 * t + 1) (by omega) (ixk of_1) ?_
  refine go_ix (7 * t + 2) (by omega) (ixk of_2) ?_
  refine go_call (fun _ hw => c_M_land e2 hw) ?_
  refine go_br (fun _ => ?_) (fun hc => absurd rfl hc)
  exact hk _ _ _ _ _ _ h
set_option maxRecDepth 20000 in
set_option maxHeartbeats 4000000 in
theorem lc_41 {b : Nat × Nat} (hP : MClosed (O3 xs L) (kcall (O3 xs L) DD) kd_L_41 1 QL P) (ht : 7 * t + 7 ≤ L) (h : INV I T B R W s) (hk : LK P t l5 l6 b) : P 1878 (LV t l5 l6) [] s b := by
  obtain ⟨r, e1, e2⟩ := q_wide h (xs (7 * t + 1))
  refine mgo_from hP [1954] 200 ?_
  refine go_ix (7 * t + 1) (by omega) (ixk of_1) ?_
  refine go_call (fun _ hw => c_D_wide e1 hw) ?_
  refine go_ix (7 * t + 1) (by omega) (ixk of_1) ?_
  refine go_call (fun _ hw => c_M_wide e2 hw) ?_
  refine go_br (fun _ => ?_) (fun hc => absurd rfl hc)
  exact hk _ _ _ _ _ _ h
set_option maxRecDepth 20000 in
set_option maxHeartbeats 4000000 in
theorem lc_42 {b : Nat × Nat} (hP : MClosed (O3 xs L) (kcall (O3 xs L) DD) kd_L_42 1 QL P) (ht : 7 * t + 7 ≤ L) (h : INV I T B R W s) (hk : LK P t l5 l6 b) : P 1903 (LV t l5 l6) [] s b := by
  obtain ⟨s1, r, s2, e1, e2, h2⟩ := q_image h 
  refine mgo_from hP [1954] 200 ?_
  refine go_call (fun _ hw => c_D_image e1 hw) ?_
  refine go_call (fun _ hw => c_M_image e2 hw) ?_
  refine go_br (fun _ => ?_) (fun hc => absurd rfl hc)
  exact hk _ _ _ _ _ _ h2
set_option maxRecDepth 20000 in
set_option maxHeartbeats 4000000 in
theorem lc_43 {b : Nat × Nat} (hP : MClosed (O3 xs L) (kcall (O3 xs L) DD) kd_L_43 1 QL P) (ht : 7 * t + 7 ≤ L) (h : INV I T B R W s) (hk : LK P t l5 l6 b) : P 1916 (LV t l5 l6) [] s b := by
  obtain ⟨s1, r, s2, e1, e2, h2⟩ := q_back h 
  refine mgo_from hP [1954] 200 ?_
  refine go_call (fun _ hw => c_D_back e1 hw) ?_
  refine go_call (fun _ hw => c_M_back e2 hw) ?_
  refine go_br (fun _ => ?_) (fun hc => absurd rfl hc)
  exact hk _ _ _ _ _ _ h2
set_option maxRecDepth 20000 in
set_option maxHeartbeats 4000000 in
theorem lc_44 {b : Nat × Nat} (hP : MClosed (O3 xs L) (kcall (O3 xs L) DD) kd_L_44 1 QL P) (ht : 7 * t + 7 ≤ L) (h : INV I T B R W s) (hk : LK P t l5 l6 b) : P 1929 (LV t l5 l6) [] s b := by
  obtain ⟨r, e1, e2⟩ := q_count h (xs (7 * t + 1))
  refine mgo_from hP [1954] 200 ?_
  refine go_ix (7 * t + 1) (by omega) (ixk of_1) ?_
  refine go_call (fun _ hw => c_D_count e1 hw) ?_
  refine go_ix (7 * t + 1) (by omega) (ixk of_1) ?_
  refine go_call (fun _ hw => c_M_count e2 hw) ?_
  refine go_br (fun _ => ?_) (fun hc => absurd rfl hc)
  exact hk _ _ _ _ _ _ h
end
