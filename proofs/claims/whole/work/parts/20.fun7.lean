/-! M_led -/
def f_M_led_L62 (x1 : Int32) (x2 : Int32) (y1 : Int32) (y2 : Int32) (y3 : Int32) (y4 : Int32) (s : S2) : Option (S2 × Int32) := ((f_M_drawnTo y1 y2 y3 y4 s).bind fun q1 => ((ix 6 x1).bind fun j2 => ((ix 44 ((Int32.ofInt 4) * x2)).bind fun j3 => ((ix 6 (s.1 77 0 j3)).bind fun j4 => (if (s.1 82 0 j2) = (s.1 82 0 j4) then some (s, q1) else ((ix 6 x1).bind fun j5 => ((ix 44 (((Int32.ofInt 4) * x2) + (Int32.ofInt 1))).bind fun j6 => ((ix 6 (s.1 77 0 j6)).bind fun j7 => (if (s.1 82 0 j5) = (s.1 82 0 j7) then some (s, (-q1)) else some (s, (Int32.ofInt 0)))))))))))
def f_M_led (a1 : Int32) (a2 : Int32) (a3 : Int32) (s : S2) : Option (S2 × Int32) := (if (bI (g_M_isIsle a1 s)) = 0 then some (s, (Int32.ofInt (-1000000))) else (if (bI (g_M_isTie a2 s)) = 0 then some (s, (Int32.ofInt (-1000000))) else (if (bI (g_M_in a3 (Int32.ofInt 0) (Int32.ofInt 1) s)) = 0 then some (s, (Int32.ofInt (-1000000))) else ((ix 44 ((Int32.ofInt 4) * a2)).bind fun j1 => ((ix 44 (((Int32.ofInt 4) * a2) + (Int32.ofInt 1))).bind fun j2 => ((f_M_pullOf a2 s).bind fun q3 => (if a3 = 0 then (f_M_led_L62 a1 a2 (s.1 77 0 j1) (s.1 77 0 j2) q3.2 (Int32.ofInt 1) q3.1) else (f_M_led_L62 a1 a2 (s.1 77 0 j1) (s.1 77 0 j2) q3.2 (Int32.ofInt 0) q3.1))))))))
set_option maxRecDepth 20000 in
set_option maxHeartbeats 4000000 in
theorem c_M_led_L62 {xs : Nat → Int32} {L d : Nat} {P : MK S2} {Q : S2 → Option MV → Prop} {res : S2 × Int32} (hP : MClosed (O3 xs L) (kcall (O3 xs L) (d + 5)) kd_M_led 1 Q P) (hQ : Q res.1 (some (mI res.2))) (x1 : Int32) (x2 : Int32) (y1 : Int32) (y2 : Int32) (y3 : Int32) (y4 : Int32) (x3 : Int32) (s : S2) (h : f_M_led_L62 x1 x2 y1 y2 y3 y4 s = some res) : P 62 [some (mR 60 0), some (mI x1), some (mI x2), some (mI x3), none] [mI y4, mI y3, mI y2, mI y1, mR 60 0] s (0, 0) := by
  refine mgo_from hP [62] 260 ?_
  obtain ⟨q1, hq, h⟩ := bnd h
  refine go_call (fun _ hw => c_M_drawnTo hq hw) ?_
  obtain ⟨j2, hj, h⟩ := bnd h
  refine go_ix j2 (ix_lt hj) (ix_eq hj) ?_
  obtain ⟨j3, hj, h⟩ := bnd h
  refine go_ix j3 (ix_lt hj) (ix_eq hj) ?_
  obtain ⟨j4, hj, h⟩ := bnd h
  refine go_ix j4 (ix_lt hj) (ix_eq hj) ?_
  refine go_brn (fun hc : ¬ ((s.1 82 0 j2) = (s.1 82 0 j4)) => ?_) (fun hc : (s.1 82 0 j2) = (s.1 82 0 j4) => ?_)
  · replace h := (if_neg hc).symm.trans h
    obtain ⟨j5, hj, h⟩ := bnd h
    refine go_ix j5 (ix_lt hj) (ix_eq hj) ?_
    obtain ⟨j6, hj, h⟩ := bnd h
    refine go_ix j6 (ix_lt hj) (ix_eq hj) ?_
    obtain ⟨j7, hj, h⟩ := bnd h
    refine go_ix j7 (ix_lt hj) (ix_eq hj) ?_
    refine go_brn (fun hc : ¬ ((s.1 82 0 j5) = (s.1 82 0 j7)) => ?_) (fun hc : (s.1 82 0 j5) = (s.1 82 0 j7) => ?_)
    · replace h := (if_neg hc).symm.trans h
      cases h
      exact hQ
    · replace h := (if_pos hc).symm.trans h
      cases h
      exact hQ
  · replace h := (if_pos hc).symm.trans h
    cases h
    exact hQ
set_option maxRecDepth 20000 in
set_option maxHeartbeats 4000000 in
theorem c_M_led {xs : Nat → Int32} {L d : Nat} {a1 : Int32} {a2 : Int32} {a3 : Int32} {s : S2} {res : S2 × Int32} {Q : S2 → Option MV → Prop} (h : f_M_led a1 a2 a3 s = some res) (hQ : Q res.1 (some (mI res.2))) : kcall (O3 xs L) (d + 6) k_M_led [mR 60 0, mI a1, mI a2, mI a3] s Q := by
  refine kc_of (cd := kd_M_led) (mx := 5) (rt := 1) rfl rfl ?_
  intro P hP
  refine mgo_sound hP [62] 260 _ _ _ _ _ ?_
  refine go_call (fun _ hw => c_M_isIsle hw) ?_
  refine go_br (fun hc : (bI (g_M_isIsle a1 s)) = 0 => ?_) (fun hc : ¬ ((bI (g_M_isIsle a1 s)) = 0) => ?_)
  · replace h := (if_pos hc).symm.trans h
    cases h
    exact hQ
  · replace h := (if_neg hc).symm.trans h
    refine go_call (fun _ hw => c_M_isTie hw) ?_
    refine go_br (fun hc : (bI (g_M_isTie a2 s)) = 0 => ?_) (fun hc : ¬ ((bI (g_M_isTie a2 s)) = 0) => ?_)
    · replace h := (if_pos hc).symm.trans h
      cases h
      exact hQ
    · replace h := (if_neg hc).symm.trans h
      refine go_call (fun _ hw => c_M_in hw) ?_
      refine go_brn (fun hc : ¬ ((bI (g_M_in a3 (Int32.ofInt 0) (Int32.ofInt 1) s)) = 0) => ?_) (fun hc : (bI (g_M_in a3 (Int32.ofInt 0) (Int32.ofInt 1) s)) = 0 => ?_)
      · replace h := (if_neg hc).symm.trans h
        obtain ⟨j1, hj, h⟩ := bnd h
        refine go_ix j1 (ix_lt hj) (ix_eq hj) ?_
        obtain ⟨j2, hj, h⟩ := bnd h
        refine go_ix j2 (ix_lt hj) (ix_eq hj) ?_
        obtain ⟨q3, hq, h⟩ := bnd h
        refine go_call (fun _ hw => c_M_pullOf hq hw) ?_
        refine go_brn (fun hc : ¬ (a3 = 0) => ?_) (fun hc : a3 = 0 => ?_)
        · replace h := (if_neg hc).symm.trans h
          exact c_M_led_L62 hP hQ _ _ _ _ _ _ _ _ h
        · replace h := (if_pos hc).symm.trans h
          exact c_M_led_L62 hP hQ _ _ _ _ _ _ _ _ h
      · replace h := (if_pos hc).symm.trans h
        cases h
        exact hQ
/-! Sea_read -/
def b_Sea_read_L20 (r0 : Nat) (k20 : Int32 → S2 → Option (S2 × Bool)) (x2 : Int32) (s : S2) : Option (S2 × Bool) := (if (Int32.ofInt 19) < x2 then some (s, false) else ((f_Sea_readClause r0 s).bind fun q1 => (if (bI q1.2) = 0 then some (q1.1, false) else ((f_Tape_isOver q1.1).bind fun q2 => (if (bI q2.2) = 0 then ((f_Tape_takes (Int32.ofInt 59) q2.1).bind fun q3 => (if (bI q3.2) = 0 then some (q3.1, false) else (k20 (x2 + (Int32.ofInt 1)) q3.1))) else ((f_Sea_isWhole r0 q2.1).bind fun q4 => some (q2.1, q4)))))))
def f_Sea_read_L20 (r0 : Nat) : Nat → Int32 → S2 → Option (S2 × Bool)
  | 0 => fun _ _ => none
  | n + 1 => b_Sea_read_L20 r0 (f_Sea_read_L20 r0 n)
def f_Sea_read (r0 : Nat) (s : S2) : Option (S2 × Bool) := ((f_Arrays_fill 15 r0 4 (Int32.ofInt 0) s).bind fun q1 => ((f_Sea_fillRow r0 (Int32.ofInt 0) (Int32.ofInt 0) q1).bind fun q2 => ((f_Tape_rewind q2).bind fun q3 => (f_Sea_read_L20 r0 FU (Int32.ofInt 0) q3))))
set_option maxRecDepth 20000 in
set_option maxHeartbeats 4000000 in
theorem cb_Sea_read_L20 {xs : Nat → Int32} {L d : Nat} {r0 : Nat} {P : MK S2} {Q : S2 → Option MV → Prop} {res : S2 × Bool} (hP : MClosed (O3 xs L) (kcall (O3 xs L) (d + 6)) kd_Sea_read 2 Q P) (hQ : Q res.1 (some (mI (bI res.2)))) {k20 : Int32 → S2 → Option (S2 × Bool)} (hk20 : ∀ (x2 : Int32) (s : S2), k20 x2 s = some res → P 20 [some (mR 13 r0), some (mR 11 0), some (mI x2)] [] s (0, 0)) (x2 : Int32) (s : S2) (h : b_Sea_read_L20 r0 k20 x2 s = some res) : P 20 [some (mR 13 r0), some (mR 11 0), some (mI x2)] [] s (0, 0) := by
  refine mgo_from hP [20] 260 ?_
  refine go_br (fun hc : (Int32.ofInt 19) < x2 => ?_) (fun hc : ¬ ((Int32.ofInt 19) < x2) => ?_)
  · replace h := (if_pos hc).symm.trans h
    cases h
    exact ⟨Or.inl rfl, hQ⟩
  · replace h := (if_neg hc).symm.trans h
    obtain ⟨q1, hq, h⟩ := bnd h
    refine go_call (fun _ hw => c_Sea_readClause hq hw) ?_
    refine go_brn (fun hc : ¬ ((bI q1.2) = 0) => ?_) (fun hc : (bI q1.2) = 0 => ?_)
    · replace h := (if_neg hc).symm.trans h
      obtain ⟨q2, hq, h⟩ := bnd h
      refine go_call (fun _ hw => c_Tape_isOver hq hw) ?_
      refine go_br (fun hc : (bI q2.2) = 0 => ?_) (fun hc : ¬ ((bI q2.2) = 0) => ?_)
      · replace h := (if_pos hc).symm.trans h
        obtain ⟨q3, hq, h⟩ := bnd h
        refine go_call (fun _ hw => c_Tape_takes hq hw) ?_
        refine go_brn (fun hc : ¬ ((bI q3.2) = 0) => ?_) (fun hc : (bI q3.2) = 0 => ?_)
        · replace h := (if_neg hc).symm.trans h
          exact hk20 _ _ h
        · replace h := (if_pos hc).symm.trans h
          cases h
          exact ⟨Or.inl rfl, hQ⟩
      · replace h := (if_neg hc).symm.trans h
        obtain ⟨q4, hq, h⟩ := bnd h
        refine go_call (fun _ hw => c_Sea_isWhole hq hw) ?_
        cases h
        exact ⟨bI_01 _, hQ⟩
    · replace h := (if_pos hc).symm.trans h
      cases h
      exact ⟨Or.inl rfl, hQ⟩
theorem c_Sea_read_L20 {xs : Nat → Int32} {L d : Nat} {r0 : Nat} {P : MK S2} {Q : S2 → Option MV → Prop} {res : S2 × Bool} (hP : MClosed (O3 xs L) (kcall (O3 xs L) (d + 6)) kd_Sea_read 2 Q P) (hQ : Q res.1 (some (mI (bI res.2)))) : ∀ (fu : Nat) (x2 : Int32) (s : S2), f_Sea_read_L20 r0 fu x2 s = some res → P 20 [some (mR 13 r0), some (mR 11 0), some (mI x2)] [] s (0, 0)
  | 0, _, _, h => by cases h
  | fu + 1, x2, s, h => cb_Sea_read_L20 hP hQ (c_Sea_read_L20 hP hQ fu) x2 s h
theorem c_Sea_read {xs : Nat → Int32} {L d : Nat} {r0 : Nat} {s : S2} {res : S2 × Bool} {Q : S2 → Option MV → Prop} (h : f_Sea_read r0 s = some res) (hQ : Q res.1 (some (mI (bI res.2)))) : kcall (O3 xs L) (d + 7) k_Sea_read [mR 13 r0, mR 11 0] s Q := by
  refine kc_of (cd := kd_Sea_read) (mx := 3) (rt := 2) rfl rfl ?_
  intro P hP
  refine mgo_sound hP [20] 260 _ _ _ _ _ ?_
  obtain ⟨q1, hq, h⟩ := bnd h
  refine go_call (fun _ hw => c_Arrays_fill_15 hq hw) ?_
  obtain ⟨q2, hq, h⟩ := bnd h
  refine go_call (fun _ hw => c_Sea_fillRow hq hw) ?_
  obtain ⟨q3, hq, h⟩ := bnd h
  refine go_call (fun _ hw => c_Tape_rewind hq hw) ?_
  exact c_Sea_read_L20 hP hQ FU _ _ h
/-! Rule_readClause -/
def f_Rule_readClause_L86 (r0 : Nat) (y2 : Int32) (y3 : Int32) (s : S2) : Option (S2 × Bool) := ((f_Rule_readCondition (f_Rule_readUnit 9) r0 y2 y3 s).bind fun q1 => (if (bI q1.2) = 0 then some (q1.1, false) else ((f_Tape_takes (Int32.ofInt 63) q1.1).bind fun q2 => (if (bI q2.2) = 0 then some (q2.1, false) else ((f_Rule_put r0 (Int32.ofInt 63) q2.1).bind fun q3 => ((f_Rule_readSum 9 r0 (Int32.ofInt 0) q3).bind fun q4 => some (q4.1, q4.2)))))))
def f_Rule_readClause_L74 (r0 : Nat) (x3 : Int32) (s : S2) : Option (S2 × Bool) := (if x3 = 0 then (f_Rule_readClause_L86 r0 (Int32.ofInt 0) (Int32.ofInt 1) s) else (f_Rule_readClause_L86 r0 (Int32.ofInt 0) (Int32.ofInt 0) s))
def f_Rule_readClause_L58 (r0 : Nat) (x3 : Int32) (s : S2) : Option (S2 × Bool) := (if x3 = 0 then ((f_Tape_look s).bind fun q1 => (if (bI (g_Rule_isComparison q1.2 q1.1)) = 0 then some (q1.1, true) else (f_Rule_readClause_L74 r0 x3 q1.1))) else (f_Rule_readClause_L74 r0 x3 s))
def f_Rule_readClause_L42 (r0 : Nat) (y0 : Int32) (s : S2) : Option (S2 × Bool) := (if y0 = 0 then ((f_Rule_readSum 9 r0 (Int32.ofInt 0) s).bind fun q1 => (if (bI q1.2) = 0 then some (q1.1, false) else (f_Rule_readClause_L58 r0 y0 q1.1))) else (f_Rule_readClause_L58 r0 y0 s))
def f_Rule_readClause_L37 (r0 : Nat) (s : S2) : Option (S2 × Bool) := (f_Rule_readClause_L42 r0 (Int32.ofInt 1) s)
def f_Rule_readClause (r0 : Nat) (s : S2) : Option (S2 × Bool) := ((f_Tape_takes (Int32.ofInt 121) s).bind fun q1 => (if (bI q1.2) = 0 then some (q1.1, false) else ((f_Tape_takes (Int32.ofInt 58) q1.1).bind fun q2 => (if (bI q2.2) = 0 then some (q2.1, false) else ((f_Tape_look q2.1).bind fun q3 => (if q3.2 = (Int32.ofInt 33) then (f_Rule_readClause_L37 r0 q3.1) else (if q3.2 = (Int32.ofInt 40) then (f_Rule_readClause_L37 r0 q3.1) else (f_Rule_readClause_L42 r0 (Int32.ofInt 0) q3.1))))))))
theorem c_Rule_readClause_L86 {xs : Nat → Int32} {L d : Nat} {r0 : Nat} {P : MK S2} {Q : S2 → Option MV → Prop} {res : S2 × Bool} (hP : MClosed (O3 xs L) (kcall (O3 xs L) (d + 392)) kd_Rule_readClause 2 Q P) (hQ : Q res.1 (some (mI (bI res.2)))) (y2 : Int32) (y3 : Int32) (x2 : Int32) (x3 : Int32) (s : S2) (h : f_Rule_readClause_L86 r0 y2 y3 s = some res) : P 86 [some (mR 17 r0), some (mR 11 0), some (mI x2), some (mI x3)] [mI y3, mI y2, mR 11 0, mR 17 r0] s (0, 0) := by
  refine mgo_from hP [37, 42, 58, 74, 86] 260 ?_
  obtain ⟨q1, hq, h⟩ := bnd h
  refine go_call (fun _ hw => c_Rule_readCondition (fun {e} he => cn_Rule_readUnit 9 (by omega)) hq hw) ?_
  refine go_br (fun hc : (bI q1.2) = 0 => ?_) (fun hc : ¬ ((bI q1.2) = 0) => ?_)
  · replace h := (if_pos hc).symm.trans h
    cases h
    exact ⟨Or.inl rfl, hQ⟩
  · replace h := (if_neg hc).symm.trans h
    obtain ⟨q2, hq, h⟩ := bnd h
    refine go_call (fun _ hw => c_Tape_takes hq hw) ?_
    refine go_brn (fun hc : ¬ ((bI q2.2) = 0) => ?_) (fun hc : (bI q2.2) = 0 => ?_)
    · replace h := (if_neg hc).symm.trans h
      obtain ⟨q3, hq, h⟩ := bnd h
      refine go_call (fun _ hw => c_Rule_put hq hw) ?_
      obtain ⟨q4, hq, h⟩ := bnd h
      refine go_call (fun _ hw => c_Rule_readSum hq hw) ?_
      cases h
      exact ⟨bI_01 _, hQ⟩
    · replace h := (if_pos hc).symm.trans h
      cases h
      exact ⟨Or.inl rfl, hQ⟩
theorem c_Rule_readClause_L74 {xs : Nat → Int32} {L d : Nat} {r0 : Nat} {P : MK S2} {Q : S2 → Option MV → Prop} {res : S2 × Bool} (hP : MClosed (O3 xs L) (kcall (O3 xs L) (d + 392)) kd_Rule_readClause 2 Q P) (hQ : Q res.1 (some (mI (bI res.2)))) (x3 : Int32) (x2 : Int32) (s : S2) (h : f_Rule_readClause_L74 r0 x3 s = some res) : P 74 [some (mR 17 r0), some (mR 11 0), some (mI x2), some (mI x3)] [] s (0, 0) := by
  refine mgo_from hP [37, 42, 58, 74, 86] 260 ?_
  refine go_brn (fun hc : ¬ (x3 = 0) => ?_) (fun hc : x3 = 0 => ?_)
  · replace h := (if_neg hc).symm.trans h
    exact c_Rule_readClause_L86 hP hQ _ _ _ _ _ h
  · replace h := (if_pos hc).symm.trans h
    exact c_Rule_readClause_L86 hP hQ _ _ _ _ _ h
theorem c_Rule_readClause_L58 {xs : Nat → Int32} {L d : Nat} {r0 : Nat} {P : MK S2} {Q : S2 → Option MV → Prop} {res : S2 × Bool} (hP : MClosed (O3 xs L) (kcall (O3 xs L) (d + 392)) kd_Rule_readClause 2 Q P) (hQ : Q res.1 (some (mI (bI res.2)))) (x3 : Int32) (x2 : Int32) (s : S2) (h : f_Rule_readClause_L58 r0 x3 s = some res) : P 58 [some (mR 17 r0), some (mR 11 0), some (mI x2), some (mI x3)] [] s (0, 0) := by
  refine mgo_from hP [37, 42, 58, 74, 86] 260 ?_
  refine go_brn (fun hc : ¬ (x3 = 0) => ?_) (fun hc : x3 = 0 => ?_)
  · replace h := (if_neg hc).symm.trans h
    exact c_Rule_readClause_L74 hP hQ _ _ _ h
  · replace h := (if_pos hc).symm.trans h
    obtain ⟨q1, hq, h⟩ := bnd h
    refine go_call (fun _ hw => c_Tape_look hq hw) ?_
    refine go_call (fun _ hw => c_Rule_isComparison hw) ?_
    refine go_brn (fun hc : ¬ ((bI (g_Rule_isComparison q1.2 q1.1)) = 0) => ?_) (fun hc : (bI (g_Rule_isComparison q1.2 q1.1)) = 0 => ?_)
    · replace h := (if_neg hc).symm.trans h
      exact c_Rule_readClause_L74 hP hQ _ _ _ h
    · replace h := (if_pos hc).symm.trans h
      cases h
      exact ⟨Or.inr rfl, hQ⟩
theorem c_Rule_readClause_L42 {xs : Nat → Int32} {L d : Nat} {r0 : Nat} {P : MK S2} {Q : S2 → Option MV → Prop} {res : S2 × Bool} (hP : MClosed (O3 xs L) (kcall (O3 xs L) (d + 392)) kd_Rule_readClause 2 Q P) (hQ : Q res.1 (some (mI (bI res.2)))) (y0 : Int32) (x2 : Int32) (s : S2) (h : f_Rule_readClause_L42 r0 y0 s = some res) : P 42 [some (mR 17 r0), some (mR 11 0), some (mI x2), none] [mI y0] s (0, 0) := by
  refine mgo_from hP [37, 42, 58, 74, 86] 260 ?_
  refine go_brn (fun hc : ¬ (y0 = 0) => ?_) (fun hc : y0 = 0 => ?_)
  · replace h := (if_neg hc).symm.trans h
    exact c_Rule_readClause_L58 hP hQ _ _ _ h
  · replace h := (if_pos hc).symm.trans h
    obtain ⟨q1, hq, h⟩ := bnd h
    refine go_call (fun _ hw => c_Rule_readSum hq hw) ?_
    refine go_brn (fun hc : ¬ ((bI q1.2) = 0) => ?_) (fun hc : (bI q1.2) = 0 => ?_)
    · replace h := (if_neg hc).symm.trans h
      exact c_Rule_readClause_L58 hP hQ _ _ _ h
    · replace h := (if_pos hc).symm.trans h
      cases h
      exact ⟨Or.inl rfl, hQ⟩
theorem c_Rule_readClause_L37 {xs : Nat → Int32} {L d : Nat} {r0 : Nat} {P : MK S2} {Q : S2 → Option MV → Prop} {res : S2 × Bool} (hP : MClosed (O3 xs L) (kcall (O3 xs L) (d + 392)) kd_Rule_readClause 2 Q P) (hQ : Q res.1 (some (mI (bI res.2)))) (x2 : Int32) (s : S2) (h : f_Rule_readClause_L37 r0 s = some res) : P 37 [some (mR 17 r0), some (mR 11 0), some (mI x2), none] [] s (0, 0) := by
  refine mgo_from hP [37, 42, 58, 74, 86] 260 ?_
  exact c_Rule_readClause_L42 hP hQ _ _ _ h
set_option maxRecDepth 20000 in
set_option maxHeartbeats 4000000 in
theorem c_Rule_readClause {xs : Nat → Int32} {L d : Nat} {r0 : Nat} {s : S2} {res : S2 × Bool} {Q : S2 → Option MV → Prop} (h : f_Rule_readClause r0 s = some res) (hQ : Q res.1 (some (mI (bI res.2)))) : kcall (O3 xs L) (d + 393) k_Rule_readClause [mR 17 r0, mR 11 0] s Q := by
  refine kc_of (cd := kd_Rule_readClause) (mx := 4) (rt := 2) rfl rfl ?_
  intro P hP
  refine mgo_sound hP [37, 42, 58, 74, 86] 260 _ _ _ _ _ ?_
  obtain ⟨q1, hq, h⟩ := bnd h
  refine go_call (fun _ hw => c_Tape_takes hq hw) ?_
  refine go_br (fun hc : (bI q1.2) = 0 => ?_) (fun hc : ¬ ((bI q1.2) = 0) => ?_)
  · replace h := (if_pos hc).symm.trans h
    cases h
    exact ⟨Or.inl rfl, hQ⟩
  · replace h := (if_neg hc).symm.trans h
    obtain ⟨q2, hq, h⟩ := bnd h
    refine go_call (fun _ hw => c_Tape_takes hq hw) ?_
    refine go_brn (fun hc : ¬ ((bI q2.2) = 0) => ?_) (fun hc : (bI q2.2) = 0 => ?_)
    · replace h := (if_neg hc).symm.trans h
      obtain ⟨q3, hq, h⟩ := bnd h
      refine go_call (fun _ hw => c_Tape_look hq hw) ?_
      refine go_br (fun hc : q3.2 = (Int32.ofInt 33) => ?_) (fun hc : ¬ (q3.2 = (Int32.ofInt 33)) => ?_)
      · replace h := (if_pos hc).symm.trans h
        exact c_Rule_readClause_L37 hP hQ _ _ h
      · replace h := (if_neg hc).symm.trans h
        refine go_brn (fun hc : ¬ (q3.2 = (Int32.ofInt 40)) => ?_) (fun hc : q3.2 = (Int32.ofInt 40) => ?_)
        · replace h := (if_neg hc).symm.trans h
          exact c_Rule_readClause_L42 hP hQ _ _ _ h
        · replace h := (if_pos hc).symm.trans h
          exact c_Rule_readClause_L37 hP hQ _ _ h
    · replace h := (if_pos hc).symm.trans h
      cases h
      exact ⟨Or.inl rfl, hQ⟩
/-! D_beginSea -/
def f_D_beginSea (s : S2) : Option (S2 × Int32) := ((f_Sea_read 1 s).bind fun q1 => (if (bI q1.2) = 0 then some (q1.1, (Int32.ofInt (-1))) else ((f_Sea_copy 0 1 q1.1).bind fun q2 => ((f_State_begin 0 0 q2).bind fun q3 => ((f_Past_clear q3).bind fun q4 => ((f_Charts_clear q4).bind fun q5 => ((some (pkS q5 10 0 16 (Int32.ofInt 0))).bind fun s6 => ((f_Tape_cut (Int32.ofInt 0) s6).bind fun q7 => some (q7, (g_Sea_isles 0 q7))))))))))
theorem c_D_beginSea {xs : Nat → Int32} {L d : Nat} {s : S2} {res : S2 × Int32} {Q : S2 → Option MV → Prop} (h : f_D_beginSea s = some res) (hQ : Q res.1 (some (mI res.2))) : kcall (O3 xs L) (d + 8) k_D_beginSea [mR 10 0] s Q := by
  refine kc_of (cd := kd_D_beginSea) (mx := 1) (rt := 1) rfl rfl ?_
  intro P hP
  refine mgo_sound hP [] 260 _ _ _ _ _ ?_
  obtain ⟨q1, hq, h⟩ := bnd h
  refine go_call (fun _ hw => c_Sea_read hq hw) ?_
  refine go_brn (fun hc : ¬ ((bI q1.2) = 0) => ?_) (fun hc : (bI q1.2) = 0 => ?_)
  · replace h := (if_neg hc).symm.trans h
    obtain ⟨q2, hq, h⟩ := bnd h
    refine go_call (fun _ hw => c_Sea_copy hq hw) ?_
    obtain ⟨q3, hq, h⟩ := bnd h
    refine go_call (fun _ hw => c_State_begin hq hw) ?_
    obtain ⟨q4, hq, h⟩ := bnd h
    refine go_call (fun _ hw => c_Past_clear hq hw) ?_
    obtain ⟨q5, hq, h⟩ := bnd h
    refine go_call (fun _ hw => c_Charts_clear hq hw) ?_
    replace h := bnds h
    obtain ⟨q7, hq, h⟩ := bnd h
    refine go_call (fun _ hw => c_Tape_cut hq hw) ?_
    refine go_call (fun _ hw => c_Sea_isles hw) ?_
    cases h
    exact hQ
  · replace h := (if_pos hc).symm.trans h
    cases h
    exact hQ
/-! D_go -/
def b_D_go_L21 (k21 : Int32 → Int32 → S2 → Option (S2 × Int32)) (x1 : Int32) (x2 : Int32) (s : S2) : Option (S2 × Int32) := (if x1 ≤ x2 then some (s, (g_State_season 0 s)) else ((f_Past_keep 0 s).bind fun q1 => ((f_D_passSeason q1).bind fun q2 => (k21 x1 (x2 + (Int32.ofInt 1)) q2))))
def f_D_go_L21 : Nat → Int32 → Int32 → S2 → Option (S2 × Int32)
  | 0 => fun _ _ _ => none
  | n + 1 => b_D_go_L21 (f_D_go_L21 n)
def f_D_go (a1 : Int32) (s : S2) : Option (S2 × Int32) := (if (bI (g_D_hasSea s)) = 0 then some (s, (Int32.ofInt (-1))) else (if (bI (g_D_isWithin a1 (Int32.ofInt 1) (Int32.ofInt 60) s)) = 0 then some (s, (Int32.ofInt (-1))) else (f_D_go_L21 FU a1 (Int32.ofInt 0) s)))
theorem cb_D_go_L21 {xs : Nat → Int32} {L d : Nat} {P : MK S2} {Q : S2 → Option MV → Prop} {res : S2 × Int32} (hP : MClosed (O3 xs L) (kcall (O3 xs L) (d + 6)) kd_D_go 1 Q P) (hQ : Q res.1 (some (mI res.2))) {k21 : Int32 → Int32 → S2 → Option (S2 × Int32)} (hk21 : ∀ (x1 : Int32) (x2 : Int32) (s : S2), k21 x1 x2 s = some res → P 21 [some (mR 10 0), some (mI x1), some (mI x2)] [] s (0, 0)) (x1 : Int32) (x2 : Int32) (s : S2) (h : b_D_go_L21 k21 x1 x2 s = some res) : P 21 [some (mR 10 0), some (mI x1), some (mI x2)] [] s (0, 0) := by
  refine mgo_from hP [21] 260 ?_
  refine go_br (fun hc : x1 ≤ x2 => ?_) (fun hc : ¬ (x1 ≤ x2) => ?_)
  · replace h := (if_pos hc).symm.trans h
    refine go_call (fun _ hw => c_State_season hw) ?_
    cases h
    exact hQ
  · replace h := (if_neg hc).symm.trans h
    obtain ⟨q1, hq, h⟩ := bnd h
    refine go_call (fun _ hw => c_Past_keep hq hw) ?_
    obtain ⟨q2, hq, h⟩ := bnd h
    refine go_call (fun _ hw => c_D_passSeason hq hw) ?_
    exact hk21 _ _ _ h
theorem c_D_go_L21 {xs : Nat → Int32} {L d : Nat} {P : MK S2} {Q : S2 → Option MV → Prop} {res : S2 × Int32} (hP : MClosed (O3 xs L) (kcall (O3 xs L) (d + 6)) kd_D_go 1 Q P) (hQ : Q res.1 (some (mI res.2))) : ∀ (fu : Nat) (x1 : Int32) (x2 : Int32) (s : S2), f_D_go_L21 fu x1 x2 s = some res → P 21 [some (mR 10 0), some (mI x1), some (mI x2)] [] s (0, 0)
  | 0, _, _, _, h => by cases h
  | fu + 1, x1, x2, s, h => cb_D_go_L21 hP hQ (c_D_go_L21 hP hQ fu) x1 x2 s h
theorem c_D_go {xs : Nat → Int32} {L d : Nat} {a1 : Int32} {s : S2} {res : S2 × Int32} {Q : S2 → Option MV → Prop} (h : f_D_go a1 s = some res) (hQ : Q res.1 (some (mI res.2))) : kcall (O3 xs L) (d + 7) k_D_go [mR 10 0, mI a1] s Q := by
  refine kc_of (cd := kd_D_go) (mx := 3) (rt := 1) rfl rfl ?_
  intro P hP
  refine mgo_sound hP [21] 260 _ _ _ _ _ ?_
  refine go_call (fun _ hw => c_D_hasSea hw) ?_
  refine go_br (fun hc : (bI (g_D_hasSea s)) = 0 => ?_) (fun hc : ¬ ((bI (g_D_hasSea s)) = 0) => ?_)
  · replace h := (if_pos hc).symm.trans h
    cases h
    exact hQ
  · replace h := (if_neg hc).symm.trans h
    refine go_call (fun _ hw => c_D_isWithin hw) ?_
    refine go_brn (fun hc : ¬ ((bI (g_D_isWithin a1 (Int32.ofInt 1) (Int32.ofInt 60) s)) = 0) => ?_) (fun hc : (bI (g_D_isWithin a1 (Int32.ofInt 1) (Int32.ofInt 60) s)) = 0 => ?_)
    · replace h := (if_neg hc).symm.trans h
      exact c_D_go_L21 hP hQ FU _ _ _ h
    · replace h := (if_pos hc).symm.trans h
      cases h
      exact hQ
/-! D_bicker -/
def f_D_bicker_L100 (y1 : Int32) (s : S2) : Option (S2 × Int32) := ((f_Deals_fewestDeals y1 s).bind fun q1 => some (q1.1, q1.2))
def f_D_bicker (a1 : Int32) (a2 : Int32) (a3 : Int32) (a4 : Int32) (a5 : Int32) (a6 : Int32) (s : S2) : Option (S2 × Int32) := (if (bI (g_D_isPair a1 s)) = 0 then some (s, (Int32.ofInt (-1))) else (if (bI (g_D_isWithin a2 (Int32.ofInt 0) (Int32.ofInt 999) s)) = 0 then some (s, (Int32.ofInt (-1))) else (if (bI (g_D_isWithin a3 (Int32.ofInt 0) (Int32.ofInt 999) s)) = 0 then some (s, (Int32.ofInt (-1))) else (if (bI (g_D_isWithin a4 (Int32.ofInt 1) (Int32.ofInt 6) s)) = 0 then some (s, (Int32.ofInt (-1))) else (if (bI (g_D_isWithin a5 (Int32.ofInt 1) (Int32.ofInt 9) s)) = 0 then some (s, (Int32.ofInt (-1))) else (if (bI (g_D_isWithin a6 (Int32.ofInt 0) (Int32.ofInt 1) s)) = 0 then some (s, (Int32.ofInt (-1))) else ((f_Deals_aim (a1 / (Int32.ofInt 10)) (jrem a1 (Int32.ofInt 10)) a2 a3 a4 a5 s).bind fun q1 => (if a6 = (Int32.ofInt 1) then (f_D_bicker_L100 (Int32.ofInt 1) q1) else (f_D_bicker_L100 (Int32.ofInt 0) q1)))))))))
theorem c_D_bicker_L100 {xs : Nat → Int32} {L d : Nat} {P : MK S2} {Q : S2 → Option MV → Prop} {res : S2 × Int32} (hP : MClosed (O3 xs L) (kcall (O3 xs L) (d + 7)) kd_D_bicker 1 Q P) (hQ : Q res.1 (some (mI res.2))) (y1 : Int32) (x1 : Int32) (x2 : Int32) (x3 : Int32) (x4 : Int32) (x5 : Int32) (x6 : Int32) (s : S2) (h : f_D_bicker_L100 y1 s = some res) : P 100 [some (mR 10 0), some (mI x1), some (mI x2), some (mI x3), some (mI x4), some (mI x5), some (mI x6)] [mI y1, mR 45 0] s (0, 0) := by
  refine mgo_from hP [100] 260 ?_
  obtain ⟨q1, hq, h⟩ := bnd h
  refine go_call (fun _ hw => c_Deals_fewestDeals hq hw) ?_
  cases h
  exact hQ
set_option maxRecDepth 20000 in
set_option maxHeartbeats 4000000 in
theorem c_D_bicker {xs : Nat → Int32} {L d : Nat} {a1 : Int32} {a2 : Int32} {a3 : Int32} {a4 : Int32} {a5 : Int32} {a6 : Int32} {s : S2} {res : S2 × Int32} {Q : S2 → Option MV → Prop} (h : f_D_bicker a1 a2 a3 a4 a5 a6 s = some res) (hQ : Q res.1 (some (mI res.2))) : kcall (O3 xs L) (d + 8) k_D_bicker [mR 10 0, mI a1, mI a2, mI a3, mI a4, mI a5, mI a6] s Q := by
  refine kc_of (cd := kd_D_bicker) (mx := 7) (rt := 1) rfl rfl ?_
  intro P hP
  refine mgo_sound hP [100] 260 _ _ _ _ _ ?_
  refine go_call (fun _ hw => c_D_isPair hw) ?_
  refine go_br (fun hc : (bI (g_D_isPair a1 s)) = 0 => ?_) (fun hc : ¬ ((bI (g_D_isPair a1 s)) = 0) => ?_)
  · replace h := (if_pos hc).symm.trans h
    cases h
    exact hQ
  · replace h := (if_neg hc).symm.trans h
    refine go_call (fun _ hw => c_D_isWithin hw) ?_
    refine go_br (fun hc : (bI (g_D_isWithin a2 (Int32.ofInt 0) (Int32.ofInt 999) s)) = 0 => ?_) (fun hc : ¬ ((bI (g_D_isWithin a2 (Int32.ofInt 0) (Int32.ofInt 999) s)) = 0) => ?_)
    · replace h := (if_pos hc).symm.trans h
      cases h
      exact hQ
    · replace h := (if_neg hc).symm.trans h
      refine go_call (fun _ hw => c_D_isWithin hw) ?_
      refine go_br (fun hc : (bI (g_D_isWithin a3 (Int32.ofInt 0) (Int32.ofInt 999) s)) = 0 => ?_) (fun hc : ¬ ((bI (g_D_isWithin a3 (Int32.ofInt 0) (Int32.ofInt 999) s)) = 0) => ?_)
      · replace h := (if_pos hc).symm.trans h
        cases h
        exact hQ
      · replace h := (if_neg hc).symm.trans h
        refine go_call (fun _ hw => c_D_isWithin hw) ?_
        refine go_br (fun hc : (bI (g_D_isWithin a4 (Int32.ofInt 1) (Int32.ofInt 6) s)) = 0 => ?_) (fun hc : ¬ ((bI (g_D_isWithin a4 (Int32.ofInt 1) (Int32.ofInt 6) s)) = 0) => ?_)
        · replace h := (if_pos hc).symm.trans h
          cases h
          exact hQ
        · replace h := (if_neg hc).symm.trans h
          refine go_call (fun _ hw => c_D_isWithin hw) ?_
          refine go_br (fun hc : (bI (g_D_isWithin a5 (Int32.ofInt 1) (Int32.ofInt 9) s)) = 0 => ?_) (fun hc : ¬ ((bI (g_D_isWithin a5 (Int32.ofInt 1) (Int32.ofInt 9) s)) = 0) => ?_)
          · replace h := (if_pos hc).symm.trans h
            cases h
            exact hQ
          · replace h := (if_neg hc).symm.trans h
            refine go_call (fun _ hw => c_D_isWithin hw) ?_
            refine go_brn (fun hc : ¬ ((bI (g_D_isWithin a6 (Int32.ofInt 0) (Int32.ofInt 1) s)) = 0) => ?_) (fun hc : (bI (g_D_isWithin a6 (Int32.ofInt 0) (Int32.ofInt 1) s)) = 0 => ?_)
            · replace h := (if_neg hc).symm.trans h
              refine go_and (by decide) ?_
              refine go_and (by decide) ?_
              obtain ⟨q1, hq, h⟩ := bnd h
              refine go_call (fun _ hw => c_Deals_aim hq hw) ?_
              refine go_brn (fun hc : ¬ (a6 = (Int32.ofInt 1)) => ?_) (fun hc : a6 = (Int32.ofInt 1) => ?_)
              · replace h := (if_neg hc).symm.trans h
                exact c_D_bicker_L100 hP hQ _ _ _ _ _ _ _ _ h
              · replace h := (if_pos hc).symm.trans h
                exact c_D_bicker_L100 hP hQ _ _ _ _ _ _ _ _ h
            · replace h := (if_pos hc).symm.trans h
              cases h
              exact hQ
/-! D_fits -/
def f_D_fits (a1 : Int32) (s : S2) : Option (S2 × Int32) := (if (bI (g_D_hasSea s)) = 0 then some (s, (Int32.ofInt (-1))) else ((f_Charts_fittingSet a1 s).bind fun q1 => some (q1.1, q1.2)))
theorem c_D_fits {xs : Nat → Int32} {L d : Nat} {a1 : Int32} {s : S2} {res : S2 × Int32} {Q : S2 → Option MV → Prop} (h : f_D_fits a1 s = some res) (hQ : Q res.1 (some (mI res.2))) : kcall (O3 xs L) (d + 8) k_D_fits [mR 10 0, mI a1] s Q := by
  refine kc_of (cd := kd_D_fits) (mx := 2) (rt := 1) rfl rfl ?_
  intro P hP
  refine mgo_sound hP [] 260 _ _ _ _ _ ?_
  refine go_call (fun _ hw => c_D_hasSea hw) ?_
  refine go_br (fun hc : (bI (g_D_hasSea s)) = 0 => ?_) (fun hc : ¬ ((bI (g_D_hasSea s)) = 0) => ?_)
  · replace h := (if_pos hc).symm.trans h
    cases h
    exact hQ
  · replace h := (if_neg hc).symm.trans h
    obtain ⟨q1, hq, h⟩ := bnd h
    refine go_call (fun _ hw => c_Charts_fittingSet hq hw) ?_
    cases h
    exact hQ
/-! M_fault -/
def f_M_fault (a1 : Int32) (s : S2) : Option (S2 × Int32) := (if a1 = 0 then ((f_M_readSea s).bind fun q2 => some (q2.1, q2.2)) else (if a1 = (Int32.ofInt 1) then ((f_M_readLaw (Int32.ofInt 4) s).bind fun q1 => some (q1.1, q1.2)) else some (s, (Int32.ofInt (-2)))))
theorem c_M_fault {xs : Nat → Int32} {L d : Nat} {a1 : Int32} {s : S2} {res : S2 × Int32} {Q : S2 → Option MV → Prop} (h : f_M_fault a1 s = some res) (hQ : Q res.1 (some (mI res.2))) : kcall (O3 xs L) (d + 395) k_M_fault [mR 60 0, mI a1] s Q := by
  refine kc_of (cd := kd_M_fault) (mx := 2) (rt := 1) rfl rfl ?_
  intro P hP
  refine mgo_sound hP [] 260 _ _ _ _ _ ?_
  refine go_brn (fun hc : ¬ (a1 = 0) => ?_) (fun hc : a1 = 0 => ?_)
  · replace h := (if_neg hc).symm.trans h
    refine go_brn (fun hc : ¬ (a1 = (Int32.ofInt 1)) => ?_) (fun hc : a1 = (Int32.ofInt 1) => ?_)
    · replace h := (if_neg hc).symm.trans h
      cases h
      exact hQ
    · replace h := (if_pos hc).symm.trans h
      obtain ⟨q1, hq, h⟩ := bnd h
      refine go_call (fun _ hw => c_M_readLaw hq hw) ?_
      cases h
      exact hQ
  · replace h := (if_pos hc).symm.trans h
    obtain ⟨q2, hq, h⟩ := bnd h
    refine go_call (fun _ hw => c_M_readSea hq hw) ?_
    cases h
    exact hQ
/-! M_layDrawn -/
def f_M_layDrawn_L312 (k205 : Int32 → S2 → Option S2) (x1 : Int32) (s : S2) : Option S2 := (k205 (x1 + (Int32.ofInt 1)) s)
def b_M_layDrawn_L205 (k205 : Int32 → S2 → Option S2) (x1 : Int32) (s : S2) : Option S2 := (if (Int32.ofInt 36) ≤ x1 then some s else ((ix 36 x1).bind fun j1 => (if (s.1 84 0 j1) ≤ 0 then (f_M_layDrawn_L312 k205 x1 s) else ((ix 36 x1).bind fun j2 => ((f_M_drawnTo (x1 / (Int32.ofInt 6)) (jrem x1 (Int32.ofInt 6)) (s.1 84 0 j2) (Int32.ofInt 1) s).bind fun q3 => ((ix 36 x1).bind fun j4 => ((f_M_drawnTo (x1 / (Int32.ofInt 6)) (jrem x1 (Int32.ofInt 6)) (s.1 84 0 j4) (Int32.ofInt 0) s).bind fun q5 => ((ix 6 (x1 / (Int32.ofInt 6))).bind fun j6 => ((ix 6 (x1 / (Int32.ofInt 6))).bind fun j8 => (some (pkS s 87 0 j8 ((s.1 87 0 j6) + q3))).bind fun s7 => ((ix 6 (x1 / (Int32.ofInt 6))).bind fun j9 => ((ix 6 (x1 / (Int32.ofInt 6))).bind fun j11 => (some (pkS s7 88 0 j11 ((s7.1 88 0 j9) + q5))).bind fun s10 => ((ix 6 (jrem x1 (Int32.ofInt 6))).bind fun j12 => ((ix 6 (jrem x1 (Int32.ofInt 6))).bind fun j14 => (some (pkS s10 87 0 j14 ((s10.1 87 0 j12) - q3))).bind fun s13 => ((ix 6 (jrem x1 (Int32.ofInt 6))).bind fun j15 => ((ix 6 (jrem x1 (Int32.ofInt 6))).bind fun j17 => (some (pkS s13 88 0 j17 ((s13.1 88 0 j15) - q5))).bind fun s16 => (f_M_layDrawn_L312 k205 x1 s16))))))))))))))))
def f_M_layDrawn_L205 : Nat → Int32 → S2 → Option S2
  | 0 => fun _ _ => none
  | n + 1 => b_M_layDrawn_L205 (f_M_layDrawn_L205 n)
def f_M_layDrawn_L71 (k30 : Int32 → S2 → Option S2) (x1 : Int32) (y0 : Int32) (s : S2) : Option S2 := ((ix 44 (((Int32.ofInt 4) * x1) + (Int32.ofInt 0))).bind fun j1 => ((ix 44 (((Int32.ofInt 4) * x1) + (Int32.ofInt 1))).bind fun j2 => ((f_M_drawnTo (s.1 77 0 j1) (s.1 77 0 j2) y0 (Int32.ofInt 1) s).bind fun q3 => ((f_M_drawnTo (s.1 77 0 j1) (s.1 77 0 j2) y0 (Int32.ofInt 0) s).bind fun q4 => ((ix 6 (s.1 77 0 j1)).bind fun j5 => ((ix 6 (s.1 82 0 j5)).bind fun j6 => ((ix 6 (s.1 82 0 j5)).bind fun j8 => (some (pkS s 87 0 j8 ((s.1 87 0 j6) + q3))).bind fun s7 => ((ix 6 (s.1 77 0 j1)).bind fun j9 => ((ix 6 (s7.1 82 0 j9)).bind fun j10 => ((ix 6 (s7.1 82 0 j9)).bind fun j12 => (some (pkS s7 88 0 j12 ((s7.1 88 0 j10) + q4))).bind fun s11 => ((ix 6 (s.1 77 0 j2)).bind fun j13 => ((ix 6 (s11.1 82 0 j13)).bind fun j14 => ((ix 6 (s11.1 82 0 j13)).bind fun j16 => (some (pkS s11 87 0 j16 ((s11.1 87 0 j14) - q3))).bind fun s15 => ((ix 6 (s.1 77 0 j2)).bind fun j17 => ((ix 6 (s15.1 82 0 j17)).bind fun j18 => ((ix 6 (s15.1 82 0 j17)).bind fun j20 => (some (pkS s15 88 0 j20 ((s15.1 88 0 j18) - q4))).bind fun s19 => (k30 (x1 + (Int32.ofInt 1)) s19)))))))))))))))))
def f_M_layDrawn_L66 (k30 : Int32 → S2 → Option S2) (x1 : Int32) (s : S2) : Option S2 := ((f_M_pullOf x1 s).bind fun q1 => (f_M_layDrawn_L71 k30 x1 q1.2 q1.1))
def b_M_layDrawn_L30 (k30 : Int32 → S2 → Option S2) (x1 : Int32) (s : S2) : Option S2 := (if ((s.1 60 0 29) + (s.1 60 0 42)) ≤ x1 then (if (s.1 75 0 2) = (Int32.ofInt 1) then ((f_M_trade s).bind fun q1 => (f_M_layDrawn_L205 FU (Int32.ofInt 0) q1)) else some s) else (if (s.1 60 0 29) ≤ x1 then (f_M_layDrawn_L66 k30 x1 s) else (if (bI (g_M_has (s.1 60 0 41) x1 s)) = 0 then (f_M_layDrawn_L66 k30 x1 s) else (f_M_layDrawn_L71 k30 x1 (Int32.ofInt 0) s))))
def f_M_layDrawn_L30 : Nat → Int32 → S2 → Option S2
  | 0 => fun _ _ => none
  | n + 1 => b_M_layDrawn_L30 (f_M_layDrawn_L30 n)
def b_M_layDrawn_L2 (k2 : Int32 → S2 → Option S2) (x1 : Int32) (s : S2) : Option S2 := (if (Int32.ofInt 6) ≤ x1 then (f_M_layDrawn_L30 FU (Int32.ofInt 0) s) else ((ix 6 x1).bind fun j2 => (some (pkS s 87 0 j2 (Int32.ofInt 0))).bind fun s1 => ((ix 6 x1).bind fun j4 => (some (pkS s1 88 0 j4 (Int32.ofInt 0))).bind fun s3 => (k2 (x1 + (Int32.ofInt 1)) s3))))
def f_M_layDrawn_L2 : Nat → Int32 → S2 → Option S2
  | 0 => fun _ _ => none
  | n + 1 => b_M_layDrawn_L2 (f_M_layDrawn_L2 n)
def f_M_layDrawn (s : S2) : Option S2 := (f_M_layDrawn_L2 FU (Int32.ofInt 0) s)
theorem c_M_layDrawn_L312 {xs : Nat → Int32} {L d : Nat} {P : MK S2} {Q : S2 → Option MV → Prop} {res : S2} (hP : MClosed (O3 xs L) (kcall (O3 xs L) (d + 5)) kd_M_layDrawn 0 Q P) (hQ : Q res none) {k205 : Int32 → S2 → Option S2} (hk205 : ∀ (x1 : Int32) (x2 : Option Int32) (x3 : Option Int32) (x4 : Option Int32) (x5 : Option Int32) (x6 : Option Int32) (s : S2), k205 x1 s = some res → P 205 [some (mR 60 0), some (mI x1), oI x2, oI x3, oI x4, oI x5, oI x6] [] s (0, 0)) (x1 : Int32) (x2 : Option Int32) (x3 : Option Int32) (x4 : Option Int32) (x5 : Option Int32) (x6 : Option Int32) (s : S2) (h : f_M_layDrawn_L312 k205 x1 s = some res) : P 312 [some (mR 60 0), some (mI x1), oI x2, oI x3, oI x4, oI x5, oI x6] [] s (0, 0) := by
  refine mgo_from hP [2, 30, 66, 71, 205, 312] 260 ?_
  exact hk205 _ x2 x3 x4 x5 x6 _ h
set_option maxRecDepth 20000 in
set_option maxHeartbeats 4000000 in
theorem cb_M_layDrawn_L205 {xs : Nat → Int32} {L d : Nat} {P : MK S2} {Q : S2 → Option MV → Prop} {res : S2} (hP : MClosed (O3 xs L) (kcall (O3 xs L) (d + 5)) kd_M_layDrawn 0 Q P) (hQ : Q res none) {k205 : Int32 → S2 → Option S2} (hk205 : ∀ (x1 : Int32) (x2 : Option Int32) (x3 : Option Int32) (x4 : Option Int32) (x5 : Option Int32) (x6 : Option Int32) (s : S2), k205 x1 s = some res → P 205 [some (mR 60 0), some (mI x1), oI x2, oI x3, oI x4, oI x5, oI x6] [] s (0, 0)) (x1 : Int32) (x2 : Option Int32) (x3 : Option Int32) (x4 : Option Int32) (x5 : Option Int32) (x6 : Option Int32) (s : S2) (h : b_M_layDrawn_L205 k205 x1 s = some res) : P 205 [some (mR 60 0), some (mI x1), oI x2, oI x3, oI x4, oI x5, oI x6] [] s (0, 0) := by
  refine mgo_from hP [2, 30, 66, 71, 205, 312] 260 ?_
  refine go_br (fun hc : (Int32.ofInt 36) ≤ x1 => ?_) (fun hc : ¬ ((Int32.ofInt 36) ≤ x1) => ?_)
  · replace h := (if_pos hc).symm.trans h
    cases h
    exact hQ
  · replace h := (if_neg hc).symm.trans h
    obtain ⟨j1, hj, h⟩ := bnd h
    refine go_ix j1 (ix_lt hj) (ix_eq hj) ?_
    refine go_br (fun hc : (s.1 84 0 j1) ≤ 0 => ?_) (fun hc : ¬ ((s.1 84 0 j1) ≤ 0) => ?_)
    · replace h := (if_pos hc).symm.trans h
      exact c_M_layDrawn_L312 hP hQ hk205 _ x2 x3 x4 x5 x6 _ h
    · replace h := (if_neg hc).symm.trans h
      refine go_and (by decide) ?_
      refine go_and (by decide) ?_
      obtain ⟨j2, hj, h⟩ := bnd h
      refine go_ix j2 (ix_lt hj) (ix_eq hj) ?_
      obtain ⟨q3, hq, h⟩ := bnd h
      refine go_call (fun _ hw => c_M_drawnTo hq hw) ?_
      refine go_and (by decide) ?_
      refine go_and (by decide) ?_
      obtain ⟨j4, hj, h⟩ := bnd h
      refine go_ix j4 (ix_lt hj) (ix_eq hj) ?_
      obtain ⟨q5, hq, h⟩ := bnd h
      refine go_call (fun _ hw => c_M_drawnTo hq hw) ?_
      refine go_and (by decide) ?_
      obtain ⟨j6, hj, h⟩ := bnd h
      refine go_ix j6 (ix_lt hj) (ix_eq hj) ?_
      obtain ⟨j8, hj, h⟩ := bnd h
      replace h := bnds h
      refine go_ix j8 (ix_lt hj) (ix_eq hj) ?_
      refine go_and (by decide) ?_
      obtain ⟨j9, hj, h⟩ := bnd h
      refine go_ix j9 (ix_lt hj) (ix_eq hj) ?_
      obtain ⟨j11, hj, h⟩ := bnd h
      replace h := bnds h
      refine go_ix j11 (ix_lt hj) (ix_eq hj) ?_
      refine go_and (by decide) ?_
      obtain ⟨j12, hj, h⟩ := bnd h
      refine go_ix j12 (ix_lt hj) (ix_eq hj) ?_
      obtain ⟨j14, hj, h⟩ := bnd h
      replace h := bnds h
      refine go_ix j14 (ix_lt hj) (ix_eq hj) ?_
      refine go_and (by decide) ?_
      obtain ⟨j15, hj, h⟩ := bnd h
      refine go_ix j15 (ix_lt hj) (ix_eq hj) ?_
      obtain ⟨j17, hj, h⟩ := bnd h
      replace h := bnds h
      refine go_ix j17 (ix_lt hj) (ix_eq hj) ?_
      exact c_M_layDrawn_L312 hP hQ hk205 _ (some q3) (some q5) x4 x5 x6 _ h
theorem c_M_layDrawn_L205 {xs : Nat → Int32} {L d : Nat} {P : MK S2} {Q : S2 → Option MV → Prop} {res : S2} (hP : MClosed (O3 xs L) (kcall (O3 xs L) (d + 5)) kd_M_layDrawn 0 Q P) (hQ : Q res none) : ∀ (fu : Nat) (x1 : Int32) (x2 : Option Int32) (x3 : Option Int32) (x4 : Option Int32) (x5 : Option Int32) (x6 : Option Int32) (s : S2), f_M_layDrawn_L205 fu x1 s = some res → P 205 [some (mR 60 0), some (mI x1), oI x2, oI x3, oI x4, oI x5, oI x6] [] s (0, 0)
  | 0, _, _, _, _, _, _, _, h => by cases h
  | fu + 1, x1, x2, x3, x4, x5, x6, s, h => cb_M_layDrawn_L205 hP hQ (c_M_layDrawn_L205 hP hQ fu) x1 x2 x3 x4 x5 x6 s h
set_option maxRecDepth 20000 in
set_option maxHeartbeats 4000000 in
theorem c_M_layDrawn_L71 {xs : Nat → Int32} {L d : Nat} {P : MK S2} {Q : S2 → Option MV → Prop} {res : S2} (hP : MClosed (O3 xs L) (kcall (O3 xs L) (d + 5)) kd_M_layDrawn 0 Q P) (hQ : Q res none) {k30 : Int32 → S2 → Option S2} (hk30 : ∀ (x1 : Int32) (x2 : Option Int32) (x3 : Option Int32) (x4 : Option Int32) (x5 : Option Int32) (x6 : Option Int32) (s : S2), k30 x1 s = some res → P 30 [some (mR 60 0), some (mI x1), oI x2, oI x3, oI x4, oI x5, oI x6] [] s (0, 0)) (x1 : Int32) (y0 : Int32) (x2 : Option Int32) (x3 : Option Int32) (x4 : Option Int32) (x5 : Option Int32) (x6 : Option Int32) (s : S2) (h : f_M_layDrawn_L71 k30 x1 y0 s = some res) : P 71 [some (mR 60 0), some (mI x1), oI x2, oI x3, oI x4, oI x5, oI x6] [mI y0] s (0, 0) := by
  refine mgo_from hP [2, 30, 66, 71, 205, 312] 260 ?_
  obtain ⟨j1, hj, h⟩ := bnd h
  refine go_ix j1 (ix_lt hj) (ix_eq hj) ?_
  obtain ⟨j2, hj, h⟩ := bnd h
  refine go_ix j2 (ix_lt hj) (ix_eq hj) ?_
  obtain ⟨q3, hq, h⟩ := bnd h
  refine go_call (fun _ hw => c_M_drawnTo hq hw) ?_
  obtain ⟨q4, hq, h⟩ := bnd h
  refine go_call (fun _ hw => c_M_drawnTo hq hw) ?_
  obtain ⟨j5, hj, h⟩ := bnd h
  refine go_ix j5 (ix_lt hj) (ix_eq hj) ?_
  obtain ⟨j6, hj, h⟩ := bnd h
  refine go_ix j6 (ix_lt hj) (ix_eq hj) ?_
  obtain ⟨j8, hj, h⟩ := bnd h
  replace h := bnds h
  refine go_ix j8 (ix_lt hj) (ix_eq hj) ?_
  obtain ⟨j9, hj, h⟩ := bnd h
  refine go_ix j9 (ix_lt hj) (ix_eq hj) ?_
  obtain ⟨j10, hj, h⟩ := bnd h
  refine go_ix j10 (ix_lt hj) (ix_eq hj) ?_
  obtain ⟨j12, hj, h⟩ := bnd h
  replace h := bnds h
  refine go_ix j12 (ix_lt hj) (ix_eq hj) ?_
  obtain ⟨j13, hj, h⟩ := bnd h
  refine go_ix j13 (ix_lt hj) (ix_eq hj) ?_
  obtain ⟨j14, hj, h⟩ := bnd h
  refine go_ix j14 (ix_lt hj) (ix_eq hj) ?_
  obtain ⟨j16, hj, h⟩ := bnd h
  replace h := bnds h
  refine go_ix j16 (ix_lt hj) (ix_eq hj) ?_
  obtain ⟨j17, hj, h⟩ := bnd h
  refine go_ix j17 (ix_lt hj) (ix_eq hj) ?_
  obtain ⟨j18, hj, h⟩ := bnd h
  refine go_ix j18 (ix_lt hj) (ix_eq hj) ?_
  obtain ⟨j20, hj, h⟩ := bnd h
  replace h := bnds h
  refine go_ix j20 (ix_lt hj) (ix_eq hj) ?_
  exact hk30 _ (some y0) (some (s.1 77 0 j1)) (some (s.1 77 0 j2)) (some q3) (some q4) _ h
theorem c_M_layDrawn_L66 {xs : Nat → Int32} {L d : Nat} {P : MK S2} {Q : S2 → Option MV → Prop} {res : S2} (hP : MClosed (O3 xs L) (kcall (O3 xs L) (d + 5)) kd_M_layDrawn 0 Q P) (hQ : Q res none) {k30 : Int32 → S2 → Option S2} (hk30 : ∀ (x1 : Int32) (x2 : Option Int32) (x3 : Option Int32) (x4 : Option Int32) (x5 : Option Int32) (x6 : Option Int32) (s : S2), k30 x1 s = some res → P 30 [some (mR 60 0), some (mI x1), oI x2, oI x3, oI x4, oI x5, oI x6] [] s (0, 0)) (x1 : Int32) (x2 : Option Int32) (x3 : Option Int32) (x4 : Option Int32) (x5 : Option Int32) (x6 : Option Int32) (s : S2) (h : f_M_layDrawn_L66 k30 x1 s = some res) : P 66 [some (mR 60 0), some (mI x1), oI x2, oI x3, oI x4, oI x5, oI x6] [] s (0, 0) := by
  refine mgo_from hP [2, 30, 66, 71, 205, 312] 260 ?_
  obtain ⟨q1, hq, h⟩ := bnd h
  refine go_call (fun _ hw => c_M_pullOf hq hw) ?_
  exact c_M_layDrawn_L71 hP hQ hk30 _ _ x2 x3 x4 x5 x6 _ h
theorem cb_M_layDrawn_L30 {xs : Nat → Int32} {L d : Nat} {P : MK S2} {Q : S2 → Option MV → Prop} {res : S2} (hP : MClosed (O3 xs L) (kcall (O3 xs L) (d + 5)) kd_M_layDrawn 0 Q P) (hQ : Q res none) {k30 : Int32 → S2 → Option S2} (hk30 : ∀ (x1 : Int32) (x2 : Option Int32) (x3 : Option Int32) (x4 : Option Int32) (x5 : Option Int32) (x6 : Option Int32) (s : S2), k30 x1 s = some res → P 30 [some (mR 60 0), some (mI x1), oI x2, oI x3, oI x4, oI x5, oI x6] [] s (0, 0)) (x1 : Int32) (x2 : Option Int32) (x3 : Option Int32) (x4 : Option Int32) (x5 : Option Int32) (x6 : Option Int32) (s : S2) (h : b_M_layDrawn_L30 k30 x1 s = some res) : P 30 [some (mR 60 0), some (mI x1), oI x2, oI x3, oI x4, oI x5, oI x6] [] s (0, 0) := by
  refine mgo_from hP [2, 30, 66, 71, 205, 312] 260 ?_
  refine go_br (fun hc : ((s.1 60 0 29) + (s.1 60 0 42)) ≤ x1 => ?_) (fun hc : ¬ (((s.1 60 0 29) + (s.1 60 0 42)) ≤ x1) => ?_)
  · replace h := (if_pos hc).symm.trans h
    refine go_ix 2 (Nat.le_of_ble_eq_true rfl) rfl ?_
    refine go_brn (fun hc : ¬ ((s.1 75 0 2) = (Int32.ofInt 1)) => ?_) (fun hc : (s.1 75 0 2) = (Int32.ofInt 1) => ?_)
    · replace h := (if_neg hc).symm.trans h
      cases h
      exact hQ
    · replace h := (if_pos hc).symm.trans h
      obtain ⟨q1, hq, h⟩ := bnd h
      refine go_call (fun _ hw => c_M_trade hq hw) ?_
      exact c_M_layDrawn_L205 hP hQ FU _ x2 x3 x4 x5 x6 _ h
  · replace h := (if_neg hc).symm.trans h
    refine go_br (fun hc : (s.1 60 0 29) ≤ x1 => ?_) (fun hc : ¬ ((s.1 60 0 29) ≤ x1) => ?_)
    · replace h := (if_pos hc).symm.trans h
      exact c_M_layDrawn_L66 hP hQ hk30 _ x2 x3 x4 x5 x6 _ h
    · replace h := (if_neg hc).symm.trans h
      refine go_call (fun _ hw => c_M_has hw) ?_
      refine go_br (fun hc : (bI (g_M_has (s.1 60 0 41) x1 s)) = 0 => ?_) (fun hc : ¬ ((bI (g_M_has (s.1 60 0 41) x1 s)) = 0) => ?_)
      · replace h := (if_pos hc).symm.trans h
        exact c_M_layDrawn_L66 hP hQ hk30 _ x2 x3 x4 x5 x6 _ h
      · replace h := (if_neg hc).symm.trans h
        exact c_M_layDrawn_L71 hP hQ hk30 _ _ x2 x3 x4 x5 x6 _ h
theorem c_M_layDrawn_L30 {xs : Nat → Int32} {L d : Nat} {P : MK S2} {Q : S2 → Option MV → Prop} {res : S2} (hP : MClosed (O3 xs L) (kcall (O3 xs L) (d + 5)) kd_M_layDrawn 0 Q P) (hQ : Q res none) : ∀ (fu : Nat) (x1 : Int32) (x2 : Option Int32) (x3 : Option Int32) (x4 : Option Int32) (x5 : Option Int32) (x6 : Option Int32) (s : S2), f_M_layDrawn_L30 fu x1 s = some res → P 30 [some (mR 60 0), some (mI x1), oI x2, oI x3, oI x4, oI x5, oI x6] [] s (0, 0)
  | 0, _, _, _, _, _, _, _, h => by cases h
  | fu + 1, x1, x2, x3, x4, x5, x6, s, h => cb_M_layDrawn_L30 hP hQ (c_M_layDrawn_L30 hP hQ fu) x1 x2 x3 x4 x5 x6 s h
theorem cb_M_layDrawn_L2 {xs : Nat → Int32} {L d : Nat} {P : MK S2} {Q : S2 → Option MV → Prop} {res : S2} (hP : MClosed (O3 xs L) (kcall (O3 xs L) (d + 5)) kd_M_layDrawn 0 Q P) (hQ : Q res none) {k2 : Int32 → S2 → Option S2} (hk2 : ∀ (x1 : Int32) (s : S2), k2 x1 s = some res → P 2 [some (mR 60 0), some (mI x1), none, none, none, none, none] [] s (0, 0)) (x1 : Int32) (s : S2) (h : b_M_layDrawn_L2 k2 x1 s = some res) : P 2 [some (mR 60 0), some (mI x1), none, none, none, none, none] [] s (0, 0) := by
  refine mgo_from hP [2, 30, 66, 71, 205, 312] 260 ?_
  refine go_br (fun hc : (Int32.ofInt 6) ≤ x1 => ?_) (fun hc : ¬ ((Int32.ofInt 6) ≤ x1) => ?_)
  · replace h := (if_pos hc).symm.trans h
    exact c_M_layDrawn_L30 hP hQ FU _ none none none none none _ h
  · replace h := (if_neg hc).symm.trans h
    obtain ⟨j2, hj, h⟩ := bnd h
    replace h := bnds h
    refine go_ix j2 (ix_lt hj) (ix_eq hj) ?_
    obtain ⟨j4, hj, h⟩ := bnd h
    replace h := bnds h
    refine go_ix j4 (ix_lt hj) (ix_eq hj) ?_
    exact hk2 _ _ h
theorem c_M_layDrawn_L2 {xs : Nat → Int32} {L d : Nat} {P : MK S2} {Q : S2 → Option MV → Prop} {res : S2} (hP : MClosed (O3 xs L) (kcall (O3 xs L) (d + 5)) kd_M_layDrawn 0 Q P) (hQ : Q res none) : ∀ (fu : Nat) (x1 : Int32) (s : S2), f_M_layDrawn_L2 fu x1 s = some res → P 2 [some (mR 60 0), some (mI x1), none, none, none, none, none] [] s (0, 0)
  | 0, _, _, h => by cases h
  | fu + 1, x1, s, h => cb_M_layDrawn_L2 hP hQ (c_M_layDrawn_L2 hP hQ fu) x1 s h
theorem c_M_layDrawn {xs : Nat → Int32} {L d : Nat} {s : S2} {res : S2} {Q : S2 → Option MV → Prop} (h : f_M_layDrawn s = some res) (hQ : Q res none) : kcall (O3 xs L) (d + 6) k_M_layDrawn [mR 60 0] s Q := by
  refine kc_of (cd := kd_M_layDrawn) (mx := 7) (rt := 0) rfl rfl ?_
  intro P hP
  refine mgo_sound hP [2, 30, 66, 71, 205, 312] 260 _ _ _ _ _ ?_
  exact c_M_layDrawn_L2 hP hQ FU _ _ h
/-! Rule_read -/
def b_Rule_read_L11 (r0 : Nat) (k11 : Int32 → S2 → Option (S2 × Bool)) (x2 : Int32) (s : S2) : Option (S2 × Bool) := (if (Int32.ofInt 240) ≤ x2 then some (s, false) else ((f_Rule_readClause r0 s).bind fun q1 => (if (bI q1.2) = 0 then some (q1.1, false) else ((f_Rule_put r0 (Int32.ofInt 59) q1.1).bind fun q2 => ((f_Tape_isOver q2).bind fun q3 => (if (bI q3.2) = 0 then ((f_Tape_takes (Int32.ofInt 59) q3.1).bind fun q4 => (if (bI q4.2) = 0 then some (q4.1, false) else (k11 (x2 + (Int32.ofInt 1)) q4.1))) else some (q3.1, true)))))))
def f_Rule_read_L11 (r0 : Nat) : Nat → Int32 → S2 → Option (S2 × Bool)
  | 0 => fun _ _ => none
  | n + 1 => b_Rule_read_L11 r0 (f_Rule_read_L11 r0 n)
def f_Rule_read (r0 : Nat) (s : S2) : Option (S2 × Bool) := ((some (pkS s 17 r0 2 (Int32.ofInt 0))).bind fun s1 => ((f_Tape_rewind s1).bind fun q2 => (f_Rule_read_L11 r0 FU (Int32.ofInt 0) q2)))
set_option maxRecDepth 20000 in
set_option maxHeartbeats 4000000 in
theorem cb_Rule_read_L11 {xs : Nat → Int32} {L d : Nat} {r0 : Nat} {P : MK S2} {Q : S2 → Option MV → Prop} {res : S2 × Bool} (hP : MClosed (O3 xs L) (kcall (O3 xs L) (d + 393)) kd_Rule_read 2 Q P) (hQ : Q res.1 (some (mI (bI res.2)))) {k11 : Int32 → S2 → Option (S2 × Bool)} (hk11 : ∀ (x2 : Int32) (s : S2), k11 x2 s = some res → P 11 [some (mR 17 r0), some (mR 11 0), some (mI x2)] [] s (0, 0)) (x2 : Int32) (s : S2) (h : b_Rule_read_L11 r0 k11 x2 s = some res) : P 11 [some (mR 17 r0), some (mR 11 0), some (mI x2)] [] s (0, 0) := by
  refine mgo_from hP [11] 260 ?_
  refine go_br (fun hc : (Int32.ofInt 240) ≤ x2 => ?_) (fun hc : ¬ ((Int32.ofInt 240) ≤ x2) => ?_)
  · replace h := (if_pos hc).symm.trans h
    cases h
    exact ⟨Or.inl rfl, hQ⟩
  · replace h := (if_neg hc).symm.trans h
    obtain ⟨q1, hq, h⟩ := bnd h
    refine go_call (fun _ hw => c_Rule_readClause hq hw) ?_
    refine go_brn (fun hc : ¬ ((bI q1.2) = 0) => ?_) (fun hc : (bI q1.2) = 0 => ?_)
    · replace h := (if_neg hc).symm.trans h
      obtain ⟨q2, hq, h⟩ := bnd h
      refine go_call (fun _ hw => c_Rule_put hq hw) ?_
      obtain ⟨q3, hq, h⟩ := bnd h
      refine go_call (fun _ hw => c_Tape_isOver hq hw) ?_
      refine go_br (fun hc : (bI q3.2) = 0 => ?_) (fun hc : ¬ ((bI q3.2) = 0) => ?_)
      · replace h := (if_pos hc).symm.trans h
        obtain ⟨q4, hq, h⟩ := bnd h
        refine go_call (fun _ hw => c_Tape_takes hq hw) ?_
        refine go_brn (fun hc : ¬ ((bI q4.2) = 0) => ?_) (fun hc : (bI q4.2) = 0 => ?_)
        · replace h := (if_neg hc).symm.trans h
          exact hk11 _ _ h
        · replace h := (if_pos hc).symm.trans h
          cases h
          exact ⟨Or.inl rfl, hQ⟩
      · replace h := (if_neg hc).symm.trans h
        cases h
        exact ⟨Or.inr rfl, hQ⟩
    · replace h := (if_pos hc).symm.trans h
      cases h
      exact ⟨Or.inl rfl, hQ⟩
theorem c_Rule_read_L11 {xs : Nat → Int32} {L d : Nat} {r0 : Nat} {P : MK S2} {Q : S2 → Option MV → Prop} {res : S2 × Bool} (hP : MClosed (O3 xs L) (kcall (O3 xs L) (d + 393)) kd_Rule_read 2 Q P) (hQ : Q res.1 (some (mI (bI res.2)))) : ∀ (fu : Nat) (x2 : Int32) (s : S2), f_Rule_read_L11 r0 fu x2 s = some res → P 11 [some (mR 17 r0), some (mR 11 0), some (mI x2)] [] s (0, 0)
  | 0, _, _, h => by cases h
  | fu + 1, x2, s, h => cb_Rule_read_L11 hP hQ (c_Rule_read_L11 hP hQ fu) x2 s h
theorem c_Rule_read {xs : Nat → Int32} {L d : Nat} {r0 : Nat} {s : S2} {res : S2 × Bool} {Q : S2 → Option MV → Prop} (h : f_Rule_read r0 s = some res) (hQ : Q res.1 (some (mI (bI res.2)))) : kcall (O3 xs L) (d + 394) k_Rule_read [mR 17 r0, mR 11 0] s Q := by
  refine kc_of (cd := kd_Rule_read) (mx := 3) (rt := 2) rfl rfl ?_
  intro P hP
  refine mgo_sound hP [11] 260 _ _ _ _ _ ?_
  replace h := bnds h
  obtain ⟨q2, hq, h⟩ := bnd h
  refine go_call (fun _ hw => c_Tape_rewind hq hw) ?_
  exact c_Rule_read_L11 hP hQ FU _ _ h
/-! D_addRule -/
def f_D_addRule (s : S2) : Option (S2 × Int32) := (if (bI (g_D_isWithin (s.1 10 0 14) (Int32.ofInt 0) (Int32.ofInt 3) s)) = 0 then some (s, (Int32.ofInt (-1))) else ((f_Rule_read 4 s).bind fun q1 => (if (bI q1.2) = 0 then some (q1.1, (Int32.ofInt (-1))) else ((ix 4 (q1.1.1 10 0 14)).bind fun j2 => ((f_Rule_copy j2 4 q1.1).bind fun q3 => ((f_Tape_cut (Int32.ofInt 0) q3).bind fun q4 => ((some (pkS q4 10 0 14 ((q4.1 10 0 14) + (Int32.ofInt 1)))).bind fun s5 => some (s5, ((s5.1 10 0 14) - (Int32.ofInt 1))))))))))
theorem c_D_addRule {xs : Nat → Int32} {L d : Nat} {s : S2} {res : S2 × Int32} {Q : S2 → Option MV → Prop} (h : f_D_addRule s = some res) (hQ : Q res.1 (some (mI res.2))) : kcall (O3 xs L) (d + 395) k_D_addRule [mR 10 0] s Q := by
  refine kc_of (cd := kd_D_addRule) (mx := 1) (rt := 1) rfl rfl ?_
  intro P hP
  refine mgo_sound hP [] 260 _ _ _ _ _ ?_
  refine go_call (fun _ hw => c_D_isWithin hw) ?_
  refine go_br (fun hc : (bI (g_D_isWithin (s.1 10 0 14) (Int32.ofInt 0) (Int32.ofInt 3) s)) = 0 => ?_) (fun hc : ¬ ((bI (g_D_isWithin (s.1 10 0 14) (Int32.ofInt 0) (Int32.ofInt 3) s)) = 0) => ?_)
  · replace h := (if_pos hc).symm.trans h
    cases h
    exact hQ
  · replace h := (if_neg hc).symm.trans h
    obtain ⟨q1, hq, h⟩ := bnd h
    refine go_call (fun _ hw => c_Rule_read hq hw) ?_
    refine go_brn (fun hc : ¬ ((bI q1.2) = 0) => ?_) (fun hc : (bI q1.2) = 0 => ?_)
    · replace h := (if_neg hc).symm.trans h
      obtain ⟨j2, hj, h⟩ := bnd h
      refine go_ix j2 (ix_lt hj) (ix_eq hj) ?_
      obtain ⟨q3, hq, h⟩ := bnd h
      refine go_call (fun _ hw => c_Rule_copy hq hw) ?_
      obtain ⟨q4, hq, h⟩ := bnd h
      refine go_call (fun _ hw => c_Tape_cut hq hw) ?_
      replace h := bnds h
      cases h
      exact hQ
    · replace h := (if_pos hc).symm.trans h
      cases h
      exact hQ
/-! M_goAll -/
def f_M_goAll_L151 (k11 : Int32 → S2 → Option S2) (x1 : Int32) (s : S2) : Option S2 := (k11 (x1 + (Int32.ofInt 1)) s)
def b_M_goAll_L11 (k11 : Int32 → S2 → Option S2) (x1 : Int32) (s : S2) : Option S2 := (if (s.1 60 0 28) ≤ x1 then some s else ((ix 6 x1).bind fun j1 => ((ix 6 x1).bind fun j3 => (some (pkS s 89 0 j3 (s.1 79 0 j1))).bind fun s2 => ((ix 6 x1).bind fun j4 => ((ix 6 x1).bind fun j6 => (some (pkS s2 90 0 j6 (s2.1 80 0 j4))).bind fun s5 => ((f_M_isHead x1 s5).bind fun q7 => (if (bI q7) = 0 then (f_M_goAll_L151 k11 x1 s5) else ((ix 6 x1).bind fun j8 => ((ix 6 x1).bind fun j9 => ((ix 6 x1).bind fun j10 => (if (s5.1 81 0 j10) = 0 then none else ((ix 6 x1).bind fun j12 => (some (pkS s5 79 0 j12 (g_M_within ((s5.1 79 0 j8) + ((s5.1 87 0 j9) / (s5.1 81 0 j10))) s5))).bind fun s11 => ((ix 6 x1).bind fun j13 => ((ix 6 x1).bind fun j14 => ((ix 6 x1).bind fun j15 => (if (s11.1 81 0 j15) = 0 then none else ((ix 6 x1).bind fun j17 => (some (pkS s11 80 0 j17 (g_M_within ((s11.1 80 0 j13) + ((s11.1 88 0 j14) / (s11.1 81 0 j15))) s11))).bind fun s16 => ((ix 6 x1).bind fun j18 => ((ix 6 x1).bind fun j19 => ((ix 6 x1).bind fun j20 => ((ix 6 x1).bind fun j21 => ((some (pkS s16 60 0 52 ((s16.1 60 0 52) + ((jabs ((s16.1 79 0 j18) - (s16.1 89 0 j19))) + (jabs ((s16.1 80 0 j20) - (s16.1 90 0 j21))))))).bind fun s22 => (f_M_goAll_L151 k11 x1 s22)))))))))))))))))))))))
def f_M_goAll_L11 : Nat → Int32 → S2 → Option S2
  | 0 => fun _ _ => none
  | n + 1 => b_M_goAll_L11 (f_M_goAll_L11 n)
def f_M_goAll (s : S2) : Option S2 := ((f_M_layDrawn s).bind fun q1 => ((some (pkS q1 60 0 52 (Int32.ofInt 0))).bind fun s2 => (f_M_goAll_L11 FU (Int32.ofInt 0) s2)))
theorem c_M_goAll_L151 {xs : Nat → Int32} {L d : Nat} {P : MK S2} {Q : S2 → Option MV → Prop} {res : S2} (hP : MClosed (O3 xs L) (kcall (O3 xs L) (d + 6)) kd_M_goAll 0 Q P) (hQ : Q res none) {k11 : Int32 → S2 → Option S2} (hk11 : ∀ (x1 : Int32) (s : S2), k11 x1 s = some res → P 11 [some (mR 60 0), some (mI x1)] [] s (0, 0)) (x1 : Int32) (s : S2) (h : f_M_goAll_L151 k11 x1 s = some res) : P 151 [some (mR 60 0), some (mI x1)] [] s (0, 0) := by
  refine mgo_from hP [11, 151] 260 ?_
  exact hk11 _ _ h
set_option maxRecDepth 20000 in
set_option maxHeartbeats 4000000 in
theorem cb_M_goAll_L11 {xs : Nat → Int32} {L d : Nat} {P : MK S2} {Q : S2 → Option MV → Prop} {res : S2} (hP : MClosed (O3 xs L) (kcall (O3 xs L) (d + 6)) kd_M_goAll 0 Q P) (hQ : Q res none) {k11 : Int32 → S2 → Option S2} (hk11 : ∀ (x1 : Int32) (s : S2), k11 x1 s = some res → P 11 [some (mR 60 0), some (mI x1)] [] s (0, 0)) (x1 : Int32) (s : S2) (h : b_M_goAll_L11 k11 x1 s = some res) : P 11 [some (mR 60 0), some (mI x1)] [] s (0, 0) := by
  refine mgo_from hP [11, 151] 260 ?_
  refine go_br (fun hc : (s.1 60 0 28) ≤ x1 => ?_) (fun hc : ¬ ((s.1 60 0 28) ≤ x1) => ?_)
  · replace h := (if_pos hc).symm.trans h
    cases h
    exact hQ
  · replace h := (if_neg hc).symm.trans h
    obtain ⟨j1, hj, h⟩ := bnd h
    refine go_ix j1 (ix_lt hj) (ix_eq hj) ?_
    obtain ⟨j3, hj, h⟩ := bnd h
    replace h := bnds h
    refine go_ix j3 (ix_lt hj) (ix_eq hj) ?_
    obtain ⟨j4, hj, h⟩ := bnd h
    refine go_ix j4 (ix_lt hj) (ix_eq hj) ?_
    obtain ⟨j6, hj, h⟩ := bnd h
    replace h := bnds h
    refine go_ix j6 (ix_lt hj) (ix_eq hj) ?_
    obtain ⟨q7, hq, h⟩ := bnd h
    refine go_call (fun _ hw => c_M_isHead hq hw) ?_
    refine go_br (fun hc : (bI q7) = 0 => ?_) (fun hc : ¬ ((bI q7) = 0) => ?_)
    · replace h := (if_pos hc).symm.trans h
      exact c_M_goAll_L151 hP hQ hk11 _ _ h
    · replace h := (if_neg hc).symm.trans h
      obtain ⟨j8, hj, h⟩ := bnd h
      refine go_ix j8 (ix_lt hj) (ix_eq hj) ?_
      obtain ⟨j9, hj, h⟩ := bnd h
      refine go_ix j9 (ix_lt hj) (ix_eq hj) ?_
      obtain ⟨j10, hj, h⟩ := bnd h
      refine go_ix j10 (ix_lt hj) (ix_eq hj) ?_
      obtain ⟨hz, h⟩ := nif h
      refine go_and hz ?_
      refine go_call (fun _ hw => c_M_within hw) ?_
      obtain ⟨j12, hj, h⟩ := bnd h
      replace h := bnds h
      refine go_ix j12 (ix_lt hj) (ix_eq hj) ?_
      obtain ⟨j13, hj, h⟩ := bnd h
      refine go_ix j13 (ix_lt hj) (ix_eq hj) ?_
      obtain ⟨j14, hj, h⟩ := bnd h
      refine go_ix j14 (ix_lt hj) (ix_eq hj) ?_
      obtain ⟨j15, hj, h⟩ := bnd h
      refine go_ix j15 (ix_lt hj) (ix_eq hj) ?_
      obtain ⟨hz, h⟩ := nif h
      refine go_and hz ?_
      refine go_call (fun _ hw => c_M_within hw) ?_
      obtain ⟨j17, hj, h⟩ := bnd h
      replace h := bnds h
      refine go_ix j17 (ix_lt hj) (ix_eq hj) ?_
      obtain ⟨j18, hj, h⟩ := bnd h
      refine go_ix j18 (ix_lt hj) (ix_eq hj) ?_
      obtain ⟨j19, hj, h⟩ := bnd h
      refine go_ix j19 (ix_lt hj) (ix_eq hj) ?_
      obtain ⟨j20, hj, h⟩ := bnd h
      refine go_ix j20 (ix_lt hj) (ix_eq hj) ?_
      obtain ⟨j21, hj, h⟩ := bnd h
      refine go_ix j21 (ix_lt hj) (ix_eq hj) ?_
      replace h := bnds h
      exact c_M_goAll_L151 hP hQ hk11 _ _ h
theorem c_M_goAll_L11 {xs : Nat → Int32} {L d : Nat} {P : MK S2} {Q : S2 → Option MV → Prop} {res : S2} (hP : MClosed (O3 xs L) (kcall (O3 xs L) (d + 6)) kd_M_goAll 0 Q P) (hQ : Q res none) : ∀ (fu : Nat) (x1 : Int32) (s : S2), f_M_goAll_L11 fu x1 s = some res → P 11 [some (mR 60 0), some (mI x1)] [] s (0, 0)
  | 0, _, _, h => by cases h
  | fu + 1, x1, s, h => cb_M_goAll_L11 hP hQ (c_M_goAll_L11 hP hQ fu) x1 s h
theorem c_M_goAll {xs : Nat → Int32} {L d : Nat} {s : S2} {res : S2} {Q : S2 → Option MV → Prop} (h : f_M_goAll s = some res) (hQ : Q res none) : kcall (O3 xs L) (d + 7) k_M_goAll [mR 60 0] s Q := by
  refine kc_of (cd := kd_M_goAll) (mx := 2) (rt := 0) rfl rfl ?_
  intro P hP
  refine mgo_sound hP [11, 151] 260 _ _ _ _ _ ?_
  obtain ⟨q1, hq, h⟩ := bnd h
  refine go_call (fun _ hw => c_M_layDrawn hq hw) ?_
  replace h := bnds h
  exact c_M_goAll_L11 hP hQ FU _ _ h
/-! M_drift -/
def f_M_drift_L69 (y0 : Int32) (s : S2) : Option (S2 × Int32) := ((f_M_takeBack s).bind fun q1 => some (q1, y0))
def f_M_drift (a1 : Int32) (a2 : Int32) (s : S2) : Option (S2 × Int32) := (if (bI (g_M_isIsle a1 s)) = 0 then some (s, (Int32.ofInt (-1000000))) else (if (bI (g_M_in a2 (Int32.ofInt 0) (Int32.ofInt 1) s)) = 0 then some (s, (Int32.ofInt (-1000000))) else ((f_M_putAside s).bind fun q1 => ((ix 6 a1).bind fun j2 => ((f_M_goAll q1).bind fun q3 => (if a2 = 0 then ((ix 6 (q1.1 82 0 j2)).bind fun j6 => ((ix 6 (q1.1 82 0 j2)).bind fun j7 => (f_M_drift_L69 ((q3.1 79 0 j6) - (q3.1 89 0 j7)) q3))) else ((ix 6 (q1.1 82 0 j2)).bind fun j4 => ((ix 6 (q1.1 82 0 j2)).bind fun j5 => (f_M_drift_L69 ((q3.1 80 0 j4) - (q3.1 90 0 j5)) q3)))))))))
theorem c_M_drift_L69 {xs : Nat → Int32} {L d : Nat} {P : MK S2} {Q : S2 → Option MV → Prop} {res : S2 × Int32} (hP : MClosed (O3 xs L) (kcall (O3 xs L) (d + 7)) kd_M_drift 1 Q P) (hQ : Q res.1 (some (mI res.2))) (y0 : Int32) (x1 : Int32) (x2 : Int32) (x3 : Int32) (s : S2) (h : f_M_drift_L69 y0 s = some res) : P 69 [some (mR 60 0), some (mI x1), some (mI x2), some (mI x3), none] [mI y0] s (0, 0) := by
  refine mgo_from hP [69] 260 ?_
  obtain ⟨q1, hq, h⟩ := bnd h
  refine go_call (fun _ hw => c_M_takeBack hq hw) ?_
  cases h
  exact hQ
set_option maxRecDepth 20000 in
set_option maxHeartbeats 4000000 in
theorem c_M_drift {xs : Nat → Int32} {L d : Nat} {a1 : Int32} {a2 : Int32} {s : S2} {res : S2 × Int32} {Q : S2 → Option MV → Prop} (h : f_M_drift a1 a2 s = some res) (hQ : Q res.1 (some (mI res.2))) : kcall (O3 xs L) (d + 8) k_M_drift [mR 60 0, mI a1, mI a2] s Q := by
  refine kc_of (cd := kd_M_drift) (mx := 5) (rt := 1) rfl rfl ?_
  intro P hP
  refine mgo_sound hP [69] 260 _ _ _ _ _ ?_
  refine go_call (fun _ hw => c_M_isIsle hw) ?_
  refine go_br (fun hc : (bI (g_M_isIsle a1 s)) = 0 => ?_) (fun hc : ¬ ((bI (g_M_isIsle a1 s)) = 0) => ?_)
  · replace h := (if_pos hc).symm.trans h
    cases h
    exact hQ
  · replace h := (if_neg hc).symm.trans h
    refine go_call (fun _ hw => c_M_in hw) ?_
    refine go_brn (fun hc : ¬ ((bI (g_M_in a2 (Int32.ofInt 0) (Int32.ofInt 1) s)) = 0) => ?_) (fun hc : (bI (g_M_in a2 (Int32.ofInt 0) (Int32.ofInt 1) s)) = 0 => ?_)
    · replace h := (if_neg hc).symm.trans h
      obtain ⟨q1, hq, h⟩ := bnd h
      refine go_call (fun _ hw => c_M_putAside hq hw) ?_
      obtain ⟨j2, hj, h⟩ := bnd h
      refine go_ix j2 (ix_lt hj) (ix_eq hj) ?_
      obtain ⟨q3, hq, h⟩ := bnd h
      refine go_call (fun _ hw => c_M_goAll hq hw) ?_
      refine go_brn (fun hc : ¬ (a2 = 0) => ?_) (fun hc : a2 = 0 => ?_)
      · replace h := (if_neg hc).symm.trans h
        obtain ⟨j4, hj, h⟩ := bnd h
        refine go_ix j4 (ix_lt hj) (ix_eq hj) ?_
        obtain ⟨j5, hj, h⟩ := bnd h
        refine go_ix j5 (ix_lt hj) (ix_eq hj) ?_
        exact c_M_drift_L69 hP hQ _ _ _ _ _ h
      · replace h := (if_pos hc).symm.trans h
        obtain ⟨j6, hj, h⟩ := bnd h
        refine go_ix j6 (ix_lt hj) (ix_eq hj) ?_
        obtain ⟨j7, hj, h⟩ := bnd h
        refine go_ix j7 (ix_lt hj) (ix_eq hj) ?_
        exact c_M_drift_L69 hP hQ _ _ _ _ _ h
    · replace h := (if_pos hc).symm.trans h
      cases h
      exact hQ
/-! D_fault -/
def f_D_fault (a1 : Int32) (s : S2) : Option (S2 × Int32) := (if a1 = 0 then ((f_Sea_read 1 s).bind fun q2 => (if (bI q2.2) = 0 then some (q2.1, (g_Tape_place q2.1)) else some (q2.1, (Int32.ofInt (-1))))) else (if a1 = (Int32.ofInt 1) then ((f_Rule_read 4 s).bind fun q1 => (if (bI q1.2) = 0 then some (q1.1, (g_Tape_place q1.1)) else some (q1.1, (Int32.ofInt (-1))))) else some (s, (Int32.ofInt (-2)))))
set_option maxRecDepth 20000 in
set_option maxHeartbeats 4000000 in
theorem c_D_fault {xs : Nat → Int32} {L d : Nat} {a1 : Int32} {s : S2} {res : S2 × Int32} {Q : S2 → Option MV → Prop} (h : f_D_fault a1 s = some res) (hQ : Q res.1 (some (mI res.2))) : kcall (O3 xs L) (d + 395) k_D_fault [mR 10 0, mI a1] s Q := by
  refine kc_of (cd := kd_D_fault) (mx := 2) (rt := 1) rfl rfl ?_
  intro P hP
  refine mgo_sound hP [] 260 _ _ _ _ _ ?_
  refine go_brn (fun hc : ¬ (a1 = 0) => ?_) (fun hc : a1 = 0 => ?_)
  · replace h := (if_neg hc).symm.trans h
    refine go_brn (fun hc : ¬ (a1 = (Int32.ofInt 1)) => ?_) (fun hc : a1 = (Int32.ofInt 1) => ?_)
    · replace h := (if_neg hc).symm.trans h
      cases h
      exact hQ
    · replace h := (if_pos hc).symm.trans h
      obtain ⟨q1, hq, h⟩ := bnd h
      refine go_call (fun _ hw => c_Rule_read hq hw) ?_
      refine go_br (fun hc : (bI q1.2) = 0 => ?_) (fun hc : ¬ ((bI q1.2) = 0) => ?_)
      · replace h := (if_pos hc).symm.trans h
        refine go_call (fun _ hw => c_Tape_place hw) ?_
        cases h
        exact hQ
      · replace h := (if_neg hc).symm.trans h
        cases h
        exact hQ
  · replace h := (if_pos hc).symm.trans h
    obtain ⟨q2, hq, h⟩ := bnd h
    refine go_call (fun _ hw => c_Sea_read hq hw) ?_
    refine go_br (fun hc : (bI q2.2) = 0 => ?_) (fun hc : ¬ ((bI q2.2) = 0) => ?_)
    · replace h := (if_pos hc).symm.trans h
      refine go_call (fun _ hw => c_Tape_place hw) ?_
      cases h
      exact hQ
    · replace h := (if_neg hc).symm.trans h
      cases h
      exact hQ
/-! D_text -/
def f_D_text (a1 : Int32) (s : S2) : Option (S2 × Int32) := (if a1 = 0 then ((f_D_beginSea s).bind fun q2 => some (q2.1, q2.2)) else (if a1 = (Int32.ofInt 1) then ((f_D_addRule s).bind fun q1 => some (q1.1, q1.2)) else some (s, (Int32.ofInt (-1)))))
theorem c_D_text {xs : Nat → Int32} {L d : Nat} {a1 : Int32} {s : S2} {res : S2 × Int32} {Q : S2 → Option MV → Prop} (h : f_D_text a1 s = some res) (hQ : Q res.1 (some (mI res.2))) : kcall (O3 xs L) (d + 396) k_D_text [mR 10 0, mI a1] s Q := by
  refine kc_of (cd := kd_D_text) (mx := 2) (rt := 1) rfl rfl ?_
  intro P hP
  refine mgo_sound hP [] 260 _ _ _ _ _ ?_
  refine go_brn (fun hc : ¬ (a1 = 0) => ?_) (fun hc : a1 = 0 => ?_)
  · replace h := (if_neg hc).symm.trans h
    refine go_brn (fun hc : ¬ (a1 = (Int32.ofInt 1)) => ?_) (fun hc : a1 = (Int32.ofInt 1) => ?_)
    · replace h := (if_neg hc).symm.trans h
      cases h
      exact hQ
    · replace h := (if_pos hc).symm.trans h
      obtain ⟨q1, hq, h⟩ := bnd h
      refine go_call (fun _ hw => c_D_addRule hq hw) ?_
      cases h
      exact hQ
  · replace h := (if_pos hc).symm.trans h
    obtain ⟨q2, hq, h⟩ := bnd h
    refine go_call (fun _ hw => c_D_beginSea hq hw) ?_
    cases h
    exact hQ
/-! M_pass -/
def f_M_pass_L146 (k46 : Int32 → S2 → Option S2) (x2 : Int32) (s : S2) : Option S2 := (k46 (x2 + (Int32.ofInt 1)) s)
def b_M_pass_L46 (k46 : Int32 → S2 → Option S2) (x2 : Int32) (s : S2) : Option S2 := (if (s.1 60 0 30) ≤ x2 then ((some (pkS s 60 0 37 ((s.1 60 0 37) + (Int32.ofInt 1)))).bind fun s1 => some s1) else ((ix 12 ((Int32.ofInt 3) * x2)).bind fun j2 => ((ix 12 (((Int32.ofInt 3) * x2) + (Int32.ofInt 1))).bind fun j3 => (if (bI (g_M_has (s.1 60 0 36) x2 s)) = 0 then (f_M_pass_L146 k46 x2 s) else ((ix 6 (s.1 78 0 j2)).bind fun j4 => ((ix 6 (s.1 78 0 j3)).bind fun j5 => (if (s.1 82 0 j4) = (s.1 82 0 j5) then (f_M_pass_L146 k46 x2 s) else ((f_M_farOf (s.1 78 0 j2) (s.1 78 0 j3) s).bind fun q6 => ((ix 12 (((Int32.ofInt 3) * x2) + (Int32.ofInt 2))).bind fun j7 => (if q6 ≤ (s.1 78 0 j7) then (f_M_pass_L146 k46 x2 s) else ((some (pkS s 60 0 36 ((s.1 60 0 36) &&& (((Int32.ofInt 1) <<< (x2 &&& 31)) ^^^ (Int32.ofInt (-1)))))).bind fun s8 => ((some (pkS s8 60 0 51 ((s8.1 60 0 51) + (Int32.ofInt 1)))).bind fun s9 => (f_M_pass_L146 k46 x2 s9)))))))))))))
def f_M_pass_L46 : Nat → Int32 → S2 → Option S2
  | 0 => fun _ _ => none
  | n + 1 => b_M_pass_L46 (f_M_pass_L46 n)
def b_M_pass_L14 (k14 : Int32 → S2 → Option S2) (x1 : Int32) (s : S2) : Option S2 := (if x1 = (Int32.ofInt (-1)) then ((some (pkS s 60 0 51 (Int32.ofInt 0))).bind fun s1 => (f_M_pass_L46 FU (Int32.ofInt 0) s1)) else ((f_M_join (x1 / (Int32.ofInt 10)) (jrem x1 (Int32.ofInt 10)) s).bind fun q2 => ((f_M_nearPair q2).bind fun q3 => (k14 q3 q2))))
def f_M_pass_L14 : Nat → Int32 → S2 → Option S2
  | 0 => fun _ _ => none
  | n + 1 => b_M_pass_L14 (f_M_pass_L14 n)
def f_M_pass (s : S2) : Option S2 := ((f_M_goAll s).bind fun q1 => ((some (pkS q1 60 0 50 (Int32.ofInt 0))).bind fun s2 => ((f_M_nearPair s2).bind fun q3 => (f_M_pass_L14 FU q3 s2))))
theorem c_M_pass_L146 {xs : Nat → Int32} {L d : Nat} {P : MK S2} {Q : S2 → Option MV → Prop} {res : S2} (hP : MClosed (O3 xs L) (kcall (O3 xs L) (d + 7)) kd_M_pass 0 Q P) (hQ : Q res none) {k46 : Int32 → S2 → Option S2} (hk46 : ∀ (x2 : Int32) (x1 : Int32) (x3 : Option Int32) (x4 : Option Int32) (s : S2), k46 x2 s = some res → P 46 [some (mR 60 0), some (mI x1), some (mI x2), oI x3, oI x4] [] s (0, 0)) (x2 : Int32) (x1 : Int32) (x3 : Int32) (x4 : Int32) (s : S2) (h : f_M_pass_L146 k46 x2 s = some res) : P 146 [some (mR 60 0), some (mI x1), some (mI x2), some (mI x3), some (mI x4)] [] s (0, 0) := by
  refine mgo_from hP [14, 46, 146] 260 ?_
  exact hk46 _ _ (some x3) (some x4) _ h
set_option maxRecDepth 20000 in
set_option maxHeartbeats 4000000 in
theorem cb_M_pass_L46 {xs : Nat → Int32} {L d : Nat} {P : MK S2} {Q : S2 → Option MV → Prop} {res : S2} (hP : MClosed (O3 xs L) (kcall (O3 xs L) (d + 7)) kd_M_pass 0 Q P) (hQ : Q res none) {k46 : Int32 → S2 → Option S2} (hk46 : ∀ (x2 : Int32) (x1 : Int32) (x3 : Option Int32) (x4 : Option Int32) (s : S2), k46 x2 s = some res → P 46 [some (mR 60 0), some (mI x1), some (mI x2), oI x3, oI x4] [] s (0, 0)) (x2 : Int32) (x1 : Int32) (x3 : Option Int32) (x4 : Option Int32) (s : S2) (h : b_M_pass_L46 k46 x2 s = some res) : P 46 [some (mR 60 0), some (mI x1), some (mI x2), oI x3, oI x4] [] s (0, 0) := by
  refine mgo_from hP [14, 46, 146] 260 ?_
  refine go_br (fun hc : (s.1 60 0 30) ≤ x2 => ?_) (fun hc : ¬ ((s.1 60 0 30) ≤ x2) => ?_)
  · replace h := (if_pos hc).symm.trans h
    replace h := bnds h
    cases h
    exact hQ
  · replace h := (if_neg hc).symm.trans h
    obtain ⟨j2, hj, h⟩ := bnd h
    refine go_ix j2 (ix_lt hj) (ix_eq hj) ?_
    obtain ⟨j3, hj, h⟩ := bnd h
    refine go_ix j3 (ix_lt hj) (ix_eq hj) ?_
    refine go_call (fun _ hw => c_M_has hw) ?_
    refine go_br (fun hc : (bI (g_M_has (s.1 60 0 36) x2 s)) = 0 => ?_) (fun hc : ¬ ((bI (g_M_has (s.1 60 0 36) x2 s)) = 0) => ?_)
    · replace h := (if_pos hc).symm.trans h
      exact c_M_pass_L146 hP hQ hk46 _ _ _ _ _ h
    · replace h := (if_neg hc).symm.trans h
      obtain ⟨j4, hj, h⟩ := bnd h
      refine go_ix j4 (ix_lt hj) (ix_eq hj) ?_
      obtain ⟨j5, hj, h⟩ := bnd h
      refine go_ix j5 (ix_lt hj) (ix_eq hj) ?_
      refine go_br (fun hc : (s.1 82 0 j4) = (s.1 82 0 j5) => ?_) (fun hc : ¬ ((s.1 82 0 j4) = (s.1 82 0 j5)) => ?_)
      · replace h := (if_pos hc).symm.trans h
        exact c_M_pass_L146 hP hQ hk46 _ _ _ _ _ h
      · replace h := (if_neg hc).symm.trans h
        obtain ⟨q6, hq, h⟩ := bnd h
        refine go_call (fun _ hw => c_M_farOf hq hw) ?_
        obtain ⟨j7, hj, h⟩ := bnd h
        refine go_ix j7 (ix_lt hj) (ix_eq hj) ?_
        refine go_br (fun hc : q6 ≤ (s.1 78 0 j7) => ?_) (fun hc : ¬ (q6 ≤ (s.1 78 0 j7)) => ?_)
        · replace h := (if_pos hc).symm.trans h
          exact c_M_pass_L146 hP hQ hk46 _ _ _ _ _ h
        · replace h := (if_neg hc).symm.trans h
          replace h := bnds h
          replace h := bnds h
          exact c_M_pass_L146 hP hQ hk46 _ _ _ _ _ h
theorem c_M_pass_L46 {xs : Nat → Int32} {L d : Nat} {P : MK S2} {Q : S2 → Option MV → Prop} {res : S2} (hP : MClosed (O3 xs L) (kcall (O3 xs L) (d + 7)) kd_M_pass 0 Q P) (hQ : Q res none) : ∀ (fu : Nat) (x2 : Int32) (x1 : Int32) (x3 : Option Int32) (x4 : Option Int32) (s : S2), f_M_pass_L46 fu x2 s = some res → P 46 [some (mR 60 0), some (mI x1), some (mI x2), oI x3, oI x4] [] s (0, 0)
  | 0, _, _, _, _, _, h => by cases h
  | fu + 1, x2, x1, x3, x4, s, h => cb_M_pass_L46 hP hQ (c_M_pass_L46 hP hQ fu) x2 x1 x3 x4 s h
theorem cb_M_pass_L14 {xs : Nat → Int32} {L d : Nat} {P : MK S2} {Q : S2 → Option MV → Prop} {res : S2} (hP : MClosed (O3 xs L) (kcall (O3 xs L) (d + 7)) kd_M_pass 0 Q P) (hQ : Q res none) {k14 : Int32 → S2 → Option S2} (hk14 : ∀ (x1 : Int32) (s : S2), k14 x1 s = some res → P 14 [some (mR 60 0), some (mI x1), none, none, none] [] s (0, 0)) (x1 : Int32) (s : S2) (h : b_M_pass_L14 k14 x1 s = some res) : P 14 [some (mR 60 0), some (mI x1), none, none, none] [] s (0, 0) := by
  refine mgo_from hP [14, 46, 146] 260 ?_
  refine go_br (fun hc : x1 = (Int32.ofInt (-1)) => ?_) (fun hc : ¬ (x1 = (Int32.ofInt (-1))) => ?_)
  · replace h := (if_pos hc).symm.trans h
    replace h := bnds h
    exact c_M_pass_L46 hP hQ FU _ _ none none _ h
  · replace h := (if_neg hc).symm.trans h
    refine go_and (by decide) ?_
    refine go_and (by decide) ?_
    obtain ⟨q2, hq, h⟩ := bnd h
    refine go_call (fun _ hw => c_M_join hq hw) ?_
    obtain ⟨q3, hq, h⟩ := bnd h
    refine go_call (fun _ hw => c_M_nearPair hq hw) ?_
    exact hk14 _ _ h
theorem c_M_pass_L14 {xs : Nat → Int32} {L d : Nat} {P : MK S2} {Q : S2 → Option MV → Prop} {res : S2} (hP : MClosed (O3 xs L) (kcall (O3 xs L) (d + 7)) kd_M_pass 0 Q P) (hQ : Q res none) : ∀ (fu : Nat) (x1 : Int32) (s : S2), f_M_pass_L14 fu x1 s = some res → P 14 [some (mR 60 0), some (mI x1), none, none, none] [] s (0, 0)
  | 0, _, _, h => by cases h
  | fu + 1, x1, s, h => cb_M_pass_L14 hP hQ (c_M_pass_L14 hP hQ fu) x1 s h
theorem c_M_pass {xs : Nat → Int32} {L d : Nat} {s : S2} {res : S2} {Q : S2 → Option MV → Prop} (h : f_M_pass s = some res) (hQ : Q res none) : kcall (O3 xs L) (d + 8) k_M_pass [mR 60 0] s Q := by
  refine kc_of (cd := kd_M_pass) (mx := 5) (rt := 0) rfl rfl ?_
  intro P hP
  refine mgo_sound hP [14, 46, 146] 260 _ _ _ _ _ ?_
  obtain ⟨q1, hq, h⟩ := bnd h
  refine go_call (fun _ hw => c_M_goAll hq hw) ?_
  replace h := bnds h
  obtain ⟨q3, hq, h⟩ := bnd h
  refine go_call (fun _ hw => c_M_nearPair hq hw) ?_
  exact c_M_pass_L14 hP hQ FU _ _ h
/-! M_years -/
def b_M_years_L21 (k21 : Int32 → Int32 → S2 → Option (S2 × Int32)) (x1 : Int32) (x4 : Int32) (s : S2) : Option (S2 × Int32) := (if x1 ≤ x4 then some (s, (s.1 60 0 37)) else ((f_M_keep s).bind fun q1 => ((f_M_blow q1).bind fun q2 => ((f_M_pass q2).bind fun q3 => ((f_M_note q3).bind fun q4 => (k21 x1 (x4 + (Int32.ofInt 1)) q4))))))
def f_M_years_L21 : Nat → Int32 → Int32 → S2 → Option (S2 × Int32)
  | 0 => fun _ _ _ => none
  | n + 1 => b_M_years_L21 (f_M_years_L21 n)
def f_M_years (a1 : Int32) (a2 : Int64) (s : S2) : Option (S2 × Int32) := (if (bI (g_M_areSeasons a1 (Int32.ofInt 1) (Int32.ofInt 60) s)) = 0 then some (s, (Int32.ofInt (-1))) else ((some ((s.1, uJ s.2 60 a2))).bind fun s1 => (f_M_years_L21 FU a1 (Int32.ofInt 0) s1)))
theorem cb_M_years_L21 {xs : Nat → Int32} {L d : Nat} {P : MK S2} {Q : S2 → Option MV → Prop} {res : S2 × Int32} (hP : MClosed (O3 xs L) (kcall (O3 xs L) (d + 8)) kd_M_years 1 Q P) (hQ : Q res.1 (some (mI res.2))) {k21 : Int32 → Int32 → S2 → Option (S2 × Int32)} (hk21 : ∀ (x1 : Int32) (x4 : Int32) (x2 : Int64) (s : S2), k21 x1 x4 s = some res → P 21 [some (mR 60 0), some (mI x1), some (mL x2), none, some (mI x4)] [] s (0, 0)) (x1 : Int32) (x4 : Int32) (x2 : Int64) (s : S2) (h : b_M_years_L21 k21 x1 x4 s = some res) : P 21 [some (mR 60 0), some (mI x1), some (mL x2), none, some (mI x4)] [] s (0, 0) := by
  refine mgo_from hP [21] 260 ?_
  refine go_br (fun hc : x1 ≤ x4 => ?_) (fun hc : ¬ (x1 ≤ x4) => ?_)
  · replace h := (if_pos hc).symm.trans h
    cases h
    exact hQ
  · replace h := (if_neg hc).symm.trans h
    obtain ⟨q1, hq, h⟩ := bnd h
    refine go_call (fun _ hw => c_M_keep hq hw) ?_
    obtain ⟨q2, hq, h⟩ := bnd h
    refine go_call (fun _ hw => c_M_blow hq hw) ?_
    obtain ⟨q3, hq, h⟩ := bnd h
    refine go_call (fun _ hw => c_M_pass hq hw) ?_
    obtain ⟨q4, hq, h⟩ := bnd h
    refine go_call (fun _ hw => c_M_note hq hw) ?_
    exact hk21 _ _ _ _ h
theorem c_M_years_L21 {xs : Nat → Int32} {L d : Nat} {P : MK S2} {Q : S2 → Option MV → Prop} {res : S2 × Int32} (hP : MClosed (O3 xs L) (kcall (O3 xs L) (d + 8)) kd_M_years 1 Q P) (hQ : Q res.1 (some (mI res.2))) : ∀ (fu : Nat) (x1 : Int32) (x4 : Int32) (x2 : Int64) (s : S2), f_M_years_L21 fu x1 x4 s = some res → P 21 [some (mR 60 0), some (mI x1), some (mL x2), none, some (mI x4)] [] s (0, 0)
  | 0, _, _, _, _, h => by cases h
  | fu + 1, x1, x4, x2, s, h => cb_M_years_L21 hP hQ (c_M_years_L21 hP hQ fu) x1 x4 x2 s h
theorem c_M_years {xs : Nat → Int32} {L d : Nat} {a1 : Int32} {a2 : Int64} {s : S2} {res : S2 × Int32} {Q : S2 → Option MV → Prop} (h : f_M_years a1 a2 s = some res) (hQ : Q res.1 (some (mI res.2))) : kcall (O3 xs L) (d + 9) k_M_years [mR 60 0, mI a1, mL a2] s Q := by
  refine kc_of (cd := kd_M_years) (mx := 5) (rt := 1) rfl rfl ?_
  intro P hP
  refine mgo_sound hP [21] 260 _ _ _ _ _ ?_
  refine go_call (fun _ hw => c_M_areSeasons hw) ?_
  refine go_brn (fun hc : ¬ ((bI (g_M_areSeasons a1 (Int32.ofInt 1) (Int32.ofInt 60) s)) = 0) => ?_) (fun hc : (bI (g_M_areSeasons a1 (Int32.ofInt 1) (Int32.ofInt 60) s)) = 0 => ?_)
  · replace h := (if_neg hc).symm.trans h
    replace h := bnds h
    exact c_M_years_L21 hP hQ FU _ _ _ _ h
  · replace h := (if_pos hc).symm.trans h
    cases h
    exact hQ
/-! M_passAll -/
def b_M_passAll_L2 (k2 : Int32 → Int32 → S2 → Option S2) (x1 : Int32) (x2 : Int32) (s : S2) : Option S2 := (if x1 ≤ x2 then some s else ((f_M_pass s).bind fun q1 => (k2 x1 (x2 + (Int32.ofInt 1)) q1)))
def f_M_passAll_L2 : Nat → Int32 → Int32 → S2 → Option S2
  | 0 => fun _ _ _ => none
  | n + 1 => b_M_passAll_L2 (f_M_passAll_L2 n)
def f_M_passAll (a1 : Int32) (s : S2) : Option S2 := (f_M_passAll_L2 FU a1 (Int32.ofInt 0) s)
theorem cb_M_passAll_L2 {xs : Nat → Int32} {L d : Nat} {P : MK S2} {Q : S2 → Option MV → Prop} {res : S2} (hP : MClosed (O3 xs L) (kcall (O3 xs L) (d + 8)) kd_M_passAll 0 Q P) (hQ : Q res none) {k2 : Int32 → Int32 → S2 → Option S2} (hk2 : ∀ (x1 : Int32) (x2 : Int32) (s : S2), k2 x1 x2 s = some res → P 2 [some (mR 60 0), some (mI x1), some (mI x2)] [] s (0, 0)) (x1 : Int32) (x2 : Int32) (s : S2) (h : b_M_passAll_L2 k2 x1 x2 s = some res) : P 2 [some (mR 60 0), some (mI x1), some (mI x2)] [] s (0, 0) := by
  refine mgo_from hP [2] 260 ?_
  refine go_br (fun hc : x1 ≤ x2 => ?_) (fun hc : ¬ (x1 ≤ x2) => ?_)
  · replace h := (if_pos hc).symm.trans h
    cases h
    exact hQ
  · replace h := (if_neg hc).symm.trans h
    obtain ⟨q1, hq, h⟩ := bnd h
    refine go_call (fun _ hw => c_M_pass hq hw) ?_
    exact hk2 _ _ _ h
theorem c_M_passAll_L2 {xs : Nat → Int32} {L d : Nat} {P : MK S2} {Q : S2 → Option MV → Prop} {res : S2} (hP : MClosed (O3 xs L) (kcall (O3 xs L) (d + 8)) kd_M_passAll 0 Q P) (hQ : Q res none) : ∀ (fu : Nat) (x1 : Int32) (x2 : Int32) (s : S2), f_M_passAll_L2 fu x1 x2 s = some res → P 2 [some (mR 60 0), some (mI x1), some (mI x2)] [] s (0, 0)
  | 0, _, _, _, h => by cases h
  | fu + 1, x1, x2, s, h => cb_M_passAll_L2 hP hQ (c_M_passAll_L2 hP hQ fu) x1 x2 s h
theorem c_M_passAll {xs : Nat → Int32} {L d : Nat} {a1 : Int32} {s : S2} {res : S2} {Q : S2 → Option MV → Prop} (h : f_M_passAll a1 s = some res) (hQ : Q res none) : kcall (O3 xs L) (d + 9) k_M_passAll [mR 60 0, mI a1] s Q := by
  refine kc_of (cd := kd_M_passAll) (mx := 3) (rt := 0) rfl rfl ?_
  intro P hP
  refine mgo_sound hP [2] 260 _ _ _ _ _ ?_
  exact c_M_passAll_L2 hP hQ FU _ _ _ h
/-! M_rest -/
def f_M_rest_L61 (x2 : Int32) (s : S2) : Option (S2 × Int32) := ((f_M_takeBack s).bind fun q1 => some (q1, x2))
def f_M_rest_L54 (k21 : Int32 → Int32 → Int32 → S2 → Option (S2 × Int32)) (x1 : Int32) (x3 : Int32) (y0 : Int32) (s : S2) : Option (S2 × Int32) := (k21 x1 y0 (x3 + (Int32.ofInt 1)) s)
def f_M_rest_L53 (k21 : Int32 → Int32 → Int32 → S2 → Option (S2 × Int32)) (x1 : Int32) (x3 : Int32) (s : S2) : Option (S2 × Int32) := (f_M_rest_L54 k21 x1 x3 (Int32.ofInt (-1)) s)
def b_M_rest_L21 (k21 : Int32 → Int32 → Int32 → S2 → Option (S2 × Int32)) (x1 : Int32) (x2 : Int32) (x3 : Int32) (s : S2) : Option (S2 × Int32) := (if x1 < x3 then (f_M_rest_L61 x2 s) else (if x2 = (Int32.ofInt (-1)) then ((f_M_pass s).bind fun q1 => (if (q1.1 60 0 52) = 0 then (if (q1.1 60 0 50) = 0 then (f_M_rest_L54 k21 x1 x3 x3 q1) else (f_M_rest_L53 k21 x1 x3 q1)) else (f_M_rest_L53 k21 x1 x3 q1))) else (f_M_rest_L61 x2 s)))
def f_M_rest_L21 : Nat → Int32 → Int32 → Int32 → S2 → Option (S2 × Int32)
  | 0 => fun _ _ _ _ => none
  | n + 1 => b_M_rest_L21 (f_M_rest_L21 n)
def f_M_rest (a1 : Int32) (s : S2) : Option (S2 × Int32) := (if (bI (g_M_areSeasons a1 (Int32.ofInt 0) (Int32.ofInt 60) s)) = 0 then some (s, (Int32.ofInt (-1))) else ((f_M_putAside s).bind fun q1 => (f_M_rest_L21 FU a1 (Int32.ofInt (-1)) (Int32.ofInt 0) q1)))
theorem c_M_rest_L61 {xs : Nat → Int32} {L d : Nat} {P : MK S2} {Q : S2 → Option MV → Prop} {res : S2 × Int32} (hP : MClosed (O3 xs L) (kcall (O3 xs L) (d + 8)) kd_M_rest 1 Q P) (hQ : Q res.1 (some (mI res.2))) (x2 : Int32) (x1 : Int32) (x3 : Int32) (s : S2) (h : f_M_rest_L61 x2 s = some res) : P 61 [some (mR 60 0), some (mI x1), some (mI x2), some (mI x3)] [] s (0, 0) := by
  refine mgo_from hP [21, 53, 54, 61] 260 ?_
  obtain ⟨q1, hq, h⟩ := bnd h
  refine go_call (fun _ hw => c_M_takeBack hq hw) ?_
  cases h
  exact hQ
theorem c_M_rest_L54 {xs : Nat → Int32} {L d : Nat} {P : MK S2} {Q : S2 → Option MV → Prop} {res : S2 × Int32} (hP : MClosed (O3 xs L) (kcall (O3 xs L) (d + 8)) kd_M_rest 1 Q P) (hQ : Q res.1 (some (mI res.2))) {k21 : Int32 → Int32 → Int32 → S2 → Option (S2 × Int32)} (hk21 : ∀ (x1 : Int32) (x2 : Int32) (x3 : Int32) (s : S2), k21 x1 x2 x3 s = some res → P 21 [some (mR 60 0), some (mI x1), some (mI x2), some (mI x3)] [] s (0, 0)) (x1 : Int32) (x3 : Int32) (y0 : Int32) (x2 : Int32) (s : S2) (h : f_M_rest_L54 k21 x1 x3 y0 s = some res) : P 54 [some (mR 60 0), some (mI x1), some (mI x2), some (mI x3)] [mI y0] s (0, 0) := by
  refine mgo_from hP [21, 53, 54, 61] 260 ?_
  exact hk21 _ _ _ _ h
theorem c_M_rest_L53 {xs : Nat → Int32} {L d : Nat} {P : MK S2} {Q : S2 → Option MV → Prop} {res : S2 × Int32} (hP : MClosed (O3 xs L) (kcall (O3 xs L) (d + 8)) kd_M_rest 1 Q P) (hQ : Q res.1 (some (mI res.2))) {k21 : Int32 → Int32 → Int32 → S2 → Option (S2 × Int32)} (hk21 : ∀ (x1 : Int32) (x2 : Int32) (x3 : Int32) (s : S2), k21 x1 x2 x3 s = some res → P 21 [some (mR 60 0), some (mI x1), some (mI x2), some (mI x3)] [] s (0, 0)) (x1 : Int32) (x3 : Int32) (x2 : Int32) (s : S2) (h : f_M_rest_L53 k21 x1 x3 s = some res) : P 53 [some (mR 60 0), some (mI x1), some (mI x2), some (mI x3)] [] s (0, 0) := by
  refine mgo_from hP [21, 53, 54, 61] 260 ?_
  exact c_M_rest_L54 hP hQ hk21 _ _ _ _ _ h
theorem cb_M_rest_L21 {xs : Nat → Int32} {L d : Nat} {P : MK S2} {Q : S2 → Option MV → Prop} {res : S2 × Int32} (hP : MClosed (O3 xs L) (kcall (O3 xs L) (d + 8)) kd_M_rest 1 Q P) (hQ : Q res.1 (some (mI res.2))) {k21 : Int32 → Int32 → Int32 → S2 → Option (S2 × Int32)} (hk21 : ∀ (x1 : Int32) (x2 : Int32) (x3 : Int32) (s : S2), k21 x1 x2 x3 s = some res → P 21 [some (mR 60 0), some (mI x1), some (mI x2), some (mI x3)] [] s (0, 0)) (x1 : Int32) (x2 : Int32) (x3 : Int32) (s : S2) (h : b_M_rest_L21 k21 x1 x2 x3 s = some res) : P 21 [some (mR 60 0), some (mI x1), some (mI x2), some (mI x3)] [] s (0, 0) := by
  refine mgo_from hP [21, 53, 54, 61] 260 ?_
  refine go_br (fun hc : x1 < x3 => ?_) (fun hc : ¬ (x1 < x3) => ?_)
  · replace h := (if_pos hc).symm.trans h
    exact c_M_rest_L61 hP hQ _ _ _ _ h
  · replace h := (if_neg hc).symm.trans h
    refine go_brn (fun hc : ¬ (x2 = (Int32.ofInt (-1))) => ?_) (fun hc : x2 = (Int32.ofInt (-1)) => ?_)
    · replace h := (if_neg hc).symm.trans h
      exact c_M_rest_L61 hP hQ _ _ _ _ h
    · replace h := (if_pos hc).symm.trans h
      obtain ⟨q1, hq, h⟩ := bnd h
      refine go_call (fun _ hw => c_M_pass hq hw) ?_
      refine go_brn (fun hc : ¬ ((q1.1 60 0 52) = 0) => ?_) (fun hc : (q1.1 60 0 52) = 0 => ?_)
      · replace h := (if_neg hc).symm.trans h
        exact c_M_rest_L53 hP hQ hk21 _ _ _ _ h
      · replace h := (if_pos hc).symm.trans h
        refine go_brn (fun hc : ¬ ((q1.1 60 0 50) = 0) => ?_) (fun hc : (q1.1 60 0 50) = 0 => ?_)
        · replace h := (if_neg hc).symm.trans h
          exact c_M_rest_L53 hP hQ hk21 _ _ _ _ h
        · replace h := (if_pos hc).symm.trans h
          exact c_M_rest_L54 hP hQ hk21 _ _ _ _ _ h
theorem c_M_rest_L21 {xs : Nat → Int32} {L d : Nat} {P : MK S2} {Q : S2 → Option MV → Prop} {res : S2 × Int32} (hP : MClosed (O3 xs L) (kcall (O3 xs L) (d + 8)) kd_M_rest 1 Q P) (hQ : Q res.1 (some (mI res.2))) : ∀ (fu : Nat) (x1 : Int32) (x2 : Int32) (x3 : Int32) (s : S2), f_M_rest_L21 fu x1 x2 x3 s = some res → P 21 [some (mR 60 0), some (mI x1), some (mI x2), some (mI x3)] [] s (0, 0)
  | 0, _, _, _, _, h => by cases h
  | fu + 1, x1, x2, x3, s, h => cb_M_rest_L21 hP hQ (c_M_rest_L21 hP hQ fu) x1 x2 x3 s h
theorem c_M_rest {xs : Nat → Int32} {L d : Nat} {a1 : Int32} {s : S2} {res : S2 × Int32} {Q : S2 → Option MV → Prop} (h : f_M_rest a1 s = some res) (hQ : Q res.1 (some (mI res.2))) : kcall (O3 xs L) (d + 9) k_M_rest [mR 60 0, mI a1] s Q := by
  refine kc_of (cd := kd_M_rest) (mx := 4) (rt := 1) rfl rfl ?_
  intro P hP
  refine mgo_sound hP [21, 53, 54, 61] 260 _ _ _ _ _ ?_
  refine go_call (fun _ hw => c_M_areSeasons hw) ?_
  refine go_brn (fun hc : ¬ ((bI (g_M_areSeasons a1 (Int32.ofInt 0) (Int32.ofInt 60) s)) = 0) => ?_) (fun hc : (bI (g_M_areSeasons a1 (Int32.ofInt 0) (Int32.ofInt 60) s)) = 0 => ?_)
  · replace h := (if_neg hc).symm.trans h
    obtain ⟨q1, hq, h⟩ := bnd h
    refine go_call (fun _ hw => c_M_putAside hq hw) ?_
    exact c_M_rest_L21 hP hQ FU _ _ _ _ h
  · replace h := (if_pos hc).symm.trans h
    cases h
    exact hQ
/-! M_round -/
def f_M_round_L105 (x2 : Int32) (x3 : Int32) (x4 : Int32) (s : S2) : Option (S2 × Int32) := ((f_M_takeBack s).bind fun q1 => (if x3 = (Int32.ofInt (-1)) then some (q1, x3) else (if x2 = 0 then some (q1, x3) else some (q1, (x3 - x4)))))
def f_M_round_L99 (k39 : Int32 → Int32 → Int32 → Int32 → Int32 → S2 → Option (S2 × Int32)) (x1 : Int32) (x2 : Int32) (x3 : Int32) (x4 : Int32) (x5 : Int32) (s : S2) : Option (S2 × Int32) := (k39 x1 x2 x3 x4 (x5 + (Int32.ofInt 1)) s)
def f_M_round_L93 (k39 : Int32 → Int32 → Int32 → Int32 → Int32 → S2 → Option (S2 × Int32)) (k63 : Int32 → Int32 → Int32 → Int32 → Int32 → Int32 → S2 → Option (S2 × Int32)) (x1 : Int32) (x2 : Int32) (x3 : Int32) (x4 : Int32) (x5 : Int32) (x6 : Int32) (s : S2) : Option (S2 × Int32) := (k63 x1 x2 x3 x4 x5 (x6 + (Int32.ofInt 1)) s)
def b_M_round_L63 (k39 : Int32 → Int32 → Int32 → Int32 → Int32 → S2 → Option (S2 × Int32)) (k63 : Int32 → Int32 → Int32 → Int32 → Int32 → Int32 → S2 → Option (S2 × Int32)) (x1 : Int32) (x2 : Int32) (x3 : Int32) (x4 : Int32) (x5 : Int32) (x6 : Int32) (s : S2) : Option (S2 × Int32) := (if x5 ≤ x6 then (f_M_round_L99 k39 x1 x2 x3 x4 x5 s) else (if x3 = (Int32.ofInt (-1)) then ((f_M_areAlike x6 x5 s).bind fun q1 => (if (bI q1) = 0 then (f_M_round_L93 k39 k63 x1 x2 x3 x4 x5 x6 s) else (f_M_round_L93 k39 k63 x1 x2 x5 x6 x5 x6 s))) else (f_M_round_L99 k39 x1 x2 x3 x4 x5 s)))
def f_M_round_L63 (k39 : Int32 → Int32 → Int32 → Int32 → Int32 → S2 → Option (S2 × Int32)) : Nat → Int32 → Int32 → Int32 → Int32 → Int32 → Int32 → S2 → Option (S2 × Int32)
  | 0 => fun _ _ _ _ _ _ _ => none
  | n + 1 => b_M_round_L63 k39 (f_M_round_L63 k39 n)
def b_M_round_L39 (k39 : Int32 → Int32 → Int32 → Int32 → Int32 → S2 → Option (S2 × Int32)) (x1 : Int32) (x2 : Int32) (x3 : Int32) (x4 : Int32) (x5 : Int32) (s : S2) : Option (S2 × Int32) := (if x1 < x5 then (f_M_round_L105 x2 x3 x4 s) else (if x3 = (Int32.ofInt (-1)) then ((f_M_pass s).bind fun q1 => ((f_M_writeLook x5 q1).bind fun q2 => (f_M_round_L63 k39 FU x1 x2 x3 x4 x5 (Int32.ofInt 0) q2))) else (f_M_round_L105 x2 x3 x4 s)))
def f_M_round_L39 : Nat → Int32 → Int32 → Int32 → Int32 → Int32 → S2 → Option (S2 × Int32)
  | 0 => fun _ _ _ _ _ _ => none
  | n + 1 => b_M_round_L39 (f_M_round_L39 n)
def f_M_round (a1 : Int32) (a2 : Int32) (s : S2) : Option (S2 × Int32) := (if (bI (g_M_areSeasons a1 (Int32.ofInt 1) (Int32.ofInt 60) s)) = 0 then some (s, (Int32.ofInt (-1))) else (if (bI (g_M_in a2 (Int32.ofInt 0) (Int32.ofInt 1) s)) = 0 then some (s, (Int32.ofInt (-1))) else ((f_M_putAside s).bind fun q1 => ((f_M_writeLook (Int32.ofInt 0) q1).bind fun q2 => (f_M_round_L39 FU a1 a2 (Int32.ofInt (-1)) (Int32.ofInt (-1)) (Int32.ofInt 1) q2)))))
theorem c_M_round_L105 {xs : Nat → Int32} {L d : Nat} {P : MK S2} {Q : S2 → Option MV → Prop} {res : S2 × Int32} (hP : MClosed (O3 xs L) (kcall (O3 xs L) (d + 8)) kd_M_round 1 Q P) (hQ : Q res.1 (some (mI res.2))) (x2 : Int32) (x3 : Int32) (x4 : Int32) (x1 : Int32) (x5 : Int32) (x6 : Option Int32) (s : S2) (h : f_M_round_L105 x2 x3 x4 s = some res) : P 105 [some (mR 60 0), some (mI x1), some (mI x2), some (mI x3), some (mI x4), some (mI x5), oI x6] [] s (0, 0) := by
  refine mgo_from hP [39, 63, 93, 99, 105] 260 ?_
  obtain ⟨q1, hq, h⟩ := bnd h
  refine go_call (fun _ hw => c_M_takeBack hq hw) ?_
  refine go_br (fun hc : x3 = (Int32.ofInt (-1)) => ?_) (fun hc : ¬ (x3 = (Int32.ofInt (-1))) => ?_)
  · replace h := (if_pos hc).symm.trans h
    cases h
    exact hQ
  · replace h := (if_neg hc).symm.trans h
    refine go_brn (fun hc : ¬ (x2 = 0) => ?_) (fun hc : x2 = 0 => ?_)
    · replace h := (if_neg hc).symm.trans h
      cases h
      exact hQ
    · replace h := (if_pos hc).symm.trans h
      cases h
      exact hQ
theorem c_M_round_L99 {xs : Nat → Int32} {L d : Nat} {P : MK S2} {Q : S2 → Option MV → Prop} {res : S2 × Int32} (hP : MClosed (O3 xs L) (kcall (O3 xs L) (d + 8)) kd_M_round 1 Q P) (hQ : Q res.1 (some (mI res.2))) {k39 : Int32 → Int32 → Int32 → Int32 → Int32 → S2 → Option (S2 × Int32)} (hk39 : ∀ (x1 : Int32) (x2 : Int32) (x3 : Int32) (x4 : Int32) (x5 : Int32) (x6 : Option Int32) (s : S2), k39 x1 x2 x3 x4 x5 s = some res → P 39 [some (mR 60 0), some (mI x1), some (mI x2), some (mI x3), some (mI x4), some (mI x5), oI x6] [] s (0, 0)) (x1 : Int32) (x2 : Int32) (x3 : Int32) (x4 : Int32) (x5 : Int32) (x6 : Int32) (s : S2) (h : f_M_round_L99 k39 x1 x2 x3 x4 x5 s = some res) : P 99 [some (mR 60 0), some (mI x1), some (mI x2), some (mI x3), some (mI x4), some (mI x5), some (mI x6)] [] s (0, 0) := by
  refine mgo_from hP [39, 63, 93, 99, 105] 260 ?_
  exact hk39 _ _ _ _ _ (some x6) _ h
theorem c_M_round_L93 {xs : Nat → Int32} {L d : Nat} {P : MK S2} {Q : S2 → Option MV → Prop} {res : S2 × Int32} (hP : MClosed (O3 xs L) (kcall (O3 xs L) (d + 8)) kd_M_round 1 Q P) (hQ : Q res.1 (some (mI res.2))) {k39 : Int32 → Int32 → Int32 → Int32 → Int32 → S2 → Option (S2 × Int32)} {k63 : Int32 → Int32 → Int32 → Int32 → Int32 → Int32 → S2 → Option (S2 × Int32)} (hk39 : ∀ (x1 : Int32) (x2 : Int32) (x3 : Int32) (x4 : Int32) (x5 : Int32) (x6 : Option Int32) (s : S2), k39 x1 x2 x3 x4 x5 s = some res → P 39 [some (mR 60 0), some (mI x1), some (mI x2), some (mI x3), some (mI x4), some (mI x5), oI x6] [] s (0, 0)) (hk63 : ∀ (x1 : Int32) (x2 : Int32) (x3 : Int32) (x4 : Int32) (x5 : Int32) (x6 : Int32) (s : S2), k63 x1 x2 x3 x4 x5 x6 s = some res → P 63 [some (mR 60 0), some (mI x1), some (mI x2), some (mI x3), some (mI x4), some (mI x5), some (mI x6)] [] s (0, 0)) (x1 : Int32) (x2 : Int32) (x3 : Int32) (x4 : Int32) (x5 : Int32) (x6 : Int32) (s : S2) (h : f_M_round_L93 k39 k63 x1 x2 x3 x4 x5 x6 s = some res) : P 93 [some (mR 60 0), some (mI x1), some (mI x2), some (mI x3), some (mI x4), some (mI x5), some (mI x6)] [] s (0, 0) := by
  refine mgo_from hP [39, 63, 93, 99, 105] 260 ?_
  exact hk63 _ _ _ _ _ _ _ h
theorem cb_M_round_L63 {xs : Nat → Int32} {L d : Nat} {P : MK S2} {Q : S2 → Option MV → Prop} {res : S2 × Int32} (hP : MClosed (O3 xs L) (kcall (O3 xs L) (d + 8)) kd_M_round 1 Q P) (hQ : Q res.1 (some (mI res.2))) {k39 : Int32 → Int32 → Int32 → Int32 → Int32 → S2 → Option (S2 × Int32)} (hk39 : ∀ (x1 : Int32) (x2 : Int32) (x3 : Int32) (x4 : Int32) (x5 : Int32) (x6 : Option Int32) (s : S2), k39 x1 x2 x3 x4 x5 s = some res → P 39 [some (mR 60 0), some (mI x1), some (mI x2), some (mI x3), some (mI x4), some (mI x5), oI x6] [] s (0, 0)) {k63 : Int32 → Int32 → Int32 → Int32 → Int32 → Int32 → S2 → Option (S2 × Int32)} (hk63 : ∀ (x1 : Int32) (x2 : Int32) (x3 : Int32) (x4 : Int32) (x5 : Int32) (x6 : Int32) (s : S2), k63 x1 x2 x3 x4 x5 x6 s = some res → P 63 [some (mR 60 0), some (mI x1), some (mI x2), some (mI x3), some (mI x4), some (mI x5), some (mI x6)] [] s (0, 0)) (x1 : Int32) (x2 : Int32) (x3 : Int32) (x4 : Int32) (x5 : Int32) (x6 : Int32) (s : S2) (h : b_M_round_L63 k39 k63 x1 x2 x3 x4 x5 x6 s = some res) : P 63 [some (mR 60 0), some (mI x1), some (mI x2), some (mI x3), some (mI x4), some (mI x5), some (mI x6)] [] s (0, 0) := by
  refine mgo_from hP [39, 63, 93, 99, 105] 260 ?_
  refine go_br (fun hc : x5 ≤ x6 => ?_) (fun hc : ¬ (x5 ≤ x6) => ?_)
  · replace h := (if_pos hc).symm.trans h
    exact c_M_round_L99 hP hQ hk39 _ _ _ _ _ _ _ h
  · replace h := (if_neg hc).symm.trans h
    refine go_brn (fun hc : ¬ (x3 = (Int32.ofInt (-1))) => ?_) (fun hc : x3 = (Int32.ofInt (-1)) => ?_)
    · replace h := (if_neg hc).symm.trans h
      exact c_M_round_L99 hP hQ hk39 _ _ _ _ _ _ _ h
    · replace h := (if_pos hc).symm.trans h
      obtain ⟨q1, hq, h⟩ := bnd h
      refine go_call (fun _ hw => c_M_areAlike hq hw) ?_
      refine go_br (fun hc : (bI q1) = 0 => ?_) (fun hc : ¬ ((bI q1) = 0) => ?_)
      · replace h := (if_pos hc).symm.trans h
        exact c_M_round_L93 hP hQ hk39 hk63 _ _ _ _ _ _ _ h
      · replace h := (if_neg hc).symm.trans h
        exact c_M_round_L93 hP hQ hk39 hk63 _ _ _ _ _ _ _ h
theorem c_M_round_L63 {xs : Nat → Int32} {L d : Nat} {P : MK S2} {Q : S2 → Option MV → Prop} {res : S2 × Int32} (hP : MClosed (O3 xs L) (kcall (O3 xs L) (d + 8)) kd_M_round 1 Q P) (hQ : Q res.1 (some (mI res.2))) {k39 : Int32 → Int32 → Int32 → Int32 → Int32 → S2 → Option (S2 × Int32)} (hk39 : ∀ (x1 : Int32) (x2 : Int32) (x3 : Int32) (x4 : Int32) (x5 : Int32) (x6 : Option Int32) (s : S2), k39 x1 x2 x3 x4 x5 s = some res → P 39 [some (mR 60 0), some (mI x1), some (mI x2), some (mI x3), some (mI x4), some (mI x5), oI x6] [] s (0, 0)) : ∀ (fu : Nat) (x1 : Int32) (x2 : Int32) (x3 : Int32) (x4 : Int32) (x5 : Int32) (x6 : Int32) (s : S2), f_M_round_L63 k39 fu x1 x2 x3 x4 x5 x6 s = some res → P 63 [some (mR 60 0), some (mI x1), some (mI x2), some (mI x3), some (mI x4), some (mI x5), some (mI x6)] [] s (0, 0)
  | 0, _, _, _, _, _, _, _, h => by cases h
  | fu + 1, x1, x2, x3, x4, x5, x6, s, h => cb_M_round_L63 hP hQ hk39 (c_M_round_L63 hP hQ hk39 fu) x1 x2 x3 x4 x5 x6 s h
theorem cb_M_round_L39 {xs : Nat → Int32} {L d : Nat} {P : MK S2} {Q : S2 → Option MV → Prop} {res : S2 × Int32} (hP : MClosed (O3 xs L) (kcall (O3 xs L) (d + 8)) kd_M_round 1 Q P) (hQ : Q res.1 (some (mI res.2))) {k39 : Int32 → Int32 → Int32 → Int32 → Int32 → S2 → Option (S2 × Int32)} (hk39 : ∀ (x1 : Int32) (x2 : Int32) (x3 : Int32) (x4 : Int32) (x5 : Int32) (x6 : Option Int32) (s : S2), k39 x1 x2 x3 x4 x5 s = some res → P 39 [some (mR 60 0), some (mI x1), some (mI x2), some (mI x3), some (mI x4), some (mI x5), oI x6] [] s (0, 0)) (x1 : Int32) (x2 : Int32) (x3 : Int32) (x4 : Int32) (x5 : Int32) (x6 : Option Int32) (s : S2) (h : b_M_round_L39 k39 x1 x2 x3 x4 x5 s = some res) : P 39 [some (mR 60 0), some (mI x1), some (mI x2), some (mI x3), some (mI x4), some (mI x5), oI x6] [] s (0, 0) := by
  refine mgo_from hP [39, 63, 93, 99, 105] 260 ?_
  refine go_br (fun hc : x1 < x5 => ?_) (fun hc : ¬ (x1 < x5) => ?_)
  · replace h := (if_pos hc).symm.trans h
    exact c_M_round_L105 hP hQ _ _ _ _ _ x6 _ h
  · replace h := (if_neg hc).symm.trans h
    refine go_brn (fun hc : ¬ (x3 = (Int32.ofInt (-1))) => ?_) (fun hc : x3 = (Int32.ofInt (-1)) => ?_)
    · replace h := (if_neg hc).symm.trans h
      exact c_M_round_L105 hP hQ _ _ _ _ _ x6 _ h
    · replace h := (if_pos hc).symm.trans h
      obtain ⟨q1, hq, h⟩ := bnd h
      refine go_call (fun _ hw => c_M_pass hq hw) ?_
      obtain ⟨q2, hq, h⟩ := bnd h
      refine go_call (fun _ hw => c_M_writeLook hq hw) ?_
      exact c_M_round_L63 hP hQ hk39 FU _ _ _ _ _ _ _ h
theorem c_M_round_L39 {xs : Nat → Int32} {L d : Nat} {P : MK S2} {Q : S2 → Option MV → Prop} {res : S2 × Int32} (hP : MClosed (O3 xs L) (kcall (O3 xs L) (d + 8)) kd_M_round 1 Q P) (hQ : Q res.1 (some (mI res.2))) : ∀ (fu : Nat) (x1 : Int32) (x2 : Int32) (x3 : Int32) (x4 : Int32) (x5 : Int32) (x6 : Option Int32) (s : S2), f_M_round_L39 fu x1 x2 x3 x4 x5 s = some res → P 39 [some (mR 60 0), some (mI x1), some (mI x2), some (mI x3), some (mI x4), some (mI x5), oI x6] [] s (0, 0)
  | 0, _, _, _, _, _, _, _, h => by cases h
  | fu + 1, x1, x2, x3, x4, x5, x6, s, h => cb_M_round_L39 hP hQ (c_M_round_L39 hP hQ fu) x1 x2 x3 x4 x5 x6 s h
theorem c_M_round {xs : Nat → Int32} {L d : Nat} {a1 : Int32} {a2 : Int32} {s : S2} {res : S2 × Int32} {Q : S2 → Option MV → Prop} (h : f_M_round a1 a2 s = some res) (hQ : Q res.1 (some (mI res.2))) : kcall (O3 xs L) (d + 9) k_M_round [mR 60 0, mI a1, mI a2] s Q := by
  refine kc_of (cd := kd_M_round) (mx := 7) (rt := 1) rfl rfl ?_
  intro P hP
  refine mgo_sound hP [39, 63, 93, 99, 105] 260 _ _ _ _ _ ?_
  refine go_call (fun _ hw => c_M_areSeasons hw) ?_
  refine go_br (fun hc : (bI (g_M_areSeasons a1 (Int32.ofInt 1) (Int32.ofInt 60) s)) = 0 => ?_) (fun hc : ¬ ((bI (g_M_areSeasons a1 (Int32.ofInt 1) (Int32.ofInt 60) s)) = 0) => ?_)
  · replace h := (if_pos hc).symm.trans h
    cases h
    exact hQ
  · replace h := (if_neg hc).symm.trans h
    refine go_call (fun _ hw => c_M_in hw) ?_
    refine go_brn (fun hc : ¬ ((bI (g_M_in a2 (Int32.ofInt 0) (Int32.ofInt 1) s)) = 0) => ?_) (fun hc : (bI (g_M_in a2 (Int32.ofInt 0) (Int32.ofInt 1) s)) = 0 => ?_)
    · replace h := (if_neg hc).symm.trans h
      obtain ⟨q1, hq, h⟩ := bnd h
      refine go_call (fun _ hw => c_M_putAside hq hw) ?_
      obtain ⟨q2, hq, h⟩ := bnd h
      refine go_call (fun _ hw => c_M_writeLook hq hw) ?_
      exact c_M_round_L39 hP hQ FU _ _ _ _ _ none _ h
    · replace h := (if_pos hc).symm.trans h
      cases h
      exact hQ
/-! M_one -/
def f_M_one_L95 (x4 : Int32) (s : S2) : Option (S2 × Int32) := ((f_M_takeBack s).bind fun q1 => some (q1, x4))
def f_M_one_L87 (k50 : Int32 → Int32 → Int32 → Int32 → Int32 → S2 → Option (S2 × Int32)) (x1 : Int32) (x2 : Int32) (x3 : Int32) (x5 : Int32) (y0 : Int32) (s : S2) : Option (S2 × Int32) := (k50 x1 x2 x3 y0 (x5 + (Int32.ofInt 1)) s)
def b_M_one_L50 (k50 : Int32 → Int32 → Int32 → Int32 → Int32 → S2 → Option (S2 × Int32)) (x1 : Int32) (x2 : Int32) (x3 : Int32) (x4 : Int32) (x5 : Int32) (s : S2) : Option (S2 × Int32) := (if x3 < x5 then (f_M_one_L95 x4 s) else (if x4 = (Int32.ofInt (-1)) then ((f_M_pass s).bind fun q1 => ((ix 6 x1).bind fun j2 => ((ix 6 x2).bind fun j3 => (if (q1.1 82 0 j2) = (q1.1 82 0 j3) then (f_M_one_L87 k50 x1 x2 x3 x5 x5 q1) else (f_M_one_L87 k50 x1 x2 x3 x5 (Int32.ofInt (-1)) q1))))) else (f_M_one_L95 x4 s)))
def f_M_one_L50 : Nat → Int32 → Int32 → Int32 → Int32 → Int32 → S2 → Option (S2 × Int32)
  | 0 => fun _ _ _ _ _ _ => none
  | n + 1 => b_M_one_L50 (f_M_one_L50 n)
def f_M_one_L45 (x1 : Int32) (x2 : Int32) (x3 : Int32) (y0 : Int32) (s : S2) : Option (S2 × Int32) := (f_M_one_L50 FU x1 x2 x3 y0 (Int32.ofInt 1) s)
def f_M_one (a1 : Int32) (a2 : Int32) (a3 : Int32) (s : S2) : Option (S2 × Int32) := (if (bI (g_M_areTwo a1 a2 s)) = 0 then some (s, (Int32.ofInt (-1))) else (if (bI (g_M_in a3 (Int32.ofInt 1) (Int32.ofInt 60) s)) = 0 then some (s, (Int32.ofInt (-1))) else ((f_M_putAside s).bind fun q1 => ((ix 6 a1).bind fun j2 => ((ix 6 a2).bind fun j3 => (if (q1.1 82 0 j2) = (q1.1 82 0 j3) then (f_M_one_L45 a1 a2 a3 (Int32.ofInt 0) q1) else (f_M_one_L45 a1 a2 a3 (Int32.ofInt (-1)) q1)))))))
theorem c_M_one_L95 {xs : Nat → Int32} {L d : Nat} {P : MK S2} {Q : S2 → Option MV → Prop} {res : S2 × Int32} (hP : MClosed (O3 xs L) (kcall (O3 xs L) (d + 8)) kd_M_one 1 Q P) (hQ : Q res.1 (some (mI res.2))) (x4 : Int32) (x1 : Int32) (x2 : Int32) (x3 : Int32) (x5 : Int32) (s : S2) (h : f_M_one_L95 x4 s = some res) : P 95 [some (mR 60 0), some (mI x1), some (mI x2), some (mI x3), some (mI x4), some (mI x5)] [] s (0, 0) := by
  refine mgo_from hP [45, 50, 87, 95] 260 ?_
  obtain ⟨q1, hq, h⟩ := bnd h
  refine go_call (fun _ hw => c_M_takeBack hq hw) ?_
  cases h
  exact hQ
theorem c_M_one_L87 {xs : Nat → Int32} {L d : Nat} {P : MK S2} {Q : S2 → Option MV → Prop} {res : S2 × Int32} (hP : MClosed (O3 xs L) (kcall (O3 xs L) (d + 8)) kd_M_one 1 Q P) (hQ : Q res.1 (some (mI res.2))) {k50 : Int32 → Int32 → Int32 → Int32 → Int32 → S2 → Option (S2 × Int32)} (hk50 : ∀ (x1 : Int32) (x2 : Int32) (x3 : Int32) (x4 : Int32) (x5 : Int32) (s : S2), k50 x1 x2 x3 x4 x5 s = some res → P 50 [some (mR 60 0), some (mI x1), some (mI x2), some (mI x3), some (mI x4), some (mI x5)] [] s (0, 0)) (x1 : Int32) (x2 : Int32) (x3 : Int32) (x5 : Int32) (y0 : Int32) (x4 : Int32) (s : S2) (h : f_M_one_L87 k50 x1 x2 x3 x5 y0 s = some res) : P 87 [some (mR 60 0), some (mI x1), some (mI x2), some (mI x3), some (mI x4), some (mI x5)] [mI y0] s (0, 0) := by
  refine mgo_from hP [45, 50, 87, 95] 260 ?_
  exact hk50 _ _ _ _ _ _ h
theorem cb_M_one_L50 {xs : Nat → Int32} {L d : Nat} {P : MK S2} {Q : S2 → Option MV → Prop} {res : S2 × Int32} (hP : MClosed (O3 xs L) (kcall (O3 xs L) (d + 8)) kd_M_one 1 Q P) (hQ : Q res.1 (some (mI res.2))) {k50 : Int32 → Int32 → Int32 → Int32 → Int32 → S2 → Option (S2 × Int32)} (hk50 : ∀ (x1 : Int32) (x2 : Int32) (x3 : Int32) (x4 : Int32) (x5 : Int32) (s : S2), k50 x1 x2 x3 x4 x5 s = some res → P 50 [some (mR 60 0), some (mI x1), some (mI x2), some (mI x3), some (mI x4), some (mI x5)] [] s (0, 0)) (x1 : Int32) (x2 : Int32) (x3 : Int32) (x4 : Int32) (x5 : Int32) (s : S2) (h : b_M_one_L50 k50 x1 x2 x3 x4 x5 s = some res) : P 50 [some (mR 60 0), some (mI x1), some (mI x2), some (mI x3), some (mI x4), some (mI x5)] [] s (0, 0) := by
  refine mgo_from hP [45, 50, 87, 95] 260 ?_
  refine go_br (fun hc : x3 < x5 => ?_) (fun hc : ¬ (x3 < x5) => ?_)
  · replace h := (if_pos hc).symm.trans h
    exact c_M_one_L95 hP hQ _ _ _ _ _ _ h
  · replace h := (if_neg hc).symm.trans h
    refine go_brn (fun hc : ¬ (x4 = (Int32.ofInt (-1))) => ?_) (fun hc : x4 = (Int32.ofInt (-1)) => ?_)
    · replace h := (if_neg hc).symm.trans h
      exact c_M_one_L95 hP hQ _ _ _ _ _ _ h
    · replace h := (if_pos hc).symm.trans h
      obtain ⟨q1, hq, h⟩ := bnd h
      refine go_call (fun _ hw => c_M_pass hq hw) ?_
      obtain ⟨j2, hj, h⟩ := bnd h
      refine go_ix j2 (ix_lt hj) (ix_eq hj) ?_
      obtain ⟨j3, hj, h⟩ := bnd h
      refine go_ix j3 (ix_lt hj) (ix_eq hj) ?_
      refine go_brn (fun hc : ¬ ((q1.1 82 0 j2) = (q1.1 82 0 j3)) => ?_) (fun hc : (q1.1 82 0 j2) = (q1.1 82 0 j3) => ?_)
      · replace h := (if_neg hc).symm.trans h
        exact c_M_one_L87 hP hQ hk50 _ _ _ _ _ _ _ h
      · replace h := (if_pos hc).symm.trans h
        exact c_M_one_L87 hP hQ hk50 _ _ _ _ _ _ _ h
theorem c_M_one_L50 {xs : Nat → Int32} {L d : Nat} {P : MK S2} {Q : S2 → Option MV → Prop} {res : S2 × Int32} (hP : MClosed (O3 xs L) (kcall (O3 xs L) (d + 8)) kd_M_one 1 Q P) (hQ : Q res.1 (some (mI res.2))) : ∀ (fu : Nat) (x1 : Int32) (x2 : Int32) (x3 : Int32) (x4 : Int32) (x5 : Int32) (s : S2), f_M_one_L50 fu x1 x2 x3 x4 x5 s = some res → P 50 [some (mR 60 0), some (mI x1), some (mI x2), some (mI x3), some (mI x4), some (mI x5)] [] s (0, 0)
  | 0, _, _, _, _, _, _, h => by cases h
  | fu + 1, x1, x2, x3, x4, x5, s, h => cb_M_one_L50 hP hQ (c_M_one_L50 hP hQ fu) x1 x2 x3 x4 x5 s h
theorem c_M_one_L45 {xs : Nat → Int32} {L d : Nat} {P : MK S2} {Q : S2 → Option MV → Prop} {res : S2 × Int32} (hP : MClosed (O3 xs L) (kcall (O3 xs L) (d + 8)) kd_M_one 1 Q P) (hQ : Q res.1 (some (mI res.2))) (x1 : Int32) (x2 : Int32) (x3 : Int32) (y0 : Int32) (s : S2) (h : f_M_one_L45 x1 x2 x3 y0 s = some res) : P 45 [some (mR 60 0), some (mI x1), some (mI x2), some (mI x3), none, none] [mI y0] s (0, 0) := by
  refine mgo_from hP [45, 50, 87, 95] 260 ?_
  exact c_M_one_L50 hP hQ FU _ _ _ _ _ _ h
set_option maxRecDepth 20000 in
set_option maxHeartbeats 4000000 in
theorem c_M_one {xs : Nat → Int32} {L d : Nat} {a1 : Int32} {a2 : Int32} {a3 : Int32} {s : S2} {res : S2 × Int32} {Q : S2 → Option MV → Prop} (h : f_M_one a1 a2 a3 s = some res) (hQ : Q res.1 (some (mI res.2))) : kcall (O3 xs L) (d + 9) k_M_one [mR 60 0, mI a1, mI a2, mI a3] s Q := by
  refine kc_of (cd := kd_M_one) (mx := 6) (rt := 1) rfl rfl ?_
  intro P hP
  refine mgo_sound hP [45, 50, 87, 95] 260 _ _ _ _ _ ?_
  refine go_call (fun _ hw => c_M_areTwo hw) ?_
  refine go_br (fun hc : (bI (g_M_areTwo a1 a2 s)) = 0 => ?_) (fun hc : ¬ ((bI (g_M_areTwo a1 a2 s)) = 0) => ?_)
  · replace h := (if_pos hc).symm.trans h
    cases h
    exact hQ
  · replace h := (if_neg hc).symm.trans h
    refine go_call (fun _ hw => c_M_in hw) ?_
    refine go_brn (fun hc : ¬ ((bI (g_M_in a3 (Int32.ofInt 1) (Int32.ofInt 60) s)) = 0) => ?_) (fun hc : (bI (g_M_in a3 (Int32.ofInt 1) (Int32.ofInt 60) s)) = 0 => ?_)
    · replace h := (if_neg hc).symm.trans h
      obtain ⟨q1, hq, h⟩ := bnd h
      refine go_call (fun _ hw => c_M_putAside hq hw) ?_
      obtain ⟨j2, hj, h⟩ := bnd h
      refine go_ix j2 (ix_lt hj) (ix_eq hj) ?_
      obtain ⟨j3, hj, h⟩ := bnd h
      refine go_ix j3 (ix_lt hj) (ix_eq hj) ?_
      refine go_brn (fun hc : ¬ ((q1.1 82 0 j2) = (q1.1 82 0 j3)) => ?_) (fun hc : (q1.1 82 0 j2) = (q1.1 82 0 j3) => ?_)
      · replace h := (if_neg hc).symm.trans h
        exact c_M_one_L45 hP hQ _ _ _ _ _ h
      · replace h := (if_pos hc).symm.trans h
        exact c_M_one_L45 hP hQ _ _ _ _ _ h
    · replace h := (if_pos hc).symm.trans h
      cases h
      exact hQ
/-! M_nearest -/
def f_M_nearest_L77 (k49 : Int32 → Int32 → Int32 → Int32 → Int32 → Int32 → Int32 → S2 → Option (S2 × Int32)) (x1 : Int32) (x2 : Int32) (x3 : Int32) (x4 : Int32) (x5 : Int32) (x7 : Int32) (y0 : Int32) (s : S2) : Option (S2 × Int32) := ((f_M_farOf x1 x2 s).bind fun q1 => (k49 x1 x2 x3 x4 (jmin x5 q1) y0 (x7 + (Int32.ofInt 1)) s))
def b_M_nearest_L49 (k49 : Int32 → Int32 → Int32 → Int32 → Int32 → Int32 → Int32 → S2 → Option (S2 × Int32)) (x1 : Int32) (x2 : Int32) (x3 : Int32) (x4 : Int32) (x5 : Int32) (x6 : Int32) (x7 : Int32) (s : S2) : Option (S2 × Int32) := (if x3 < x7 then ((f_M_takeBack s).bind fun q1 => (if x4 = 0 then some (q1, x5) else some (q1, x6))) else ((f_M_pass s).bind fun q2 => ((f_M_farOf x1 x2 q2).bind fun q3 => (if x5 ≤ q3 then (f_M_nearest_L77 k49 x1 x2 x3 x4 x5 x7 x6 q2) else (f_M_nearest_L77 k49 x1 x2 x3 x4 x5 x7 x7 q2)))))
def f_M_nearest_L49 : Nat → Int32 → Int32 → Int32 → Int32 → Int32 → Int32 → Int32 → S2 → Option (S2 × Int32)
  | 0 => fun _ _ _ _ _ _ _ _ => none
  | n + 1 => b_M_nearest_L49 (f_M_nearest_L49 n)
def f_M_nearest (a1 : Int32) (a2 : Int32) (a3 : Int32) (a4 : Int32) (s : S2) : Option (S2 × Int32) := (if (bI (g_M_areTwo a1 a2 s)) = 0 then some (s, (Int32.ofInt (-1))) else (if (bI (g_M_in a3 (Int32.ofInt 0) (Int32.ofInt 60) s)) = 0 then some (s, (Int32.ofInt (-1))) else (if (bI (g_M_in a4 (Int32.ofInt 0) (Int32.ofInt 1) s)) = 0 then some (s, (Int32.ofInt (-1))) else ((f_M_putAside s).bind fun q1 => ((f_M_farOf a1 a2 q1).bind fun q2 => (f_M_nearest_L49 FU a1 a2 a3 a4 q2 (Int32.ofInt 0) (Int32.ofInt 1) q1))))))
theorem c_M_nearest_L77 {xs : Nat → Int32} {L d : Nat} {P : MK S2} {Q : S2 → Option MV → Prop} {res : S2 × Int32} (hP : MClosed (O3 xs L) (kcall (O3 xs L) (d + 8)) kd_M_nearest 1 Q P) (hQ : Q res.1 (some (mI res.2))) {k49 : Int32 → Int32 → Int32 → Int32 → Int32 → Int32 → Int32 → S2 → Option (S2 × Int32)} (hk49 : ∀ (x1 : Int32) (x2 : Int32) (x3 : Int32) (x4 : Int32) (x5 : Int32) (x6 : Int32) (x7 : Int32) (s : S2), k49 x1 x2 x3 x4 x5 x6 x7 s = some res → P 49 [some (mR 60 0), some (mI x1), some (mI x2), some (mI x3), some (mI x4), some (mI x5), some (mI x6), some (mI x7)] [] s (0, 0)) (x1 : Int32) (x2 : Int32) (x3 : Int32) (x4 : Int32) (x5 : Int32) (x7 : Int32) (y0 : Int32) (x6 : Int32) (s : S2) (h : f_M_nearest_L77 k49 x1 x2 x3 x4 x5 x7 y0 s = some res) : P 77 [some (mR 60 0), some (mI x1), some (mI x2), some (mI x3), some (mI x4), some (mI x5), some (mI x6), some (mI x7)] [mI y0] s (0, 0) := by
  refine mgo_from hP [49, 77] 260 ?_
  obtain ⟨q1, hq, h⟩ := bnd h
  refine go_call (fun _ hw => c_M_farOf hq hw) ?_
  exact hk49 _ _ _ _ _ _ _ _ h
theorem cb_M_nearest_L49 {xs : Nat → Int32} {L d : Nat} {P : MK S2} {Q : S2 → Option MV → Prop} {res : S2 × Int32} (hP : MClosed (O3 xs L) (kcall (O3 xs L) (d + 8)) kd_M_nearest 1 Q P) (hQ : Q res.1 (some (mI res.2))) {k49 : Int32 → Int32 → Int32 → Int32 → Int32 → Int32 → Int32 → S2 → Option (S2 × Int32)} (hk49 : ∀ (x1 : Int32) (x2 : Int32) (x3 : Int32) (x4 : Int32) (x5 : Int32) (x6 : Int32) (x7 : Int32) (s : S2), k49 x1 x2 x3 x4 x5 x6 x7 s = some res → P 49 [some (mR 60 0), some (mI x1), some (mI x2), some (mI x3), some (mI x4), some (mI x5), some (mI x6), some (mI x7)] [] s (0, 0)) (x1 : Int32) (x2 : Int32) (x3 : Int32) (x4 : Int32) (x5 : Int32) (x6 : Int32) (x7 : Int32) (s : S2) (h : b_M_nearest_L49 k49 x1 x2 x3 x4 x5 x6 x7 s = some res) : P 49 [some (mR 60 0), some (mI x1), some (mI x2), some (mI x3), some (mI x4), some (mI x5), some (mI x6), some (mI x7)] [] s (0, 0) := by
  refine mgo_from hP [49, 77] 260 ?_
  refine go_br (fun hc : x3 < x7 => ?_) (fun hc : ¬ (x3 < x7) => ?_)
  · replace h := (if_pos hc).symm.trans h
    obtain ⟨q1, hq, h⟩ := bnd h
    refine go_call (fun _ hw => c_M_takeBack hq hw) ?_
    refine go_brn (fun hc : ¬ (x4 = 0) => ?_) (fun hc : x4 = 0 => ?_)
    · replace h := (if_neg hc).symm.trans h
      cases h
      exact hQ
    · replace h := (if_pos hc).symm.trans h
      cases h
      exact hQ
  · replace h := (if_neg hc).symm.trans h
    obtain ⟨q2, hq, h⟩ := bnd h
    refine go_call (fun _ hw => c_M_pass hq hw) ?_
    obtain ⟨q3, hq, h⟩ := bnd h
    refine go_call (fun _ hw => c_M_farOf hq hw) ?_
    refine go_br (fun hc : x5 ≤ q3 => ?_) (fun hc : ¬ (x5 ≤ q3) => ?_)
    · replace h := (if_pos hc).symm.trans h
      exact c_M_nearest_L77 hP hQ hk49 _ _ _ _ _ _ _ _ _ h
    · replace h := (if_neg hc).symm.trans h
      exact c_M_nearest_L77 hP hQ hk49 _ _ _ _ _ _ _ _ _ h
theorem c_M_nearest_L49 {xs : Nat → Int32} {L d : Nat} {P : MK S2} {Q : S2 → Option MV → Prop} {res : S2 × Int32} (hP : MClosed (O3 xs L) (kcall (O3 xs L) (d + 8)) kd_M_nearest 1 Q P) (hQ : Q res.1 (some (mI res.2))) : ∀ (fu : Nat) (x1 : Int32) (x2 : Int32) (x3 : Int32) (x4 : Int32) (x5 : Int32) (x6 : Int32) (x7 : Int32) (s : S2), f_M_nearest_L49 fu x1 x2 x3 x4 x5 x6 x7 s = some res → P 49 [some (mR 60 0), some (mI x1), some (mI x2), some (mI x3), some (mI x4), some (mI x5), some (mI x6), some (mI x7)] [] s (0, 0)
  | 0, _, _, _, _, _, _, _, _, h => by cases h
  | fu + 1, x1, x2, x3, x4, x5, x6, x7, s, h => cb_M_nearest_L49 hP hQ (c_M_nearest_L49 hP hQ fu) x1 x2 x3 x4 x5 x6 x7 s h
set_option maxRecDepth 20000 in
set_option maxHeartbeats 4000000 in
theorem c_M_nearest {xs : Nat → Int32} {L d : Nat} {a1 : Int32} {a2 : Int32} {a3 : Int32} {a4 : Int32} {s : S2} {res : S2 × Int32} {Q : S2 → Option MV → Prop} (h : f_M_nearest a1 a2 a3 a4 s = some res) (hQ : Q res.1 (some (mI res.2))) : kcall (O3 xs L) (d + 9) k_M_nearest [mR 60 0, mI a1, mI a2, mI a3, mI a4] s Q := by
  refine kc_of (cd := kd_M_nearest) (mx := 8) (rt := 1) rfl rfl ?_
  intro P hP
  refine mgo_sound hP [49, 77] 260 _ _ _ _ _ ?_
  refine go_call (fun _ hw => c_M_areTwo hw) ?_
  refine go_br (fun hc : (bI (g_M_areTwo a1 a2 s)) = 0 => ?_) (fun hc : ¬ ((bI (g_M_areTwo a1 a2 s)) = 0) => ?_)
  · replace h := (if_pos hc).symm.trans h
    cases h
    exact hQ
  · replace h := (if_neg hc).symm.trans h
    refine go_call (fun _ hw => c_M_in hw) ?_
    refine go_br (fun hc : (bI (g_M_in a3 (Int32.ofInt 0) (Int32.ofInt 60) s)) = 0 => ?_) (fun hc : ¬ ((bI (g_M_in a3 (Int32.ofInt 0) (Int32.ofInt 60) s)) = 0) => ?_)
    · replace h := (if_pos hc).symm.trans h
      cases h
      exact hQ
    · replace h := (if_neg hc).symm.trans h
      refine go_call (fun _ hw => c_M_in hw) ?_
      refine go_brn (fun hc : ¬ ((bI (g_M_in a4 (Int32.ofInt 0) (Int32.ofInt 1) s)) = 0) => ?_) (fun hc : (bI (g_M_in a4 (Int32.ofInt 0) (Int32.ofInt 1) s)) = 0 => ?_)
      · replace h := (if_neg hc).symm.trans h
        obtain ⟨q1, hq, h⟩ := bnd h
        refine go_call (fun _ hw => c_M_putAside hq hw) ?_
        obtain ⟨q2, hq, h⟩ := bnd h
        refine go_call (fun _ hw => c_M_farOf hq hw) ?_
        exact c_M_nearest_L49 hP hQ FU _ _ _ _ _ _ _ _ h
      · replace h := (if_pos hc).symm.trans h
        cases h
        exact hQ
/-! M_snap -/
def f_M_snap_L77 (x2 : Int32) (s : S2) : Option (S2 × Int32) := ((f_M_takeBack s).bind fun q1 => some (q1, x2))
def f_M_snap_L70 (k39 : Int32 → Int32 → Int32 → S2 → Option (S2 × Int32)) (x1 : Int32) (x3 : Int32) (y0 : Int32) (s : S2) : Option (S2 × Int32) := (k39 x1 y0 (x3 + (Int32.ofInt 1)) s)
def b_M_snap_L39 (k39 : Int32 → Int32 → Int32 → S2 → Option (S2 × Int32)) (x1 : Int32) (x2 : Int32) (x3 : Int32) (s : S2) : Option (S2 × Int32) := (if (Int32.ofInt 60) < x3 then (f_M_snap_L77 x2 s) else (if x2 = (Int32.ofInt (-1)) then ((f_M_pass s).bind fun q1 => (if (bI (g_M_has (q1.1 60 0 36) x1 q1)) = 0 then (f_M_snap_L70 k39 x1 x3 x3 q1) else (f_M_snap_L70 k39 x1 x3 (Int32.ofInt (-1)) q1))) else (f_M_snap_L77 x2 s)))
def f_M_snap_L39 : Nat → Int32 → Int32 → Int32 → S2 → Option (S2 × Int32)
  | 0 => fun _ _ _ _ => none
  | n + 1 => b_M_snap_L39 (f_M_snap_L39 n)
def f_M_snap_L36 (x1 : Int32) (y0 : Int32) (s : S2) : Option (S2 × Int32) := (f_M_snap_L39 FU x1 y0 (Int32.ofInt 1) s)
def f_M_snap (a1 : Int32) (s : S2) : Option (S2 × Int32) := (if (bI (g_M_in a1 (Int32.ofInt 0) ((s.1 60 0 30) - (Int32.ofInt 1)) s)) = 0 then some (s, (Int32.ofInt (-1))) else ((f_M_putAside s).bind fun q1 => (if (bI (g_M_has (q1.1 60 0 36) a1 q1)) = 0 then (f_M_snap_L36 a1 (Int32.ofInt 0) q1) else (f_M_snap_L36 a1 (Int32.ofInt (-1)) q1))))
theorem c_M_snap_L77 {xs : Nat → Int32} {L d : Nat} {P : MK S2} {Q : S2 → Option MV → Prop} {res : S2 × Int32} (hP : MClosed (O3 xs L) (kcall (O3 xs L) (d + 8)) kd_M_snap 1 Q P) (hQ : Q res.1 (some (mI res.2))) (x2 : Int32) (x1 : Int32) (x3 : Int32) (s : S2) (h : f_M_snap_L77 x2 s = some res) : P 77 [some (mR 60 0), some (mI x1), some (mI x2), some (mI x3)] [] s (0, 0) := by
  refine mgo_from hP [36, 39, 70, 77] 260 ?_
  obtain ⟨q1, hq, h⟩ := bnd h
  refine go_call (fun _ hw => c_M_takeBack hq hw) ?_
  cases h
  exact hQ
theorem c_M_snap_L70 {xs : Nat → Int32} {L d : Nat} {P : MK S2} {Q : S2 → Option MV → Prop} {res : S2 × Int32} (hP : MClosed (O3 xs L) (kcall (O3 xs L) (d + 8)) kd_M_snap 1 Q P) (hQ : Q res.1 (some (mI res.2))) {k39 : Int32 → Int32 → Int32 → S2 → Option (S2 × Int32)} (hk39 : ∀ (x1 : Int32) (x2 : Int32) (x3 : Int32) (s : S2), k39 x1 x2 x3 s = some res → P 39 [some (mR 60 0), some (mI x1), some (mI x2), some (mI x3)] [] s (0, 0)) (x1 : Int32) (x3 : Int32) (y0 : Int32) (x2 : Int32) (s : S2) (h : f_M_snap_L70 k39 x1 x3 y0 s = some res) : P 70 [some (mR 60 0), some (mI x1), some (mI x2), some (mI x3)] [mI y0] s (0, 0) := by
  refine mgo_from hP [36, 39, 70, 77] 260 ?_
  exact hk39 _ _ _ _ h
theorem cb_M_snap_L39 {xs : Nat → Int32} {L d : Nat} {P : MK S2} {Q : S2 → Option MV → Prop} {res : S2 × Int32} (hP : MClosed (O3 xs L) (kcall (O3 xs L) (d + 8)) kd_M_snap 1 Q P) (hQ : Q res.1 (some (mI res.2))) {k39 : Int32 → Int32 → Int32 → S2 → Option (S2 × Int32)} (hk39 : ∀ (x1 : Int32) (x2 : Int32) (x3 : Int32) (s : S2), k39 x1 x2 x3 s = some res → P 39 [some (mR 60 0), some (mI x1), some (mI x2), some (mI x3)] [] s (0, 0)) (x1 : Int32) (x2 : Int32) (x3 : Int32) (s : S2) (h : b_M_snap_L39 k39 x1 x2 x3 s = some res) : P 39 [some (mR 60 0), some (mI x1), some (mI x2), some (mI x3)] [] s (0, 0) := by
  refine mgo_from hP [36, 39, 70, 77] 260 ?_
  refine go_br (fun hc : (Int32.ofInt 60) < x3 => ?_) (fun hc : ¬ ((Int32.ofInt 60) < x3) => ?_)
  · replace h := (if_pos hc).symm.trans h
    exact c_M_snap_L77 hP hQ _ _ _ _ h
  · replace h := (if_neg hc).symm.trans h
    refine go_brn (fun hc : ¬ (x2 = (Int32.ofInt (-1))) => ?_) (fun hc : x2 = (Int32.ofInt (-1)) => ?_)
    · replace h := (if_neg hc).symm.trans h
      exact c_M_snap_L77 hP hQ _ _ _ _ h
    · replace h := (if_pos hc).symm.trans h
      obtain ⟨q1, hq, h⟩ := bnd h
      refine go_call (fun _ hw => c_M_pass hq hw) ?_
      refine go_call (fun _ hw => c_M_has hw) ?_
      refine go_br (fun hc : (bI (g_M_has (q1.1 60 0 36) x1 q1)) = 0 => ?_) (fun hc : ¬ ((bI (g_M_has (q1.1 60 0 36) x1 q1)) = 0) => ?_)
      · replace h := (if_pos hc).symm.trans h
        exact c_M_snap_L70 hP hQ hk39 _ _ _ _ _ h
      · replace h := (if_neg hc).symm.trans h
        exact c_M_snap_L70 hP hQ hk39 _ _ _ _ _ h
theorem c_M_snap_L39 {xs : Nat → Int32} {L d : Nat} {P : MK S2} {Q : S2 → Option MV → Prop} {res : S2 × Int32} (hP : MClosed (O3 xs L) (kcall (O3 xs L) (d + 8)) kd_M_snap 1 Q P) (hQ : Q res.1 (some (mI res.2))) : ∀ (fu : Nat) (x1 : Int32) (x2 : Int32) (x3 : Int32) (s : S2), f_M_snap_L39 fu x1 x2 x3 s = some res → P 39 [some (mR 60 0), some (mI x1), some (mI x2), some (mI x3)] [] s (0, 0)
  | 0, _, _, _, _, h => by cases h
  | fu + 1, x1, x2, x3, s, h => cb_M_snap_L39 hP hQ (c_M_snap_L39 hP hQ fu) x1 x2 x3 s h
theorem c_M_snap_L36 {xs : Nat → Int32} {L d : Nat} {P : MK S2} {Q : S2 → Option MV → Prop} {res : S2 × Int32} (hP : MClosed (O3 xs L) (kcall (O3 xs L) (d + 8)) kd_M_snap 1 Q P) (hQ : Q res.1 (some (mI res.2))) (x1 : Int32) (y0 : Int32) (s : S2) (h : f_M_snap_L36 x1 y0 s = some res) : P 36 [some (mR 60 0), some (mI x1), none, none] [mI y0] s (0, 0) := by
  refine mgo_from hP [36, 39, 70, 77] 260 ?_
  exact c_M_snap_L39 hP hQ FU _ _ _ _ h
theorem c_M_snap {xs : Nat → Int32} {L d : Nat} {a1 : Int32} {s : S2} {res : S2 × Int32} {Q : S2 → Option MV → Prop} (h : f_M_snap a1 s = some res) (hQ : Q res.1 (some (mI res.2))) : kcall (O3 xs L) (d + 9) k_M_snap [mR 60 0, mI a1] s Q := by
  refine kc_of (cd := kd_M_snap) (mx := 4) (rt := 1) rfl rfl ?_
  intro P hP
  refine mgo_sound hP [36, 39, 70, 77] 260 _ _ _ _ _ ?_
  refine go_call (fun _ hw => c_M_in hw) ?_
  refine go_brn (fun hc : ¬ ((bI (g_M_in a1 (Int32.ofInt 0) ((s.1 60 0 30) - (Int32.ofInt 1)) s)) = 0) => ?_) (fun hc : (bI (g_M_in a1 (Int32.ofInt 0) ((s.1 60 0 30) - (Int32.ofInt 1)) s)) = 0 => ?_)
  · replace h := (if_neg hc).symm.trans h
    obtain ⟨q1, hq, h⟩ := bnd h
    refine go_call (fun _ hw => c_M_putAside hq hw) ?_
    refine go_call (fun _ hw => c_M_has hw) ?_
    refine go_br (fun hc : (bI (g_M_has (q1.1 60 0 36) a1 q1)) = 0 => ?_) (fun hc : ¬ ((bI (g_M_has (q1.1 60 0 36) a1 q1)) = 0) => ?_)
    · replace h := (if_pos hc).symm.trans h
      exact c_M_snap_L36 hP hQ _ _ _ h
    · replace h := (if_neg hc).symm.trans h
      exact c_M_snap_L36 hP hQ _ _ _ h
  · replace h := (if_pos hc).symm.trans h
    cases h
    exact hQ
/-! M_sailAll -/
def f_M_sailAll_L189 (s : S2) : Option S2 := ((f_M_takeBack s).bind fun q1 => some q1)
def f_M_sailAll_L180 (k38 : Int32 → Int32 → Int32 → Int32 → Int32 → S2 → Option S2) (x2 : Int32) (x3 : Int32) (x4 : Int32) (x5 : Int32) (x6 : Int32) (y1 : Int32) (s : S2) : Option S2 := ((some (pkS s 60 0 60 y1)).bind fun s1 => (k38 x2 x3 x4 x5 (x6 + (Int32.ofInt 1)) s1))
def f_M_sailAll_L179 (k38 : Int32 → Int32 → Int32 → Int32 → Int32 → S2 → Option S2) (x2 : Int32) (x3 : Int32) (x4 : Int32) (x5 : Int32) (x6 : Int32) (s : S2) : Option S2 := (f_M_sailAll_L180 k38 x2 x3 x4 x5 x6 (Int32.ofInt (-1)) s)
def f_M_sailAll_L105 (k38 : Int32 → Int32 → Int32 → Int32 → Int32 → S2 → Option S2) (x2 : Int32) (x3 : Int32) (x4 : Int32) (x5 : Int32) (x6 : Int32) (x7 : Int32) (x8 : Int32) (y1 : Int32) (s : S2) : Option S2 := (if y1 = 0 ∨ y1 = 1 then ((some (pkS s 60 0 61 y1)).bind fun s1 => (if (jmax (-x3) (jmin x3 x7)) = x7 then (if (jmax (-(x3 - (jabs (jmax (-x3) (jmin x3 x7))))) (jmin (x3 - (jabs (jmax (-x3) (jmin x3 x7)))) x8)) = x8 then (f_M_sailAll_L180 k38 x2 x3 (x4 + (jmax (-x3) (jmin x3 x7))) (x5 + (jmax (-(x3 - (jabs (jmax (-x3) (jmin x3 x7))))) (jmin (x3 - (jabs (jmax (-x3) (jmin x3 x7)))) x8))) x6 x6 s1) else (f_M_sailAll_L179 k38 x2 x3 (x4 + (jmax (-x3) (jmin x3 x7))) (x5 + (jmax (-(x3 - (jabs (jmax (-x3) (jmin x3 x7))))) (jmin (x3 - (jabs (jmax (-x3) (jmin x3 x7)))) x8))) x6 s1)) else (f_M_sailAll_L179 k38 x2 x3 (x4 + (jmax (-x3) (jmin x3 x7))) (x5 + (jmax (-(x3 - (jabs (jmax (-x3) (jmin x3 x7))))) (jmin (x3 - (jabs (jmax (-x3) (jmin x3 x7)))) x8))) x6 s1))) else none)
def f_M_sailAll_L104 (k38 : Int32 → Int32 → Int32 → Int32 → Int32 → S2 → Option S2) (x2 : Int32) (x3 : Int32) (x4 : Int32) (x5 : Int32) (x6 : Int32) (x7 : Int32) (x8 : Int32) (s : S2) : Option S2 := (f_M_sailAll_L105 k38 x2 x3 x4 x5 x6 x7 x8 (Int32.ofInt 0) s)
def b_M_sailAll_L38 (k38 : Int32 → Int32 → Int32 → Int32 → Int32 → S2 → Option S2) (x2 : Int32) (x3 : Int32) (x4 : Int32) (x5 : Int32) (x6 : Int32) (s : S2) : Option S2 := (if (Int32.ofInt 60) < x6 then (f_M_sailAll_L189 s) else (if (s.1 60 0 60) = (Int32.ofInt (-1)) then ((f_M_pass s).bind fun q1 => ((ix 6 x2).bind fun j2 => ((ix 6 (q1.1 82 0 j2)).bind fun j3 => ((ix 6 x2).bind fun j4 => ((ix 6 (q1.1 82 0 j4)).bind fun j5 => (if ((q1.1 79 0 j3) - x4) = 0 then (if ((q1.1 80 0 j5) - x5) = 0 then (f_M_sailAll_L105 k38 x2 x3 x4 x5 x6 ((q1.1 79 0 j3) - x4) ((q1.1 80 0 j5) - x5) (Int32.ofInt 1) q1) else (f_M_sailAll_L104 k38 x2 x3 x4 x5 x6 ((q1.1 79 0 j3) - x4) ((q1.1 80 0 j5) - x5) q1)) else (f_M_sailAll_L104 k38 x2 x3 x4 x5 x6 ((q1.1 79 0 j3) - x4) ((q1.1 80 0 j5) - x5) q1))))))) else (f_M_sailAll_L189 s)))
def f_M_sailAll_L38 : Nat → Int32 → Int32 → Int32 → Int32 → Int32 → S2 → Option S2
  | 0 => fun _ _ _ _ _ _ => none
  | n + 1 => b_M_sailAll_L38 (f_M_sailAll_L38 n)
def f_M_sailAll (a1 : Int32) (a2 : Int32) (a3 : Int32) (s : S2) : Option S2 := ((f_M_putAside s).bind fun q1 => ((ix 6 a1).bind fun j2 => ((ix 6 (q1.1 82 0 j2)).bind fun j3 => ((ix 6 a1).bind fun j4 => ((ix 6 (q1.1 82 0 j4)).bind fun j5 => ((some (pkS q1 60 0 60 (Int32.ofInt (-1)))).bind fun s6 => (f_M_sailAll_L38 FU a2 a3 (q1.1 79 0 j3) (q1.1 80 0 j5) (Int32.ofInt 1) s6)))))))
theorem c_M_sailAll_L189 {xs : Nat → Int32} {L d : Nat} {P : MK S2} {Q : S2 → Option MV → Prop} {res : S2} (hP : MClosed (O3 xs L) (kcall (O3 xs L) (d + 8)) kd_M_sailAll 0 Q P) (hQ : Q res none) (x1 : Int32) (x2 : Int32) (x3 : Int32) (x4 : Int32) (x5 : Int32) (x6 : Int32) (x7 : Option Int32) (x8 : Option Int32) (x9 : Option Int32) (x10 : Option Int32) (x11 : Option Int32) (s : S2) (h : f_M_sailAll_L189 s = some res) : P 189 [some (mR 60 0), some (mI x1), some (mI x2), some (mI x3), some (mI x4), some (mI x5), some (mI x6), oI x7, oI x8, oI x9, oI x10, oI x11] [] s (0, 0) := by
  refine mgo_from hP [38, 104, 105, 179, 180, 189] 260 ?_
  obtain ⟨q1, hq, h⟩ := bnd h
  refine go_call (fun _ hw => c_M_takeBack hq hw) ?_
  cases h
  exact hQ
theorem c_M_sailAll_L180 {xs : Nat → Int32} {L d : Nat} {P : MK S2} {Q : S2 → Option MV → Prop} {res : S2} (hP : MClosed (O3 xs L) (kcall (O3 xs L) (d + 8)) kd_M_sailAll 0 Q P) (hQ : Q res none) {k38 : Int32 → Int32 → Int32 → Int32 → Int32 → S2 → Option S2} (hk38 : ∀ (x2 : Int32) (x3 : Int32) (x4 : Int32) (x5 : Int32) (x6 : Int32) (x1 : Int32) (x7 : Option Int32) (x8 : Option Int32) (x9 : Option Int32) (x10 : Option Int32) (x11 : Option Int32) (s : S2), k38 x2 x3 x4 x5 x6 s = some res → P 38 [some (mR 60 0), some (mI x1), some (mI x2), some (mI x3), some (mI x4), some (mI x5), some (mI x6), oI x7, oI x8, oI x9, oI x10, oI x11] [] s (0, 0)) (x2 : Int32) (x3 : Int32) (x4 : Int32) (x5 : Int32) (x6 : Int32) (y1 : Int32) (x1 : Int32) (x7 : Int32) (x8 : Int32) (x9 : Int32) (x10 : Int32) (x11 : Int32) (s : S2) (h : f_M_sailAll_L180 k38 x2 x3 x4 x5 x6 y1 s = some res) : P 180 [some (mR 60 0), some (mI x1), some (mI x2), some (mI x3), some (mI x4), some (mI x5), some (mI x6), some (mI x7), some (mI x8), some (mI x9), some (mI x10), some (mI x11)] [mI y1, mR 60 0] s (0, 0) := by
  refine mgo_from hP [38, 104, 105, 179, 180, 189] 260 ?_
  replace h := bnds h
  exact hk38 _ _ _ _ _ _ (some x7) (some x8) (some x9) (some x10) (some x11) _ h
theorem c_M_sailAll_L179 {xs : Nat → Int32} {L d : Nat} {P : MK S2} {Q : S2 → Option MV → Prop} {res : S2} (hP : MClosed (O3 xs L) (kcall (O3 xs L) (d + 8)) kd_M_sailAll 0 Q P) (hQ : Q res none) {k38 : Int32 → Int32 → Int32 → Int32 → Int32 → S2 → Option S2} (hk38 : ∀ (x2 : Int32) (x3 : Int32) (x4 : Int32) (x5 : Int32) (x6 : Int32) (x1 : Int32) (x7 : Option Int32) (x8 : Option Int32) (x9 : Option Int32) (x10 : Option Int32) (x11 : Option Int32) (s : S2), k38 x2 x3 x4 x5 x6 s = some res → P 38 [some (mR 60 0), some (mI x1), some (mI x2), some (mI x3), some (mI x4), some (mI x5), some (mI x6), oI x7, oI x8, oI x9, oI x10, oI x11] [] s (0, 0)) (x2 : Int32) (x3 : Int32) (x4 : Int32) (x5 : Int32) (x6 : Int32) (x1 : Int32) (x7 : Int32) (x8 : Int32) (x9 : Int32) (x10 : Int32) (x11 : Int32) (s : S2) (h : f_M_sailAll_L179 k38 x2 x3 x4 x5 x6 s = some res) : P 179 [some (mR 60 0), some (mI x1), some (mI x2), some (mI x3), some (mI x4), some (mI x5), some (mI x6), some (mI x7), some (mI x8), some (mI x9), some (mI x10), some (mI x11)] [mR 60 0] s (0, 0) := by
  refine mgo_from hP [38, 104, 105, 179, 180, 189] 260 ?_
  exact c_M_sailAll_L180 hP hQ hk38 _ _ _ _ _ _ _ _ _ _ _ _ _ h
theorem c_M_sailAll_L105 {xs : Nat → Int32} {L d : Nat} {P : MK S2} {Q : S2 → Option MV → Prop} {res : S2} (hP : MClosed (O3 xs L) (kcall (O3 xs L) (d + 8)) kd_M_sailAll 0 Q P) (hQ : Q res none) {k38 : Int32 → Int32 → Int32 → Int32 → Int32 → S2 → Option S2} (hk38 : ∀ (x2 : Int32) (x3 : Int32) (x4 : Int32) (x5 : Int32) (x6 : Int32) (x1 : Int32) (x7 : Option Int32) (x8 : Option Int32) (x9 : Option Int32) (x10 : Option Int32) (x11 : Option Int32) (s : S2), k38 x2 x3 x4 x5 x6 s = some res → P 38 [some (mR 60 0), some (mI x1), some (mI x2), some (mI x3), some (mI x4), some (mI x5), some (mI x6), oI x7, oI x8, oI x9, oI x10, oI x11] [] s (0, 0)) (x2 : Int32) (x3 : Int32) (x4 : Int32) (x5 : Int32) (x6 : Int32) (x7 : Int32) (x8 : Int32) (y1 : Int32) (x1 : Int32) (x9 : Option Int32) (x10 : Option Int32) (x11 : Option Int32) (s : S2) (h : f_M_sailAll_L105 k38 x2 x3 x4 x5 x6 x7 x8 y1 s = some res) : P 105 [some (mR 60 0), some (mI x1), some (mI x2), some (mI x3), some (mI x4), some (mI x5), some (mI x6), some (mI x7), some (mI x8), oI x9, oI x10, oI x11] [mI y1, mR 60 0] s (0, 0) := by
  refine mgo_from hP [38, 104, 105, 179, 180, 189] 260 ?_
  obtain ⟨hz, h⟩ := pif h
  have h := bnds h
  rcases hz with rfl | rfl
  · refine go_brn (fun hc : ¬ ((jmax (-x3) (jmin x3 x7)) = x7) => ?_) (fun hc : (jmax (-x3) (jmin x3 x7)) = x7 => ?_)
    · replace h := (if_neg hc).symm.trans h
      exact c_M_sailAll_L179 hP hQ hk38 _ _ _ _ _ _ _ _ _ _ _ _ h
    · replace h := (if_pos hc).symm.trans h
      refine go_brn (fun hc : ¬ ((jmax (-(x3 - (jabs (jmax (-x3) (jmin x3 x7))))) (jmin (x3 - (jabs (jmax (-x3) (jmin x3 x7)))) x8)) = x8) => ?_) (fun hc : (jmax (-(x3 - (jabs (jmax (-x3) (jmin x3 x7))))) (jmin (x3 - (jabs (jmax (-x3) (jmin x3 x7)))) x8)) = x8 => ?_)
      · replace h := (if_neg hc).symm.trans h
        exact c_M_sailAll_L179 hP hQ hk38 _ _ _ _ _ _ _ _ _ _ _ _ h
      · replace h := (if_pos hc).symm.trans h
        exact c_M_sailAll_L180 hP hQ hk38 _ _ _ _ _ _ _ _ _ _ _ _ _ h
  · refine go_brn (fun hc : ¬ ((jmax (-x3) (jmin x3 x7)) = x7) => ?_) (fun hc : (jmax (-x3) (jmin x3 x7)) = x7 => ?_)
    · replace h := (if_neg hc).symm.trans h
      exact c_M_sailAll_L179 hP hQ hk38 _ _ _ _ _ _ _ _ _ _ _ _ h
    · replace h := (if_pos hc).symm.trans h
      refine go_brn (fun hc : ¬ ((jmax (-(x3 - (jabs (jmax (-x3) (jmin x3 x7))))) (jmin (x3 - (jabs (jmax (-x3) (jmin x3 x7)))) x8)) = x8) => ?_) (fun hc : (jmax (-(x3 - (jabs (jmax (-x3) (jmin x3 x7))))) (jmin (x3 - (jabs (jmax (-x3) (jmin x3 x7)))) x8)) = x8 => ?_)
      · replace h := (if_neg hc).symm.trans h
        exact c_M_sailAll_L179 hP hQ hk38 _ _ _ _ _ _ _ _ _ _ _ _ h
      · replace h := (if_pos hc).symm.trans h
        exact c_M_sailAll_L180 hP hQ hk38 _ _ _ _ _ _ _ _ _ _ _ _ _ h
theorem c_M_sailAll_L104 {xs : Nat → Int32} {L d : Nat} {P : MK S2} {Q : S2 → Option MV → Prop} {res : S2} (hP : MClosed (O3 xs L) (kcall (O3 xs L) (d + 8)) kd_M_sailAll 0 Q P) (hQ : Q res none) {k38 : Int32 → Int32 → Int32 → Int32 → Int32 → S2 → Option S2} (hk38 : ∀ (x2 : Int32) (x3 : Int32) (x4 : Int32) (x5 : Int32) (x6 : Int32) (x1 : Int32) (x7 : Option Int32) (x8 : Option Int32) (x9 : Option Int32) (x10 : Option Int32) (x11 : Option Int32) (s : S2), k38 x2 x3 x4 x5 x6 s = some res → P 38 [some (mR 60 0), some (mI x1), some (mI x2), some (mI x3), some (mI x4), some (mI x5), some (mI x6), oI x7, oI x8, oI x9, oI x10, oI x11] [] s (0, 0)) (x2 : Int32) (x3 : Int32) (x4 : Int32) (x5 : Int32) (x6 : Int32) (x7 : Int32) (x8 : Int32) (x1 : Int32) (x9 : Option Int32) (x10 : Option Int32) (x11 : Option Int32) (s : S2) (h : f_M_sailAll_L104 k38 x2 x3 x4 x5 x6 x7 x8 s = some res) : P 104 [some (mR 60 0), some (mI x1), some (mI x2), some (mI x3), some (mI x4), some (mI x5), some (mI x6), some (mI x7), some (mI x8), oI x9, oI x10, oI x11] [mR 60 0] s (0, 0) := by
  refine mgo_from hP [38, 104, 105, 179, 180, 189] 260 ?_
  exact c_M_sailAll_L105 hP hQ hk38 _ _ _ _ _ _ _ _ _ x9 x10 x11 _ h
set_option maxRecDepth 20000 in
set_option maxHeartbeats 4000000 in
theorem cb_M_sailAll_L38 {xs : Nat → Int32} {L d : Nat} {P : MK S2} {Q : S2 → Option MV → Prop} {res : S2} (hP : MClosed (O3 xs L) (kcall (O3 xs L) (d + 8)) kd_M_sailAll 0 Q P) (hQ : Q res none) {k38 : Int32 → Int32 → Int32 → Int32 → Int32 → S2 → Option S2} (hk38 : ∀ (x2 : Int32) (x3 : Int32) (x4 : Int32) (x5 : Int32) (x6 : Int32) (x1 : Int32) (x7 : Option Int32) (x8 : Option Int32) (x9 : Option Int32) (x10 : Option Int32) (x11 : Option Int32) (s : S2), k38 x2 x3 x4 x5 x6 s = some res → P 38 [some (mR 60 0), some (mI x1), some (mI x2), some (mI x3), some (mI x4), some (mI x5), some (mI x6), oI x7, oI x8, oI x9, oI x10, oI x11] [] s (0, 0)) (x2 : Int32) (x3 : Int32) (x4 : Int32) (x5 : Int32) (x6 : Int32) (x1 : Int32) (x7 : Option Int32) (x8 : Option Int32) (x9 : Option Int32) (x10 : Option Int32) (x11 : Option Int32) (s : S2) (h : b_M_sailAll_L38 k38 x2 x3 x4 x5 x6 s = some res) : P 38 [some (mR 60 0), some (mI x1), some (mI x2), some (mI x3), some (mI x4), some (mI x5), some (mI x6), oI x7, oI x8, oI x9, oI x10, oI x11] [] s (0, 0) := by
  refine mgo_from hP [38, 104, 105, 179, 180, 189] 260 ?_
  refine go_br (fun hc : (Int32.ofInt 60) < x6 => ?_) (fun hc : ¬ ((Int32.ofInt 60) < x6) => ?_)
  · replace h := (if_pos hc).symm.trans h
    exact c_M_sailAll_L189 hP hQ _ _ _ _ _ _ x7 x8 x9 x10 x11 _ h
  · replace h := (if_neg hc).symm.trans h
    refine go_brn (fun hc : ¬ ((s.1 60 0 60) = (Int32.ofInt (-1))) => ?_) (fun hc : (s.1 60 0 60) = (Int32.ofInt (-1)) => ?_)
    · replace h := (if_neg hc).symm.trans h
      exact c_M_sailAll_L189 hP hQ _ _ _ _ _ _ x7 x8 x9 x10 x11 _ h
    · replace h := (if_pos hc).symm.trans h
      obtain ⟨q1, hq, h⟩ := bnd h
      refine go_call (fun _ hw => c_M_pass hq hw) ?_
      obtain ⟨j2, hj, h⟩ := bnd h
      refine go_ix j2 (ix_lt hj) (ix_eq hj) ?_
      obtain ⟨j3, hj, h⟩ := bnd h
      refine go_ix j3 (ix_lt hj) (ix_eq hj) ?_
      obtain ⟨j4, hj, h⟩ := bnd h
      refine go_ix j4 (ix_lt hj) (ix_eq hj) ?_
      obtain ⟨j5, hj, h⟩ := bnd h
      refine go_ix j5 (ix_lt hj) (ix_eq hj) ?_
      refine go_brn (fun hc : ¬ (((q1.1 79 0 j3) - x4) = 0) => ?_) (fun hc : ((q1.1 79 0 j3) - x4) = 0 => ?_)
      · replace h := (if_neg hc).symm.trans h
        exact c_M_sailAll_L104 hP hQ hk38 _ _ _ _ _ _ _ _ x9 x10 x11 _ h
      · replace h := (if_pos hc).symm.trans h
        refine go_brn (fun hc : ¬ (((q1.1 80 0 j5) - x5) = 0) => ?_) (fun hc : ((q1.1 80 0 j5) - x5) = 0 => ?_)
        · replace h := (if_neg hc).symm.trans h
          exact c_M_sailAll_L104 hP hQ hk38 _ _ _ _ _ _ _ _ x9 x10 x11 _ h
        · replace h := (if_pos hc).symm.trans h
          exact c_M_sailAll_L105 hP hQ hk38 _ _ _ _ _ _ _ _ _ x9 x10 x11 _ h
theorem c_M_sailAll_L38 {xs : Nat → Int32} {L d : Nat} {P : MK S2} {Q : S2 → Option MV → Prop} {res : S2} (hP : MClosed (O3 xs L) (kcall (O3 xs L) (d + 8)) kd_M_sailAll 0 Q P) (hQ : Q res none) : ∀ (fu : Nat) (x2 : Int32) (x3 : Int32) (x4 : Int32) (x5 : Int32) (x6 : Int32) (x1 : Int32) (x7 : Option Int32) (x8 : Option Int32) (x9 : Option Int32) (x10 : Option Int32) (x11 : Option Int32) (s : S2), f_M_sailAll_L38 fu x2 x3 x4 x5 x6 s = some res → P 38 [some (mR 60 0), some (mI x1), some (mI x2), some (mI x3), some (mI x4), some (mI x5), some (mI x6), oI x7, oI x8, oI x9, oI x10, oI x11] [] s (0, 0)
  | 0, _, _, _, _, _, _, _, _, _, _, _, _, h => by cases h
  | fu + 1, x2, x3, x4, x5, x6, x1, x7, x8, x9, x10, x11, s, h => cb_M_sailAll_L38 hP hQ (c_M_sailAll_L38 hP hQ fu) x2 x3 x4 x5 x6 x1 x7 x8 x9 x10 x11 s h
theorem c_M_sailAll {xs : Nat → Int32} {L d : Nat} {a1 : Int32} {a2 : Int32} {a3 : Int32} {s : S2} {res : S2} {Q : S2 → Option MV → Prop} (h : f_M_sailAll a1 a2 a3 s = some res) (hQ : Q res none) : kcall (O3 xs L) (d + 9) k_M_sailAll [mR 60 0, mI a1, mI a2, mI a3] s Q := by
  refine kc_of (cd := kd_M_sailAll) (mx := 12) (rt := 0) rfl rfl ?_
  intro P hP
  refine mgo_sound hP [38, 104, 105, 179, 180, 189] 260 _ _ _ _ _ ?_
  obtain ⟨q1, hq, h⟩ := bnd h
  refine go_call (fun _ hw => c_M_putAside hq hw) ?_
  obtain ⟨j2, hj, h⟩ := bnd h
  refine go_ix j2 (ix_lt hj) (ix_eq hj) ?_
  obtain ⟨j3, hj, h⟩ := bnd h
  refine go_ix j3 (ix_lt hj) (ix_eq hj) ?_
  obtain ⟨j4, hj, h⟩ := bnd h
  refine go_ix j4 (ix_lt hj) (ix_eq hj) ?_
  obtain ⟨j5, hj, h⟩ := bnd h
  refine go_ix j5 (ix_lt hj) (ix_eq hj) ?_
  replace h := bnds h
  exact c_M_sailAll_L38 hP hQ FU _ _ _ _ _ _ none none none none none _ h
/-! M_haste -/
def f_M_haste_L58 (k24 : Int32 → Int32 → Int32 → Int32 → S2 → Option (S2 × Int32)) (x1 : Int32) (x2 : Int32) (x3 : Int32) (x4 : Int32) (s : S2) : Option (S2 × Int32) := (k24 x1 x2 x3 (x4 + (Int32.ofInt 1)) s)
def b_M_haste_L24 (k24 : Int32 → Int32 → Int32 → Int32 → S2 → Option (S2 × Int32)) (x1 : Int32) (x2 : Int32) (x3 : Int32) (x4 : Int32) (s : S2) : Option (S2 × Int32) := (if (Int32.ofInt 99) < x4 then some (s, (Int32.ofInt (-1))) else ((f_M_sailAll x1 x2 x4 s).bind fun q1 => (if (q1.1 60 0 60) = (Int32.ofInt (-1)) then (f_M_haste_L58 k24 x1 x2 x3 x4 q1) else (if x3 < (q1.1 60 0 60) then (f_M_haste_L58 k24 x1 x2 x3 x4 q1) else some (q1, x4)))))
def f_M_haste_L24 : Nat → Int32 → Int32 → Int32 → Int32 → S2 → Option (S2 × Int32)
  | 0 => fun _ _ _ _ _ => none
  | n + 1 => b_M_haste_L24 (f_M_haste_L24 n)
def f_M_haste (a1 : Int32) (a2 : Int32) (a3 : Int32) (s : S2) : Option (S2 × Int32) := (if (bI (g_M_areTwo a1 a2 s)) = 0 then some (s, (Int32.ofInt (-1))) else (if (bI (g_M_in a3 (Int32.ofInt 1) (Int32.ofInt 60) s)) = 0 then some (s, (Int32.ofInt (-1))) else (f_M_haste_L24 FU a1 a2 a3 (Int32.ofInt 1) s)))
theorem c_M_haste_L58 {xs : Nat → Int32} {L d : Nat} {P : MK S2} {Q : S2 → Option MV → Prop} {res : S2 × Int32} (hP : MClosed (O3 xs L) (kcall (O3 xs L) (d + 9)) kd_M_haste 1 Q P) (hQ : Q res.1 (some (mI res.2))) {k24 : Int32 → Int32 → Int32 → Int32 → S2 → Option (S2 × Int32)} (hk24 : ∀ (x1 : Int32) (x2 : Int32) (x3 : Int32) (x4 : Int32) (s : S2), k24 x1 x2 x3 x4 s = some res → P 24 [some (mR 60 0), some (mI x1), some (mI x2), some (mI x3), some (mI x4)] [] s (0, 0)) (x1 : Int32) (x2 : Int32) (x3 : Int32) (x4 : Int32) (s : S2) (h : f_M_haste_L58 k24 x1 x2 x3 x4 s = some res) : P 58 [some (mR 60 0), some (mI x1), some (mI x2), some (mI x3), some (mI x4)] [] s (0, 0) := by
  refine mgo_from hP [24, 58] 260 ?_
  exact hk24 _ _ _ _ _ h
theorem cb_M_haste_L24 {xs : Nat → Int32} {L d : Nat} {P : MK S2} {Q : S2 → Option MV → Prop} {res : S2 × Int32} (hP : MClosed (O3 xs L) (kcall (O3 xs L) (d + 9)) kd_M_haste 1 Q P) (hQ : Q res.1 (some (mI res.2))) {k24 : Int32 → Int32 → Int32 → Int32 → S2 → Option (S2 × Int32)} (hk24 : ∀ (x1 : Int32) (x2 : Int32) (x3 : Int32) (x4 : Int32) (s : S2), k24 x1 x2 x3 x4 s = some res → P 24 [some (mR 60 0), some (mI x1), some (mI x2), some (mI x3), some (mI x4)] [] s (0, 0)) (x1 : Int32) (x2 : Int32) (x3 : Int32) (x4 : Int32) (s : S2) (h : b_M_haste_L24 k24 x1 x2 x3 x4 s = some res) : P 24 [some (mR 60 0), some (mI x1), some (mI x2), some (mI x3), some (mI x4)] [] s (0, 0) := by
  refine mgo_from hP [24, 58] 260 ?_
  refine go_br (fun hc : (Int32.ofInt 99) < x4 => ?_) (fun hc : ¬ ((Int32.ofInt 99) < x4) => ?_)
  · replace h := (if_pos hc).symm.trans h
    cases h
    exact hQ
  · replace h := (if_neg hc).symm.trans h
    obtain ⟨q1, hq, h⟩ := bnd h
    refine go_call (fun _ hw => c_M_sailAll hq hw) ?_
    refine go_br (fun hc : (q1.1 60 0 60) = (Int32.ofInt (-1)) => ?_) (fun hc : ¬ ((q1.1 60 0 60) = (Int32.ofInt (-1))) => ?_)
    · replace h := (if_pos hc).symm.trans h
      exact c_M_haste_L58 hP hQ hk24 _ _ _ _ _ h
    · replace h := (if_neg hc).symm.trans h
      refine go_br (fun hc : x3 < (q1.1 60 0 60) => ?_) (fun hc : ¬ (x3 < (q1.1 60 0 60)) => ?_)
      · replace h := (if_pos hc).symm.trans h
        exact c_M_haste_L58 hP hQ hk24 _ _ _ _ _ h
      · replace h := (if_neg hc).symm.trans h
        cases h
        exact hQ
theorem c_M_haste_L24 {xs : Nat → Int32} {L d : Nat} {P : MK S2} {Q : S2 → Option MV → Prop} {res : S2 × Int32} (hP : MClosed (O3 xs L) (kcall (O3 xs L) (d + 9)) kd_M_haste 1 Q P) (hQ : Q res.1 (some (mI res.2))) : ∀ (fu : Nat) (x1 : Int32) (x2 : Int32) (x3 : Int32) (x4 : Int32) (s : S2), f_M_haste_L24 fu x1 x2 x3 x4 s = some res → P 24 [some (mR 60 0), some (mI x1), some (mI x2), some (mI x3), some (mI x4)] [] s (0, 0)
  | 0, _, _, _, _, _, h => by cases h
  | fu + 1, x1, x2, x3, x4, s, h => cb_M_haste_L24 hP hQ (c_M_haste_L24 hP hQ fu) x1 x2 x3 x4 s h
theorem c_M_haste {xs : Nat → Int32} {L d : Nat} {a1 : Int32} {a2 : Int32} {a3 : Int32} {s : S2} {res : S2 × Int32} {Q : S2 → Option MV → Prop} (h : f_M_haste a1 a2 a3 s = some res) (hQ : Q res.1 (some (mI res.2))) : kcall (O3 xs L) (d + 10) k_M_haste [mR 60 0, mI a1, mI a2, mI a3] s Q := by
  refine kc_of (cd := kd_M_haste) (mx := 5) (rt := 1) rfl rfl ?_
  intro P hP
  refine mgo_sound hP [24, 58] 260 _ _ _ _ _ ?_
  refine go_call (fun _ hw => c_M_areTwo hw) ?_
  refine go_br (fun hc : (bI (g_M_areTwo a1 a2 s)) = 0 => ?_) (fun hc : ¬ ((bI (g_M_areTwo a1 a2 s)) = 0) => ?_)
  · replace h := (if_pos hc).symm.trans h
    cases h
    exact hQ
  · replace h := (if_neg hc).symm.trans h
    refine go_call (fun _ hw => c_M_in hw) ?_
    refine go_brn (fun hc : ¬ ((bI (g_M_in a3 (Int32.ofInt 1) (Int32.ofInt 60) s)) = 0) => ?_) (fun hc : (bI (g_M_in a3 (Int32.ofInt 1) (Int32.ofInt 60) s)) = 0 => ?_)
    · replace h := (if_neg hc).symm.trans h
      exact c_M_haste_L24 hP hQ FU _ _ _ _ _ h
    · replace h := (if_pos hc).symm.trans h
      cases h
      exact hQ
/-! M_doesTreat -/
def f_M_doesTreat_L78 (y0 : Int32) (s : S2) : Option (S2 × Bool) := ((f_M_takeBack s).bind fun q1 => ((rb y0).bind fun b2 => some (q1, b2)))
def b_M_doesTreat_L10 (k10 : Int32 → Int32 → Int32 → Int32 → Int32 → Int32 → Int32 → S2 → Option (S2 × Bool)) (x2 : Int32) (x3 : Int32) (x4 : Int32) (x5 : Int32) (x6 : Int32) (x7 : Int32) (x8 : Int32) (s : S2) : Option (S2 × Bool) := (if x2 ≤ x8 then ((f_M_passAll x6 s).bind fun q1 => ((f_M_farOf (x4 / (Int32.ofInt 10)) (jrem x4 (Int32.ofInt 10)) q1).bind fun q2 => (if x5 < q2 then (f_M_doesTreat_L78 (Int32.ofInt 0) q1) else (f_M_doesTreat_L78 (Int32.ofInt 1) q1)))) else ((f_M_deal (jrem (x7 / (Int32.ofInt 10)) (Int32.ofInt 10)) (jrem x7 (Int32.ofInt 10)) (Int32.ofInt 0) x3 s).bind fun q3 => (k10 x2 x3 x4 x5 x6 (x7 / (Int32.ofInt 100)) (x8 + (Int32.ofInt 1)) q3)))
def f_M_doesTreat_L10 : Nat → Int32 → Int32 → Int32 → Int32 → Int32 → Int32 → Int32 → S2 → Option (S2 × Bool)
  | 0 => fun _ _ _ _ _ _ _ _ => none
  | n + 1 => b_M_doesTreat_L10 (f_M_doesTreat_L10 n)
def f_M_doesTreat (a1 : Int32) (a2 : Int32) (a3 : Int32) (a4 : Int32) (a5 : Int32) (a6 : Int32) (s : S2) : Option (S2 × Bool) := ((f_M_putAside s).bind fun q1 => (f_M_doesTreat_L10 FU a2 a3 a4 a5 a6 a1 (Int32.ofInt 0) q1))
theorem c_M_doesTreat_L78 {xs : Nat → Int32} {L d : Nat} {P : MK S2} {Q : S2 → Option MV → Prop} {res : S2 × Bool} (hP : MClosed (O3 xs L) (kcall (O3 xs L) (d + 9)) kd_M_doesTreat 2 Q P) (hQ : Q res.1 (some (mI (bI res.2)))) (y0 : Int32) (x1 : Int32) (x2 : Int32) (x3 : Int32) (x4 : Int32) (x5 : Int32) (x6 : Int32) (x7 : Int32) (x8 : Int32) (s : S2) (h : f_M_doesTreat_L78 y0 s = some res) : P 78 [some (mR 60 0), some (mI x1), some (mI x2), some (mI x3), some (mI x4), some (mI x5), some (mI x6), some (mI x7), some (mI x8)] [mI y0] s (0, 0) := by
  refine mgo_from hP [10, 78] 260 ?_
  obtain ⟨q1, hq, h⟩ := bnd h
  refine go_call (fun _ hw => c_M_takeBack hq hw) ?_
  obtain ⟨b2, hb, h⟩ := bnd h
  cases h
  exact ret_z hb hQ
theorem cb_M_doesTreat_L10 {xs : Nat → Int32} {L d : Nat} {P : MK S2} {Q : S2 → Option MV → Prop} {res : S2 × Bool} (hP : MClosed (O3 xs L) (kcall (O3 xs L) (d + 9)) kd_M_doesTreat 2 Q P) (hQ : Q res.1 (some (mI (bI res.2)))) {k10 : Int32 → Int32 → Int32 → Int32 → Int32 → Int32 → Int32 → S2 → Option (S2 × Bool)} (hk10 : ∀ (x2 : Int32) (x3 : Int32) (x4 : Int32) (x5 : Int32) (x6 : Int32) (x7 : Int32) (x8 : Int32) (x1 : Int32) (s : S2), k10 x2 x3 x4 x5 x6 x7 x8 s = some res → P 10 [some (mR 60 0), some (mI x1), some (mI x2), some (mI x3), some (mI x4), some (mI x5), some (mI x6), some (mI x7), some (mI x8)] [] s (0, 0)) (x2 : Int32) (x3 : Int32) (x4 : Int32) (x5 : Int32) (x6 : Int32) (x7 : Int32) (x8 : Int32) (x1 : Int32) (s : S2) (h : b_M_doesTreat_L10 k10 x2 x3 x4 x5 x6 x7 x8 s = some res) : P 10 [some (mR 60 0), some (mI x1), some (mI x2), some (mI x3), some (mI x4), some (mI x5), some (mI x6), some (mI x7), some (mI x8)] [] s (0, 0) := by
  refine mgo_from hP [10, 78] 260 ?_
  refine go_br (fun hc : x2 ≤ x8 => ?_) (fun hc : ¬ (x2 ≤ x8) => ?_)
  · replace h := (if_pos hc).symm.trans h
    obtain ⟨q1, hq, h⟩ := bnd h
    refine go_call (fun _ hw => c_M_passAll hq hw) ?_
    refine go_and (by decide) ?_
    refine go_and (by decide) ?_
    obtain ⟨q2, hq, h⟩ := bnd h
    refine go_call (fun _ hw => c_M_farOf hq hw) ?_
    refine go_br (fun hc : x5 < q2 => ?_) (fun hc : ¬ (x5 < q2) => ?_)
    · replace h := (if_pos hc).symm.trans h
      exact c_M_doesTreat_L78 hP hQ _ _ _ _ _ _ _ _ _ _ h
    · replace h := (if_neg hc).symm.trans h
      exact c_M_doesTreat_L78 hP hQ _ _ _ _ _ _ _ _ _ _ h
  · replace h := (if_neg hc).symm.trans h
    refine go_and (by decide) ?_
    refine go_and (by decide) ?_
    refine go_and (by decide) ?_
    obtain ⟨q3, hq, h⟩ := bnd h
    refine go_call (fun _ hw => c_M_deal hq hw) ?_
    refine go_and (by decide) ?_
    exact hk10 _ _ _ _ _ _ _ _ _ h
theorem c_M_doesTreat_L10 {xs : Nat → Int32} {L d : Nat} {P : MK S2} {Q : S2 → Option MV → Prop} {res : S2 × Bool} (hP : MClosed (O3 xs L) (kcall (O3 xs L) (d + 9)) kd_M_doesTreat 2 Q P) (hQ : Q res.1 (some (mI (bI res.2)))) : ∀ (fu : Nat) (x2 : Int32) (x3 : Int32) (x4 : Int32) (x5 : Int32) (x6 : Int32) (x7 : Int32) (x8 : Int32) (x1 : Int32) (s : S2), f_M_doesTreat_L10 fu x2 x3 x4 x5 x6 x7 x8 s = some res → P 10 [some (mR 60 0), some (mI x1), some (mI x2), some (mI x3), some (mI x4), some (mI x5), some (mI x6), some (mI x7), some (mI x8)] [] s (0, 0)
  | 0, _, _, _, _, _, _, _, _, _, h => by cases h
  | fu + 1, x2, x3, x4, x5, x6, x7, x8, x1, s, h => cb_M_doesTreat_L10 hP hQ (c_M_doesTreat_L10 hP hQ fu) x2 x3 x4 x5 x6 x7 x8 x1 s h
theorem c_M_doesTreat {xs : Nat → Int32} {L d : Nat} {a1 : Int32} {a2 : Int32} {a3 : Int32} {a4 : Int32} {a5 : Int32} {a6 : Int32} {s : S2} {res : S2 × Bool} {Q : S2 → Option MV → Prop} (h : f_M_doesTreat a1 a2 a3 a4 a5 a6 s = some res) (hQ : Q res.1 (some (mI (bI res.2)))) : kcall (O3 xs L) (d + 10) k_M_doesTreat [mR 60 0, mI a1, mI a2, mI a3, mI a4, mI a5, mI a6] s Q := by
  refine kc_of (cd := kd_M_doesTreat) (mx := 9) (rt := 2) rfl rfl ?_
  intro P hP
  refine mgo_sound hP [10, 78] 260 _ _ _ _ _ ?_
  obtain ⟨q1, hq, h⟩ := bnd h
  refine go_call (fun _ hw => c_M_putAside hq hw) ?_
  exact c_M_doesTreat_L10 hP hQ FU _ _ _ _ _ _ _ _ _ h
/-! M_bickerFrom -/
def f_M_bickerFrom_L160 (g_M_bickerFrom : Int32 → Int32 → Int32 → S2 → Option S2) (k51 : Int32 → Int32 → Int32 → Int32 → S2 → Option S2) (x1 : Int32) (x2 : Int32) (x3 : Int32) (x4 : Int32) (s : S2) : Option S2 := ((f_M_read 96 0 322 ((Int32.ofInt 46) * x1) (Int32.ofInt 1) s).bind fun q1 => (k51 x1 x2 x3 (x4 + (Int32.ofInt 1)) q1))
def f_M_bickerFrom_L156 (g_M_bickerFrom : Int32 → Int32 → Int32 → S2 → Option S2) (k51 : Int32 → Int32 → Int32 → Int32 → S2 → Option S2) (x1 : Int32) (x2 : Int32) (x3 : Int32) (x4 : Int32) (y1 : Int32) (y2 : Int32) (y3 : Int32) (y4 : Int32) (s : S2) : Option S2 := ((g_M_bickerFrom y1 y2 (y3 + y4) s).bind fun q1 => (f_M_bickerFrom_L160 g_M_bickerFrom k51 x1 x2 x3 x4 q1))
def f_M_bickerFrom_L93 (g_M_bickerFrom : Int32 → Int32 → Int32 → S2 → Option S2) (k51 : Int32 → Int32 → Int32 → Int32 → S2 → Option S2) (x1 : Int32) (x2 : Int32) (x3 : Int32) (x4 : Int32) (s : S2) : Option S2 := ((f_M_pass s).bind fun q1 => ((some (pkS q1 60 0 42 (Int32.ofInt 0))).bind fun s2 => ((f_M_farOf ((s2.1 60 0 69) / (Int32.ofInt 10)) (jrem (s2.1 60 0 69) (Int32.ofInt 10)) s2).bind fun q3 => (if (bI (g_M_in q3 (s2.1 60 0 70) (s2.1 60 0 71) s2)) = 0 then (f_M_bickerFrom_L160 g_M_bickerFrom k51 x1 x2 x3 x4 s2) else (if x4 ≤ 0 then (f_M_bickerFrom_L156 g_M_bickerFrom k51 x1 x2 x3 x4 (x1 + (Int32.ofInt 1)) (((Int32.ofInt 10) * x2) + x4) x3 (Int32.ofInt 0) s2) else (f_M_bickerFrom_L156 g_M_bickerFrom k51 x1 x2 x3 x4 (x1 + (Int32.ofInt 1)) (((Int32.ofInt 10) * x2) + x4) x3 (Int32.ofInt 1) s2))))))
def b_M_bickerFrom_L51 (g_M_bickerFrom : Int32 → Int32 → Int32 → S2 → Option S2) (k51 : Int32 → Int32 → Int32 → Int32 → S2 → Option S2) (x1 : Int32) (x2 : Int32) (x3 : Int32) (x4 : Int32) (s : S2) : Option S2 := (if (Int32.ofInt 3) ≤ x4 then some s else ((some (pkS s 60 0 42 (Int32.ofInt 0))).bind fun s1 => (if x4 ≤ 0 then (f_M_bickerFrom_L93 g_M_bickerFrom k51 x1 x2 x3 x4 s1) else ((f_M_deal ((s1.1 60 0 69) / (Int32.ofInt 10)) (jrem (s1.1 60 0 69) (Int32.ofInt 10)) (x4 - (Int32.ofInt 1)) (s1.1 60 0 68) s1).bind fun q2 => (f_M_bickerFrom_L93 g_M_bickerFrom k51 x1 x2 x3 x4 q2)))))
def f_M_bickerFrom_L51 (g_M_bickerFrom : Int32 → Int32 → Int32 → S2 → Option S2) : Nat → Int32 → Int32 → Int32 → Int32 → S2 → Option S2
  | 0 => fun _ _ _ _ _ => none
  | n + 1 => b_M_bickerFrom_L51 g_M_bickerFrom (f_M_bickerFrom_L51 g_M_bickerFrom n)
def f_M_bickerFrom_L17 (g_M_bickerFrom : Int32 → Int32 → Int32 → S2 → Option S2) (x1 : Int32) (x2 : Int32) (x3 : Int32) (s : S2) : Option S2 := (if x1 = (s.1 60 0 67) then ((some (pkS s 60 0 65 x2)).bind fun s2 => ((some (pkS s2 60 0 66 x3)).bind fun s3 => some s3)) else ((f_M_write 96 0 322 ((Int32.ofInt 46) * x1) s).bind fun q1 => (f_M_bickerFrom_L51 g_M_bickerFrom FU x1 x2 x3 (Int32.ofInt 0) q1)))
def fb_M_bickerFrom (g_M_bickerFrom : Int32 → Int32 → Int32 → S2 → Option S2) (a1 : Int32) (a2 : Int32) (a3 : Int32) (s : S2) : Option S2 := (if (s.1 60 0 65) = (Int32.ofInt (-1)) then (f_M_bickerFrom_L17 g_M_bickerFrom a1 a2 a3 s) else (if a3 < (s.1 60 0 66) then (f_M_bickerFrom_L17 g_M_bickerFrom a1 a2 a3 s) else some s))
def f_M_bickerFrom : Nat → Int32 → Int32 → Int32 → S2 → Option S2
  | 0 => fun _ _ _ _ => none
  | n + 1 => fb_M_bickerFrom (f_M_bickerFrom n)
theorem c_M_bickerFrom_L160 {xs : Nat → Int32} {L d : Nat} {g_M_bickerFrom : Int32 → Int32 → Int32 → S2 → Option S2} {P : MK S2} {Q : S2 → Option MV → Prop} {res : S2} (hP : MClosed (O3 xs L) (kcall (O3 xs L) (d + 9)) kd_M_bickerFrom 0 Q P) (hQ : Q res none) (hg_M_bickerFrom : ∀ {e : Nat}, d + 9 ≤ e → ∀ (a1 : Int32) (a2 : Int32) (a3 : Int32) (s : S2) {res : S2} {Q : S2 → Option MV → Prop}, g_M_bickerFrom a1 a2 a3 s = some res → Q res none → kcall (O3 xs L) e k_M_bickerFrom [mR 60 0, mI a1, mI a2, mI a3] s Q) {k51 : Int32 → Int32 → Int32 → Int32 → S2 → Option S2} (hk51 : ∀ (x1 : Int32) (x2 : Int32) (x3 : Int32) (x4 : Int32) (s : S2), k51 x1 x2 x3 x4 s = some res → P 51 [some (mR 60 0), some (mI x1), some (mI x2), some (mI x3), some (mI x4)] [] s (0, 0)) (x1 : Int32) (x2 : Int32) (x3 : Int32) (x4 : Int32) (s : S2) (h : f_M_bickerFrom_L160 g_M_bickerFrom k51 x1 x2 x3 x4 s = some res) : P 160 [some (mR 60 0), some (mI x1), some (mI x2), some (mI x3), some (mI x4)] [] s (0, 0) := by
  refine mgo_from hP [17, 51, 93, 156, 160] 260 ?_
  obtain ⟨q1, hq, h⟩ := bnd h
  refine go_call (fun _ hw => c_M_read_96 hq hw) ?_
  exact hk51 _ _ _ _ _ h
theorem c_M_bickerFrom_L156 {xs : Nat → Int32} {L d : Nat} {g_M_bickerFrom : Int32 → Int32 → Int32 → S2 → Option S2} {P : MK S2} {Q : S2 → Option MV → Prop} {res : S2} (hP : MClosed (O3 xs L) (kcall (O3 xs L) (d + 9)) kd_M_bickerFrom 0 Q P) (hQ : Q res none) (hg_M_bickerFrom : ∀ {e : Nat}, d + 9 ≤ e → ∀ (a1 : Int32) (a2 : Int32) (a3 : Int32) (s : S2) {res : S2} {Q : S2 → Option MV → Prop}, g_M_bickerFrom a1 a2 a3 s = some res → Q res none → kcall (O3 xs L) e k_M_bickerFrom [mR 60 0, mI a1, mI a2, mI a3] s Q) {k51 : Int32 → Int32 → Int32 → Int32 → S2 → Option S2} (hk51 : ∀ (x1 : Int32) (x2 : Int32) (x3 : Int32) (x4 : Int32) (s : S2), k51 x1 x2 x3 x4 s = some res → P 51 [some (mR 60 0), some (mI x1), some (mI x2), some (mI x3), some (mI x4)] [] s (0, 0)) (x1 : Int32) (x2 : Int32) (x3 : Int32) (x4 : Int32) (y1 : Int32) (y2 : Int32) (y3 : Int32) (y4 : Int32) (s : S2) (h : f_M_bickerFrom_L156 g_M_bickerFrom k51 x1 x2 x3 x4 y1 y2 y3 y4 s = some res) : P 156 [some (mR 60 0), some (mI x1), some (mI x2), some (mI x3), some (mI x4)] [mI y4, mI y3, mI y2, mI y1, mR 60 0] s (0, 0) := by
  refine mgo_from hP [17, 51, 93, 156, 160] 260 ?_
  obtain ⟨q1, hq, h⟩ := bnd h
  refine go_call (fun _ hw => hg_M_bickerFrom (by omega) _ _ _ _ hq hw) ?_
  exact c_M_bickerFrom_L160 hP hQ hg_M_bickerFrom hk51 _ _ _ _ _ h
theorem c_M_bickerFrom_L93 {xs : Nat → Int32} {L d : Nat} {g_M_bickerFrom : Int32 → Int32 → Int32 → S2 → Option S2} {P : MK S2} {Q : S2 → Option MV → Prop} {res : S2} (hP : MClosed (O3 xs L) (kcall (O3 xs L) (d + 9)) kd_M_bickerFrom 0 Q P) (hQ : Q res none) (hg_M_bickerFrom : ∀ {e : Nat}, d + 9 ≤ e → ∀ (a1 : Int32) (a2 : Int32) (a3 : Int32) (s : S2) {res : S2} {Q : S2 → Option MV → Prop}, g_M_bickerFrom a1 a2 a3 s = some res → Q res none → kcall (O3 xs L) e k_M_bickerFrom [mR 60 0, mI a1, mI a2, mI a3] s Q) {k51 : Int32 → Int32 → Int32 → Int32 → S2 → Option S2} (hk51 : ∀ (x1 : Int32) (x2 : Int32) (x3 : Int32) (x4 : Int32) (s : S2), k51 x1 x2 x3 x4 s = some res → P 51 [some (mR 60 0), some (mI x1), some (mI x2), some (mI x3), some (mI x4)] [] s (0, 0)) (x1 : Int32) (x2 : Int32) (x3 : Int32) (x4 : Int32) (s : S2) (h : f_M_bickerFrom_L93 g_M_bickerFrom k51 x1 x2 x3 x4 s = some res) : P 93 [some (mR 60 0), some (mI x1), some (mI x2), some (mI x3), some (mI x4)] [] s (0, 0) := by
  refine mgo_from hP [17, 51, 93, 156, 160] 260 ?_
  obtain ⟨q1, hq, h⟩ := bnd h
  refine go_call (fun _ hw => c_M_pass hq hw) ?_
  replace h := bnds h
  refine go_and (by decide) ?_
  refine go_and (by decide) ?_
  obtain ⟨q3, hq, h⟩ := bnd h
  refine go_call (fun _ hw => c_M_farOf hq hw) ?_
  refine go_call (fun _ hw => c_M_in hw) ?_
  refine go_br (fun hc => ?_) (fun hc => ?_)
  · replace h := (if_pos hc).symm.trans h
    exact c_M_bickerFrom_L160 hP hQ hg_M_bickerFrom hk51 _ _ _ _ _ h
  · replace h := (if_neg hc).symm.trans h
    refine go_br (fun hc : x4 ≤ 0 => ?_) (fun hc : ¬ (x4 ≤ 0) => ?_)
    · replace h := (if_pos hc).symm.trans h
      exact c_M_bickerFrom_L156 hP hQ hg_M_bickerFrom hk51 _ _ _ _ _ _ _ _ _ h
    · replace h := (if_neg hc).symm.trans h
      exact c_M_bickerFrom_L156 hP hQ hg_M_bickerFrom hk51 _ _ _ _ _ _ _ _ _ h
theorem cb_M_bickerFrom_L51 {xs : Nat → Int32} {L d : Nat} {g_M_bickerFrom : Int32 → Int32 → Int32 → S2 → Option S2} {P : MK S2} {Q : S2 → Option MV → Prop} {res : S2} (hP : MClosed (O3 xs L) (kcall (O3 xs L) (d + 9)) kd_M_bickerFrom 0 Q P) (hQ : Q res none) (hg_M_bickerFrom : ∀ {e : Nat}, d + 9 ≤ e → ∀ (a1 : Int32) (a2 : Int32) (a3 : Int32) (s : S2) {res : S2} {Q : S2 → Option MV → Prop}, g_M_bickerFrom a1 a2 a3 s = some res → Q res none → kcall (O3 xs L) e k_M_bickerFrom [mR 60 0, mI a1, mI a2, mI a3] s Q) {k51 : Int32 → Int32 → Int32 → Int32 → S2 → Option S2} (hk51 : ∀ (x1 : Int32) (x2 : Int32) (x3 : Int32) (x4 : Int32) (s : S2), k51 x1 x2 x3 x4 s = some res → P 51 [some (mR 60 0), some (mI x1), some (mI x2), some (mI x3), some (mI x4)] [] s (0, 0)) (x1 : Int32) (x2 : Int32) (x3 : Int32) (x4 : Int32) (s : S2) (h : b_M_bickerFrom_L51 g_M_bickerFrom k51 x1 x2 x3 x4 s = some res) : P 51 [some (mR 60 0), some (mI x1), some (mI x2), some (mI x3), some (mI x4)] [] s (0, 0) := by
  refine mgo_from hP [17, 51, 93, 156, 160] 260 ?_
  refine go_br (fun hc : (Int32.ofInt 3) ≤ x4 => ?_) (fun hc : ¬ ((Int32.ofInt 3) ≤ x4) => ?_)
  · replace h := (if_pos hc).symm.trans h
    cases h
    exact hQ
  · replace h := (if_neg hc).symm.trans h
    replace h := bnds h
    refine go_br (fun hc : x4 ≤ 0 => ?_) (fun hc : ¬ (x4 ≤ 0) => ?_)
    · replace h := (if_pos hc).symm.trans h
      exact c_M_bickerFrom_L93 hP hQ hg_M_bickerFrom hk51 _ _ _ _ _ h
    · replace h := (if_neg hc).symm.trans h
      refine go_and (by decide) ?_
      refine go_and (by decide) ?_
      obtain ⟨q2, hq, h⟩ := bnd h
      refine go_call (fun _ hw => c_M_deal hq hw) ?_
      exact c_M_bickerFrom_L93 hP hQ hg_M_bickerFrom hk51 _ _ _ _ _ h
theorem c_M_bickerFrom_L51 {xs : Nat → Int32} {L d : Nat} {g_M_bickerFrom : Int32 → Int32 → Int32 → S2 → Option S2} {P : MK S2} {Q : S2 → Option MV → Prop} {res : S2} (hP : MClosed (O3 xs L) (kcall (O3 xs L) (d + 9)) kd_M_bickerFrom 0 Q P) (hQ : Q res none) (hg_M_bickerFrom : ∀ {e : Nat}, d + 9 ≤ e → ∀ (a1 : Int32) (a2 : Int32) (a3 : Int32) (s : S2) {res : S2} {Q : S2 → Option MV → Prop}, g_M_bickerFrom a1 a2 a3 s = some res → Q res none → kcall (O3 xs L) e k_M_bickerFrom [mR 60 0, mI a1, mI a2, mI a3] s Q) : ∀ (fu : Nat) (x1 : Int32) (x2 : Int32) (x3 : Int32) (x4 : Int32) (s : S2), f_M_bickerFrom_L51 g_M_bickerFrom fu x1 x2 x3 x4 s = some res → P 51 [some (mR 60 0), some (mI x1), some (mI x2), some (mI x3), some (mI x4)] [] s (0, 0)
  | 0, _, _, _, _, _, h => by cases h
  | fu + 1, x1, x2, x3, x4, s, h => cb_M_bickerFrom_L51 hP hQ hg_M_bickerFrom (c_M_bickerFrom_L51 hP hQ hg_M_bickerFrom fu) x1 x2 x3 x4 s h
theorem c_M_bickerFrom_L17 {xs : Nat → Int32} {L d : Nat} {g_M_bickerFrom : Int32 → Int32 → Int32 → S2 → Option S2} {P : MK S2} {Q : S2 → Option MV → Prop} {res : S2} (hP : MClosed (O3 xs L) (kcall (O3 xs L) (d + 9)) kd_M_bickerFrom 0 Q P) (hQ : Q res none) (hg_M_bickerFrom : ∀ {e : Nat}, d + 9 ≤ e → ∀ (a1 : Int32) (a2 : Int32) (a3 : Int32) (s : S2) {res : S2} {Q : S2 → Option MV → Prop}, g_M_bickerFrom a1 a2 a3 s = some res → Q res none → kcall (O3 xs L) e k_M_bickerFrom [mR 60 0, mI a1, mI a2, mI a3] s Q) (x1 : Int32) (x2 : Int32) (x3 : Int32) (s : S2) (h : f_M_bickerFrom_L17 g_M_bickerFrom x1 x2 x3 s = some res) : P 17 [some (mR 60 0), some (mI x1), some (mI x2), some (mI x3), none] [] s (0, 0) := by
  refine mgo_from hP [17, 51, 93, 156, 160] 260 ?_
  refine go_brn (fun hc : ¬ (x1 = (s.1 60 0 67)) => ?_) (fun hc : x1 = (s.1 60 0 67) => ?_)
  · replace h := (if_neg hc).symm.trans h
    obtain ⟨q1, hq, h⟩ := bnd h
    refine go_call (fun _ hw => c_M_write_96 hq hw) ?_
    exact c_M_bickerFrom_L51 hP hQ hg_M_bickerFrom FU _ _ _ _ _ h
  · replace h := (if_pos hc).symm.trans h
    replace h := bnds h
    replace h := bnds h
    cases h
    exact hQ
theorem cb_M_bickerFrom {xs : Nat → Int32} {L d : Nat} {g_M_bickerFrom : Int32 → Int32 → Int32 → S2 → Option S2} {a1 : Int32} {a2 : Int32} {a3 : Int32} {s : S2} {res : S2} {Q : S2 → Option MV → Prop} (hg_M_bickerFrom : ∀ {e : Nat}, d + 9 ≤ e → ∀ (a1 : Int32) (a2 : Int32) (a3 : Int32) (s : S2) {res : S2} {Q : S2 → Option MV → Prop}, g_M_bickerFrom a1 a2 a3 s = some res → Q res none → kcall (O3 xs L) e k_M_bickerFrom [mR 60 0, mI a1, mI a2, mI a3] s Q) (h : fb_M_bickerFrom g_M_bickerFrom a1 a2 a3 s = some res) (hQ : Q res none) : kcall (O3 xs L) (d + 10) k_M_bickerFrom [mR 60 0, mI a1, mI a2, mI a3] s Q := by
  refine kc_of (cd := kd_M_bickerFrom) (mx := 5) (rt := 0) rfl rfl ?_
  intro P hP
  refine mgo_sound hP [17, 51, 93, 156, 160] 260 _ _ _ _ _ ?_
  refine go_br (fun hc : (s.1 60 0 65) = (Int32.ofInt (-1)) => ?_) (fun hc : ¬ ((s.1 60 0 65) = (Int32.ofInt (-1))) => ?_)
  · replace h := (if_pos hc).symm.trans h
    exact c_M_bickerFrom_L17 hP hQ hg_M_bickerFrom _ _ _ _ h
  · replace h := (if_neg hc).symm.trans h
    refine go_br (fun hc : a3 < (s.1 60 0 66) => ?_) (fun hc : ¬ (a3 < (s.1 60 0 66)) => ?_)
    · replace h := (if_pos hc).symm.trans h
      exact c_M_bickerFrom_L17 hP hQ hg_M_bickerFrom _ _ _ _ h
    · replace h := (if_neg hc).symm.trans h
      cases h
      exact hQ
theorem cn_M_bickerFrom {xs : Nat → Int32} {L : Nat} : ∀ (n : Nat) {e : Nat}, n * 20 + 10 ≤ e → ∀ (a1 : Int32) (a2 : Int32) (a3 : Int32) (s : S2) {res : S2} {Q : S2 → Option MV → Prop}, f_M_bickerFrom n a1 a2 a3 s = some res → Q res none → kcall (O3 xs L) e k_M_bickerFrom [mR 60 0, mI a1, mI a2, mI a3] s Q
  | 0, _, _, _, _, _, _, _, _, h, _ => by cases h
  | n + 1, e, he, a1, a2, a3, s, res, Q, h, hQ => by
    obtain ⟨d, rfl⟩ : ∃ d, e = d + 10 := ⟨e - 10, by omega⟩
    exact cb_M_bickerFrom (fun {e} he => cn_M_bickerFrom n (by omega)) h hQ
theorem c_M_bickerFrom {xs : Nat → Int32} {L d : Nat} {a1 : Int32} {a2 : Int32} {a3 : Int32} {s : S2} {res : S2} {Q : S2 → Option MV → Prop} (h : f_M_bickerFrom 9 a1 a2 a3 s = some res) (hQ : Q res none) : kcall (O3 xs L) (d + 190) k_M_bickerFrom [mR 60 0, mI a1, mI a2, mI a3] s Q := cn_M_bickerFrom 9 (by omega) _ _ _ _ h hQ
