/-! M_read -/
def b_M_read_L131 (c1 : Nat) (i1 : Nat) (n1 : Nat) (k131 : Int32 → Int32 → S2 → Option S2) (x2 : Int32) (x4 : Int32) (s : S2) : Option S2 := (if (Int32.ofInt 8) ≤ x4 then ((ix n1 ((x2 + (Int32.ofInt 46)) - (Int32.ofInt 2))).bind fun j1 => ((some (pkS s 60 0 36 (s.1 c1 i1 j1))).bind fun s2 => ((ix n1 ((x2 + (Int32.ofInt 46)) - (Int32.ofInt 1))).bind fun j3 => ((some (pkS s2 60 0 37 (s2.1 c1 i1 j3))).bind fun s4 => some s4)))) else ((ix n1 ((x2 + (Int32.ofInt 30)) + x4)).bind fun j5 => ((ix 44 (((Int32.ofInt 4) * x4) + (Int32.ofInt 2))).bind fun j7 => (some (pkS s 77 0 j7 (s.1 c1 i1 j5))).bind fun s6 => (k131 x2 (x4 + (Int32.ofInt 1)) s6))))
def f_M_read_L131 (c1 : Nat) (i1 : Nat) (n1 : Nat) : Nat → Int32 → Int32 → S2 → Option S2
  | 0 => fun _ _ _ => none
  | n + 1 => b_M_read_L131 c1 i1 n1 (f_M_read_L131 c1 i1 n1 n)
def f_M_read_L122 (c1 : Nat) (i1 : Nat) (n1 : Nat) (k3 : Int32 → Int32 → Int32 → S2 → Option S2) (x2 : Int32) (x3 : Int32) (x4 : Int32) (s : S2) : Option S2 := (k3 x2 x3 (x4 + (Int32.ofInt 1)) s)
def b_M_read_L3 (c1 : Nat) (i1 : Nat) (n1 : Nat) (k3 : Int32 → Int32 → Int32 → S2 → Option S2) (x2 : Int32) (x3 : Int32) (x4 : Int32) (s : S2) : Option S2 := (if (Int32.ofInt 6) ≤ x4 then (f_M_read_L131 c1 i1 n1 FU x2 (Int32.ofInt 0) s) else ((ix n1 (x2 + ((Int32.ofInt 5) * x4))).bind fun j1 => ((ix 6 x4).bind fun j3 => (some (pkS s 79 0 j3 (s.1 c1 i1 j1))).bind fun s2 => ((ix n1 ((x2 + ((Int32.ofInt 5) * x4)) + (Int32.ofInt 1))).bind fun j4 => ((ix 6 x4).bind fun j6 => (some (pkS s2 80 0 j6 (s2.1 c1 i1 j4))).bind fun s5 => ((ix n1 ((x2 + ((Int32.ofInt 5) * x4)) + (Int32.ofInt 2))).bind fun j7 => ((ix 6 x4).bind fun j9 => (some (pkS s5 81 0 j9 (s5.1 c1 i1 j7))).bind fun s8 => ((ix n1 ((x2 + ((Int32.ofInt 5) * x4)) + (Int32.ofInt 3))).bind fun j10 => ((ix 6 x4).bind fun j12 => (some (pkS s8 82 0 j12 (s8.1 c1 i1 j10))).bind fun s11 => ((ix n1 ((x2 + ((Int32.ofInt 5) * x4)) + (Int32.ofInt 4))).bind fun j13 => ((ix 6 x4).bind fun j15 => (some (pkS s11 83 0 j15 (s11.1 c1 i1 j13))).bind fun s14 => (if x3 = 0 then (f_M_read_L122 c1 i1 n1 k3 x2 x3 x4 s14) else ((ix n1 (((x2 + (Int32.ofInt 30)) + (Int32.ofInt 8)) + x4)).bind fun j16 => ((ix 48 (((Int32.ofInt 8) * x4) + (Int32.ofInt 7))).bind fun j18 => (some (pkS s14 76 0 j18 (s14.1 c1 i1 j16))).bind fun s17 => (f_M_read_L122 c1 i1 n1 k3 x2 x3 x4 s17)))))))))))))))
def f_M_read_L3 (c1 : Nat) (i1 : Nat) (n1 : Nat) : Nat → Int32 → Int32 → Int32 → S2 → Option S2
  | 0 => fun _ _ _ _ => none
  | n + 1 => b_M_read_L3 c1 i1 n1 (f_M_read_L3 c1 i1 n1 n)
def f_M_read (c1 : Nat) (i1 : Nat) (n1 : Nat) (a2 : Int32) (a3 : Int32) (s : S2) : Option S2 := (f_M_read_L3 c1 i1 n1 FU a2 a3 (Int32.ofInt 0) s)
theorem cb_M_read_91_L131 {xs : Nat → Int32} {L d : Nat} {i1 : Nat} {P : MK S2} {Q : S2 → Option MV → Prop} {res : S2} (hP : MClosed (O3 xs L) (kcall (O3 xs L) (d + 0)) kd_M_read 0 Q P) (hQ : Q res none) {k131 : Int32 → Int32 → S2 → Option S2} (hk131 : ∀ (x2 : Int32) (x4 : Int32) (x3 : Int32) (s : S2), k131 x2 x4 s = some res → P 131 [some (mR 60 0), some (mR 91 i1), some (mI x2), some (mI x3), some (mI x4)] [] s (0, 0)) (x2 : Int32) (x4 : Int32) (x3 : Int32) (s : S2) (h : b_M_read_L131 91 i1 46 k131 x2 x4 s = some res) : P 131 [some (mR 60 0), some (mR 91 i1), some (mI x2), some (mI x3), some (mI x4)] [] s (0, 0) := by
  refine mgo_from hP [3, 122, 131] 260 ?_
  refine go_br (fun hc : (Int32.ofInt 8) ≤ x4 => ?_) (fun hc : ¬ ((Int32.ofInt 8) ≤ x4) => ?_)
  · replace h := (if_pos hc).symm.trans h
    obtain ⟨j1, hj, h⟩ := bnd h
    refine go_ix j1 (ix_lt hj) (ix_eq hj) ?_
    replace h := bnds h
    obtain ⟨j3, hj, h⟩ := bnd h
    refine go_ix j3 (ix_lt hj) (ix_eq hj) ?_
    replace h := bnds h
    cases h
    exact hQ
  · replace h := (if_neg hc).symm.trans h
    obtain ⟨j5, hj, h⟩ := bnd h
    refine go_ix j5 (ix_lt hj) (ix_eq hj) ?_
    obtain ⟨j7, hj, h⟩ := bnd h
    replace h := bnds h
    refine go_ix j7 (ix_lt hj) (ix_eq hj) ?_
    exact hk131 _ _ _ _ h
theorem c_M_read_91_L131 {xs : Nat → Int32} {L d : Nat} {i1 : Nat} {P : MK S2} {Q : S2 → Option MV → Prop} {res : S2} (hP : MClosed (O3 xs L) (kcall (O3 xs L) (d + 0)) kd_M_read 0 Q P) (hQ : Q res none) : ∀ (fu : Nat) (x2 : Int32) (x4 : Int32) (x3 : Int32) (s : S2), f_M_read_L131 91 i1 46 fu x2 x4 s = some res → P 131 [some (mR 60 0), some (mR 91 i1), some (mI x2), some (mI x3), some (mI x4)] [] s (0, 0)
  | 0, _, _, _, _, h => by cases h
  | fu + 1, x2, x4, x3, s, h => cb_M_read_91_L131 hP hQ (c_M_read_91_L131 hP hQ fu) x2 x4 x3 s h
theorem c_M_read_91_L122 {xs : Nat → Int32} {L d : Nat} {i1 : Nat} {P : MK S2} {Q : S2 → Option MV → Prop} {res : S2} (hP : MClosed (O3 xs L) (kcall (O3 xs L) (d + 0)) kd_M_read 0 Q P) (hQ : Q res none) {k3 : Int32 → Int32 → Int32 → S2 → Option S2} (hk3 : ∀ (x2 : Int32) (x3 : Int32) (x4 : Int32) (s : S2), k3 x2 x3 x4 s = some res → P 3 [some (mR 60 0), some (mR 91 i1), some (mI x2), some (mI x3), some (mI x4)] [] s (0, 0)) (x2 : Int32) (x3 : Int32) (x4 : Int32) (s : S2) (h : f_M_read_L122 91 i1 46 k3 x2 x3 x4 s = some res) : P 122 [some (mR 60 0), some (mR 91 i1), some (mI x2), some (mI x3), some (mI x4)] [] s (0, 0) := by
  refine mgo_from hP [3, 122, 131] 260 ?_
  exact hk3 _ _ _ _ h
set_option maxRecDepth 20000 in
set_option maxHeartbeats 4000000 in
theorem cb_M_read_91_L3 {xs : Nat → Int32} {L d : Nat} {i1 : Nat} {P : MK S2} {Q : S2 → Option MV → Prop} {res : S2} (hP : MClosed (O3 xs L) (kcall (O3 xs L) (d + 0)) kd_M_read 0 Q P) (hQ : Q res none) {k3 : Int32 → Int32 → Int32 → S2 → Option S2} (hk3 : ∀ (x2 : Int32) (x3 : Int32) (x4 : Int32) (s : S2), k3 x2 x3 x4 s = some res → P 3 [some (mR 60 0), some (mR 91 i1), some (mI x2), some (mI x3), some (mI x4)] [] s (0, 0)) (x2 : Int32) (x3 : Int32) (x4 : Int32) (s : S2) (h : b_M_read_L3 91 i1 46 k3 x2 x3 x4 s = some res) : P 3 [some (mR 60 0), some (mR 91 i1), some (mI x2), some (mI x3), some (mI x4)] [] s (0, 0) := by
  refine mgo_from hP [3, 122, 131] 260 ?_
  refine go_br (fun hc : (Int32.ofInt 6) ≤ x4 => ?_) (fun hc : ¬ ((Int32.ofInt 6) ≤ x4) => ?_)
  · replace h := (if_pos hc).symm.trans h
    exact c_M_read_91_L131 hP hQ FU _ _ _ _ h
  · replace h := (if_neg hc).symm.trans h
    obtain ⟨j1, hj, h⟩ := bnd h
    refine go_ix j1 (ix_lt hj) (ix_eq hj) ?_
    obtain ⟨j3, hj, h⟩ := bnd h
    replace h := bnds h
    refine go_ix j3 (ix_lt hj) (ix_eq hj) ?_
    obtain ⟨j4, hj, h⟩ := bnd h
    refine go_ix j4 (ix_lt hj) (ix_eq hj) ?_
    obtain ⟨j6, hj, h⟩ := bnd h
    replace h := bnds h
    refine go_ix j6 (ix_lt hj) (ix_eq hj) ?_
    obtain ⟨j7, hj, h⟩ := bnd h
    refine go_ix j7 (ix_lt hj) (ix_eq hj) ?_
    obtain ⟨j9, hj, h⟩ := bnd h
    replace h := bnds h
    refine go_ix j9 (ix_lt hj) (ix_eq hj) ?_
    obtain ⟨j10, hj, h⟩ := bnd h
    refine go_ix j10 (ix_lt hj) (ix_eq hj) ?_
    obtain ⟨j12, hj, h⟩ := bnd h
    replace h := bnds h
    refine go_ix j12 (ix_lt hj) (ix_eq hj) ?_
    obtain ⟨j13, hj, h⟩ := bnd h
    refine go_ix j13 (ix_lt hj) (ix_eq hj) ?_
    obtain ⟨j15, hj, h⟩ := bnd h
    replace h := bnds h
    refine go_ix j15 (ix_lt hj) (ix_eq hj) ?_
    refine go_br (fun hc : x3 = 0 => ?_) (fun hc : ¬ (x3 = 0) => ?_)
    · replace h := (if_pos hc).symm.trans h
      exact c_M_read_91_L122 hP hQ hk3 _ _ _ _ h
    · replace h := (if_neg hc).symm.trans h
      obtain ⟨j16, hj, h⟩ := bnd h
      refine go_ix j16 (ix_lt hj) (ix_eq hj) ?_
      obtain ⟨j18, hj, h⟩ := bnd h
      replace h := bnds h
      refine go_ix j18 (ix_lt hj) (ix_eq hj) ?_
      exact c_M_read_91_L122 hP hQ hk3 _ _ _ _ h
theorem c_M_read_91_L3 {xs : Nat → Int32} {L d : Nat} {i1 : Nat} {P : MK S2} {Q : S2 → Option MV → Prop} {res : S2} (hP : MClosed (O3 xs L) (kcall (O3 xs L) (d + 0)) kd_M_read 0 Q P) (hQ : Q res none) : ∀ (fu : Nat) (x2 : Int32) (x3 : Int32) (x4 : Int32) (s : S2), f_M_read_L3 91 i1 46 fu x2 x3 x4 s = some res → P 3 [some (mR 60 0), some (mR 91 i1), some (mI x2), some (mI x3), some (mI x4)] [] s (0, 0)
  | 0, _, _, _, _, h => by cases h
  | fu + 1, x2, x3, x4, s, h => cb_M_read_91_L3 hP hQ (c_M_read_91_L3 hP hQ fu) x2 x3 x4 s h
theorem c_M_read_91 {xs : Nat → Int32} {L d : Nat} {i1 : Nat} {a2 : Int32} {a3 : Int32} {s : S2} {res : S2} {Q : S2 → Option MV → Prop} (h : f_M_read 91 i1 46 a2 a3 s = some res) (hQ : Q res none) : kcall (O3 xs L) (d + 1) k_M_read [mR 60 0, mR 91 i1, mI a2, mI a3] s Q := by
  refine kc_of (cd := kd_M_read) (mx := 5) (rt := 0) rfl rfl ?_
  intro P hP
  refine mgo_sound hP [3, 122, 131] 260 _ _ _ _ _ ?_
  exact c_M_read_91_L3 hP hQ FU _ _ _ _ h
theorem cb_M_read_92_L131 {xs : Nat → Int32} {L d : Nat} {i1 : Nat} {P : MK S2} {Q : S2 → Option MV → Prop} {res : S2} (hP : MClosed (O3 xs L) (kcall (O3 xs L) (d + 0)) kd_M_read 0 Q P) (hQ : Q res none) {k131 : Int32 → Int32 → S2 → Option S2} (hk131 : ∀ (x2 : Int32) (x4 : Int32) (x3 : Int32) (s : S2), k131 x2 x4 s = some res → P 131 [some (mR 60 0), some (mR 92 i1), some (mI x2), some (mI x3), some (mI x4)] [] s (0, 0)) (x2 : Int32) (x4 : Int32) (x3 : Int32) (s : S2) (h : b_M_read_L131 92 i1 1380 k131 x2 x4 s = some res) : P 131 [some (mR 60 0), some (mR 92 i1), some (mI x2), some (mI x3), some (mI x4)] [] s (0, 0) := by
  refine mgo_from hP [3, 122, 131] 260 ?_
  refine go_br (fun hc : (Int32.ofInt 8) ≤ x4 => ?_) (fun hc : ¬ ((Int32.ofInt 8) ≤ x4) => ?_)
  · replace h := (if_pos hc).symm.trans h
    obtain ⟨j1, hj, h⟩ := bnd h
    refine go_ix j1 (ix_lt hj) (ix_eq hj) ?_
    replace h := bnds h
    obtain ⟨j3, hj, h⟩ := bnd h
    refine go_ix j3 (ix_lt hj) (ix_eq hj) ?_
    replace h := bnds h
    cases h
    exact hQ
  · replace h := (if_neg hc).symm.trans h
    obtain ⟨j5, hj, h⟩ := bnd h
    refine go_ix j5 (ix_lt hj) (ix_eq hj) ?_
    obtain ⟨j7, hj, h⟩ := bnd h
    replace h := bnds h
    refine go_ix j7 (ix_lt hj) (ix_eq hj) ?_
    exact hk131 _ _ _ _ h
theorem c_M_read_92_L131 {xs : Nat → Int32} {L d : Nat} {i1 : Nat} {P : MK S2} {Q : S2 → Option MV → Prop} {res : S2} (hP : MClosed (O3 xs L) (kcall (O3 xs L) (d + 0)) kd_M_read 0 Q P) (hQ : Q res none) : ∀ (fu : Nat) (x2 : Int32) (x4 : Int32) (x3 : Int32) (s : S2), f_M_read_L131 92 i1 1380 fu x2 x4 s = some res → P 131 [some (mR 60 0), some (mR 92 i1), some (mI x2), some (mI x3), some (mI x4)] [] s (0, 0)
  | 0, _, _, _, _, h => by cases h
  | fu + 1, x2, x4, x3, s, h => cb_M_read_92_L131 hP hQ (c_M_read_92_L131 hP hQ fu) x2 x4 x3 s h
theorem c_M_read_92_L122 {xs : Nat → Int32} {L d : Nat} {i1 : Nat} {P : MK S2} {Q : S2 → Option MV → Prop} {res : S2} (hP : MClosed (O3 xs L) (kcall (O3 xs L) (d + 0)) kd_M_read 0 Q P) (hQ : Q res none) {k3 : Int32 → Int32 → Int32 → S2 → Option S2} (hk3 : ∀ (x2 : Int32) (x3 : Int32) (x4 : Int32) (s : S2), k3 x2 x3 x4 s = some res → P 3 [some (mR 60 0), some (mR 92 i1), some (mI x2), some (mI x3), some (mI x4)] [] s (0, 0)) (x2 : Int32) (x3 : Int32) (x4 : Int32) (s : S2) (h : f_M_read_L122 92 i1 1380 k3 x2 x3 x4 s = some res) : P 122 [some (mR 60 0), some (mR 92 i1), some (mI x2), some (mI x3), some (mI x4)] [] s (0, 0) := by
  refine mgo_from hP [3, 122, 131] 260 ?_
  exact hk3 _ _ _ _ h
set_option maxRecDepth 20000 in
set_option maxHeartbeats 4000000 in
theorem cb_M_read_92_L3 {xs : Nat → Int32} {L d : Nat} {i1 : Nat} {P : MK S2} {Q : S2 → Option MV → Prop} {res : S2} (hP : MClosed (O3 xs L) (kcall (O3 xs L) (d + 0)) kd_M_read 0 Q P) (hQ : Q res none) {k3 : Int32 → Int32 → Int32 → S2 → Option S2} (hk3 : ∀ (x2 : Int32) (x3 : Int32) (x4 : Int32) (s : S2), k3 x2 x3 x4 s = some res → P 3 [some (mR 60 0), some (mR 92 i1), some (mI x2), some (mI x3), some (mI x4)] [] s (0, 0)) (x2 : Int32) (x3 : Int32) (x4 : Int32) (s : S2) (h : b_M_read_L3 92 i1 1380 k3 x2 x3 x4 s = some res) : P 3 [some (mR 60 0), some (mR 92 i1), some (mI x2), some (mI x3), some (mI x4)] [] s (0, 0) := by
  refine mgo_from hP [3, 122, 131] 260 ?_
  refine go_br (fun hc : (Int32.ofInt 6) ≤ x4 => ?_) (fun hc : ¬ ((Int32.ofInt 6) ≤ x4) => ?_)
  · replace h := (if_pos hc).symm.trans h
    exact c_M_read_92_L131 hP hQ FU _ _ _ _ h
  · replace h := (if_neg hc).symm.trans h
    obtain ⟨j1, hj, h⟩ := bnd h
    refine go_ix j1 (ix_lt hj) (ix_eq hj) ?_
    obtain ⟨j3, hj, h⟩ := bnd h
    replace h := bnds h
    refine go_ix j3 (ix_lt hj) (ix_eq hj) ?_
    obtain ⟨j4, hj, h⟩ := bnd h
    refine go_ix j4 (ix_lt hj) (ix_eq hj) ?_
    obtain ⟨j6, hj, h⟩ := bnd h
    replace h := bnds h
    refine go_ix j6 (ix_lt hj) (ix_eq hj) ?_
    obtain ⟨j7, hj, h⟩ := bnd h
    refine go_ix j7 (ix_lt hj) (ix_eq hj) ?_
    obtain ⟨j9, hj, h⟩ := bnd h
    replace h := bnds h
    refine go_ix j9 (ix_lt hj) (ix_eq hj) ?_
    obtain ⟨j10, hj, h⟩ := bnd h
    refine go_ix j10 (ix_lt hj) (ix_eq hj) ?_
    obtain ⟨j12, hj, h⟩ := bnd h
    replace h := bnds h
    refine go_ix j12 (ix_lt hj) (ix_eq hj) ?_
    obtain ⟨j13, hj, h⟩ := bnd h
    refine go_ix j13 (ix_lt hj) (ix_eq hj) ?_
    obtain ⟨j15, hj, h⟩ := bnd h
    replace h := bnds h
    refine go_ix j15 (ix_lt hj) (ix_eq hj) ?_
    refine go_br (fun hc : x3 = 0 => ?_) (fun hc : ¬ (x3 = 0) => ?_)
    · replace h := (if_pos hc).symm.trans h
      exact c_M_read_92_L122 hP hQ hk3 _ _ _ _ h
    · replace h := (if_neg hc).symm.trans h
      obtain ⟨j16, hj, h⟩ := bnd h
      refine go_ix j16 (ix_lt hj) (ix_eq hj) ?_
      obtain ⟨j18, hj, h⟩ := bnd h
      replace h := bnds h
      refine go_ix j18 (ix_lt hj) (ix_eq hj) ?_
      exact c_M_read_92_L122 hP hQ hk3 _ _ _ _ h
theorem c_M_read_92_L3 {xs : Nat → Int32} {L d : Nat} {i1 : Nat} {P : MK S2} {Q : S2 → Option MV → Prop} {res : S2} (hP : MClosed (O3 xs L) (kcall (O3 xs L) (d + 0)) kd_M_read 0 Q P) (hQ : Q res none) : ∀ (fu : Nat) (x2 : Int32) (x3 : Int32) (x4 : Int32) (s : S2), f_M_read_L3 92 i1 1380 fu x2 x3 x4 s = some res → P 3 [some (mR 60 0), some (mR 92 i1), some (mI x2), some (mI x3), some (mI x4)] [] s (0, 0)
  | 0, _, _, _, _, h => by cases h
  | fu + 1, x2, x3, x4, s, h => cb_M_read_92_L3 hP hQ (c_M_read_92_L3 hP hQ fu) x2 x3 x4 s h
theorem c_M_read_92 {xs : Nat → Int32} {L d : Nat} {i1 : Nat} {a2 : Int32} {a3 : Int32} {s : S2} {res : S2} {Q : S2 → Option MV → Prop} (h : f_M_read 92 i1 1380 a2 a3 s = some res) (hQ : Q res none) : kcall (O3 xs L) (d + 1) k_M_read [mR 60 0, mR 92 i1, mI a2, mI a3] s Q := by
  refine kc_of (cd := kd_M_read) (mx := 5) (rt := 0) rfl rfl ?_
  intro P hP
  refine mgo_sound hP [3, 122, 131] 260 _ _ _ _ _ ?_
  exact c_M_read_92_L3 hP hQ FU _ _ _ _ h
theorem cb_M_read_96_L131 {xs : Nat → Int32} {L d : Nat} {i1 : Nat} {P : MK S2} {Q : S2 → Option MV → Prop} {res : S2} (hP : MClosed (O3 xs L) (kcall (O3 xs L) (d + 0)) kd_M_read 0 Q P) (hQ : Q res none) {k131 : Int32 → Int32 → S2 → Option S2} (hk131 : ∀ (x2 : Int32) (x4 : Int32) (x3 : Int32) (s : S2), k131 x2 x4 s = some res → P 131 [some (mR 60 0), some (mR 96 i1), some (mI x2), some (mI x3), some (mI x4)] [] s (0, 0)) (x2 : Int32) (x4 : Int32) (x3 : Int32) (s : S2) (h : b_M_read_L131 96 i1 322 k131 x2 x4 s = some res) : P 131 [some (mR 60 0), some (mR 96 i1), some (mI x2), some (mI x3), some (mI x4)] [] s (0, 0) := by
  refine mgo_from hP [3, 122, 131] 260 ?_
  refine go_br (fun hc : (Int32.ofInt 8) ≤ x4 => ?_) (fun hc : ¬ ((Int32.ofInt 8) ≤ x4) => ?_)
  · replace h := (if_pos hc).symm.trans h
    obtain ⟨j1, hj, h⟩ := bnd h
    refine go_ix j1 (ix_lt hj) (ix_eq hj) ?_
    replace h := bnds h
    obtain ⟨j3, hj, h⟩ := bnd h
    refine go_ix j3 (ix_lt hj) (ix_eq hj) ?_
    replace h := bnds h
    cases h
    exact hQ
  · replace h := (if_neg hc).symm.trans h
    obtain ⟨j5, hj, h⟩ := bnd h
    refine go_ix j5 (ix_lt hj) (ix_eq hj) ?_
    obtain ⟨j7, hj, h⟩ := bnd h
    replace h := bnds h
    refine go_ix j7 (ix_lt hj) (ix_eq hj) ?_
    exact hk131 _ _ _ _ h
theorem c_M_read_96_L131 {xs : Nat → Int32} {L d : Nat} {i1 : Nat} {P : MK S2} {Q : S2 → Option MV → Prop} {res : S2} (hP : MClosed (O3 xs L) (kcall (O3 xs L) (d + 0)) kd_M_read 0 Q P) (hQ : Q res none) : ∀ (fu : Nat) (x2 : Int32) (x4 : Int32) (x3 : Int32) (s : S2), f_M_read_L131 96 i1 322 fu x2 x4 s = some res → P 131 [some (mR 60 0), some (mR 96 i1), some (mI x2), some (mI x3), some (mI x4)] [] s (0, 0)
  | 0, _, _, _, _, h => by cases h
  | fu + 1, x2, x4, x3, s, h => cb_M_read_96_L131 hP hQ (c_M_read_96_L131 hP hQ fu) x2 x4 x3 s h
theorem c_M_read_96_L122 {xs : Nat → Int32} {L d : Nat} {i1 : Nat} {P : MK S2} {Q : S2 → Option MV → Prop} {res : S2} (hP : MClosed (O3 xs L) (kcall (O3 xs L) (d + 0)) kd_M_read 0 Q P) (hQ : Q res none) {k3 : Int32 → Int32 → Int32 → S2 → Option S2} (hk3 : ∀ (x2 : Int32) (x3 : Int32) (x4 : Int32) (s : S2), k3 x2 x3 x4 s = some res → P 3 [some (mR 60 0), some (mR 96 i1), some (mI x2), some (mI x3), some (mI x4)] [] s (0, 0)) (x2 : Int32) (x3 : Int32) (x4 : Int32) (s : S2) (h : f_M_read_L122 96 i1 322 k3 x2 x3 x4 s = some res) : P 122 [some (mR 60 0), some (mR 96 i1), some (mI x2), some (mI x3), some (mI x4)] [] s (0, 0) := by
  refine mgo_from hP [3, 122, 131] 260 ?_
  exact hk3 _ _ _ _ h
set_option maxRecDepth 20000 in
set_option maxHeartbeats 4000000 in
theorem cb_M_read_96_L3 {xs : Nat → Int32} {L d : Nat} {i1 : Nat} {P : MK S2} {Q : S2 → Option MV → Prop} {res : S2} (hP : MClosed (O3 xs L) (kcall (O3 xs L) (d + 0)) kd_M_read 0 Q P) (hQ : Q res none) {k3 : Int32 → Int32 → Int32 → S2 → Option S2} (hk3 : ∀ (x2 : Int32) (x3 : Int32) (x4 : Int32) (s : S2), k3 x2 x3 x4 s = some res → P 3 [some (mR 60 0), some (mR 96 i1), some (mI x2), some (mI x3), some (mI x4)] [] s (0, 0)) (x2 : Int32) (x3 : Int32) (x4 : Int32) (s : S2) (h : b_M_read_L3 96 i1 322 k3 x2 x3 x4 s = some res) : P 3 [some (mR 60 0), some (mR 96 i1), some (mI x2), some (mI x3), some (mI x4)] [] s (0, 0) := by
  refine mgo_from hP [3, 122, 131] 260 ?_
  refine go_br (fun hc : (Int32.ofInt 6) ≤ x4 => ?_) (fun hc : ¬ ((Int32.ofInt 6) ≤ x4) => ?_)
  · replace h := (if_pos hc).symm.trans h
    exact c_M_read_96_L131 hP hQ FU _ _ _ _ h
  · replace h := (if_neg hc).symm.trans h
    obtain ⟨j1, hj, h⟩ := bnd h
    refine go_ix j1 (ix_lt hj) (ix_eq hj) ?_
    obtain ⟨j3, hj, h⟩ := bnd h
    replace h := bnds h
    refine go_ix j3 (ix_lt hj) (ix_eq hj) ?_
    obtain ⟨j4, hj, h⟩ := bnd h
    refine go_ix j4 (ix_lt hj) (ix_eq hj) ?_
    obtain ⟨j6, hj, h⟩ := bnd h
    replace h := bnds h
    refine go_ix j6 (ix_lt hj) (ix_eq hj) ?_
    obtain ⟨j7, hj, h⟩ := bnd h
    refine go_ix j7 (ix_lt hj) (ix_eq hj) ?_
    obtain ⟨j9, hj, h⟩ := bnd h
    replace h := bnds h
    refine go_ix j9 (ix_lt hj) (ix_eq hj) ?_
    obtain ⟨j10, hj, h⟩ := bnd h
    refine go_ix j10 (ix_lt hj) (ix_eq hj) ?_
    obtain ⟨j12, hj, h⟩ := bnd h
    replace h := bnds h
    refine go_ix j12 (ix_lt hj) (ix_eq hj) ?_
    obtain ⟨j13, hj, h⟩ := bnd h
    refine go_ix j13 (ix_lt hj) (ix_eq hj) ?_
    obtain ⟨j15, hj, h⟩ := bnd h
    replace h := bnds h
    refine go_ix j15 (ix_lt hj) (ix_eq hj) ?_
    refine go_br (fun hc : x3 = 0 => ?_) (fun hc : ¬ (x3 = 0) => ?_)
    · replace h := (if_pos hc).symm.trans h
      exact c_M_read_96_L122 hP hQ hk3 _ _ _ _ h
    · replace h := (if_neg hc).symm.trans h
      obtain ⟨j16, hj, h⟩ := bnd h
      refine go_ix j16 (ix_lt hj) (ix_eq hj) ?_
      obtain ⟨j18, hj, h⟩ := bnd h
      replace h := bnds h
      refine go_ix j18 (ix_lt hj) (ix_eq hj) ?_
      exact c_M_read_96_L122 hP hQ hk3 _ _ _ _ h
theorem c_M_read_96_L3 {xs : Nat → Int32} {L d : Nat} {i1 : Nat} {P : MK S2} {Q : S2 → Option MV → Prop} {res : S2} (hP : MClosed (O3 xs L) (kcall (O3 xs L) (d + 0)) kd_M_read 0 Q P) (hQ : Q res none) : ∀ (fu : Nat) (x2 : Int32) (x3 : Int32) (x4 : Int32) (s : S2), f_M_read_L3 96 i1 322 fu x2 x3 x4 s = some res → P 3 [some (mR 60 0), some (mR 96 i1), some (mI x2), some (mI x3), some (mI x4)] [] s (0, 0)
  | 0, _, _, _, _, h => by cases h
  | fu + 1, x2, x3, x4, s, h => cb_M_read_96_L3 hP hQ (c_M_read_96_L3 hP hQ fu) x2 x3 x4 s h
theorem c_M_read_96 {xs : Nat → Int32} {L d : Nat} {i1 : Nat} {a2 : Int32} {a3 : Int32} {s : S2} {res : S2} {Q : S2 → Option MV → Prop} (h : f_M_read 96 i1 322 a2 a3 s = some res) (hQ : Q res none) : kcall (O3 xs L) (d + 1) k_M_read [mR 60 0, mR 96 i1, mI a2, mI a3] s Q := by
  refine kc_of (cd := kd_M_read) (mx := 5) (rt := 0) rfl rfl ?_
  intro P hP
  refine mgo_sound hP [3, 122, 131] 260 _ _ _ _ _ ?_
  exact c_M_read_96_L3 hP hQ FU _ _ _ _ h
theorem cb_M_read_101_L131 {xs : Nat → Int32} {L d : Nat} {i1 : Nat} {P : MK S2} {Q : S2 → Option MV → Prop} {res : S2} (hP : MClosed (O3 xs L) (kcall (O3 xs L) (d + 0)) kd_M_read 0 Q P) (hQ : Q res none) {k131 : Int32 → Int32 → S2 → Option S2} (hk131 : ∀ (x2 : Int32) (x4 : Int32) (x3 : Int32) (s : S2), k131 x2 x4 s = some res → P 131 [some (mR 60 0), some (mR 101 i1), some (mI x2), some (mI x3), some (mI x4)] [] s (0, 0)) (x2 : Int32) (x4 : Int32) (x3 : Int32) (s : S2) (h : b_M_read_L131 101 i1 46 k131 x2 x4 s = some res) : P 131 [some (mR 60 0), some (mR 101 i1), some (mI x2), some (mI x3), some (mI x4)] [] s (0, 0) := by
  refine mgo_from hP [3, 122, 131] 260 ?_
  refine go_br (fun hc : (Int32.ofInt 8) ≤ x4 => ?_) (fun hc : ¬ ((Int32.ofInt 8) ≤ x4) => ?_)
  · replace h := (if_pos hc).symm.trans h
    obtain ⟨j1, hj, h⟩ := bnd h
    refine go_ix j1 (ix_lt hj) (ix_eq hj) ?_
    replace h := bnds h
    obtain ⟨j3, hj, h⟩ := bnd h
    refine go_ix j3 (ix_lt hj) (ix_eq hj) ?_
    replace h := bnds h
    cases h
    exact hQ
  · replace h := (if_neg hc).symm.trans h
    obtain ⟨j5, hj, h⟩ := bnd h
    refine go_ix j5 (ix_lt hj) (ix_eq hj) ?_
    obtain ⟨j7, hj, h⟩ := bnd h
    replace h := bnds h
    refine go_ix j7 (ix_lt hj) (ix_eq hj) ?_
    exact hk131 _ _ _ _ h
theorem c_M_read_101_L131 {xs : Nat → Int32} {L d : Nat} {i1 : Nat} {P : MK S2} {Q : S2 → Option MV → Prop} {res : S2} (hP : MClosed (O3 xs L) (kcall (O3 xs L) (d + 0)) kd_M_read 0 Q P) (hQ : Q res none) : ∀ (fu : Nat) (x2 : Int32) (x4 : Int32) (x3 : Int32) (s : S2), f_M_read_L131 101 i1 46 fu x2 x4 s = some res → P 131 [some (mR 60 0), some (mR 101 i1), some (mI x2), some (mI x3), some (mI x4)] [] s (0, 0)
  | 0, _, _, _, _, h => by cases h
  | fu + 1, x2, x4, x3, s, h => cb_M_read_101_L131 hP hQ (c_M_read_101_L131 hP hQ fu) x2 x4 x3 s h
theorem c_M_read_101_L122 {xs : Nat → Int32} {L d : Nat} {i1 : Nat} {P : MK S2} {Q : S2 → Option MV → Prop} {res : S2} (hP : MClosed (O3 xs L) (kcall (O3 xs L) (d + 0)) kd_M_read 0 Q P) (hQ : Q res none) {k3 : Int32 → Int32 → Int32 → S2 → Option S2} (hk3 : ∀ (x2 : Int32) (x3 : Int32) (x4 : Int32) (s : S2), k3 x2 x3 x4 s = some res → P 3 [some (mR 60 0), some (mR 101 i1), some (mI x2), some (mI x3), some (mI x4)] [] s (0, 0)) (x2 : Int32) (x3 : Int32) (x4 : Int32) (s : S2) (h : f_M_read_L122 101 i1 46 k3 x2 x3 x4 s = some res) : P 122 [some (mR 60 0), some (mR 101 i1), some (mI x2), some (mI x3), some (mI x4)] [] s (0, 0) := by
  refine mgo_from hP [3, 122, 131] 260 ?_
  exact hk3 _ _ _ _ h
set_option maxRecDepth 20000 in
set_option maxHeartbeats 4000000 in
theorem cb_M_read_101_L3 {xs : Nat → Int32} {L d : Nat} {i1 : Nat} {P : MK S2} {Q : S2 → Option MV → Prop} {res : S2} (hP : MClosed (O3 xs L) (kcall (O3 xs L) (d + 0)) kd_M_read 0 Q P) (hQ : Q res none) {k3 : Int32 → Int32 → Int32 → S2 → Option S2} (hk3 : ∀ (x2 : Int32) (x3 : Int32) (x4 : Int32) (s : S2), k3 x2 x3 x4 s = some res → P 3 [some (mR 60 0), some (mR 101 i1), some (mI x2), some (mI x3), some (mI x4)] [] s (0, 0)) (x2 : Int32) (x3 : Int32) (x4 : Int32) (s : S2) (h : b_M_read_L3 101 i1 46 k3 x2 x3 x4 s = some res) : P 3 [some (mR 60 0), some (mR 101 i1), some (mI x2), some (mI x3), some (mI x4)] [] s (0, 0) := by
  refine mgo_from hP [3, 122, 131] 260 ?_
  refine go_br (fun hc : (Int32.ofInt 6) ≤ x4 => ?_) (fun hc : ¬ ((Int32.ofInt 6) ≤ x4) => ?_)
  · replace h := (if_pos hc).symm.trans h
    exact c_M_read_101_L131 hP hQ FU _ _ _ _ h
  · replace h := (if_neg hc).symm.trans h
    obtain ⟨j1, hj, h⟩ := bnd h
    refine go_ix j1 (ix_lt hj) (ix_eq hj) ?_
    obtain ⟨j3, hj, h⟩ := bnd h
    replace h := bnds h
    refine go_ix j3 (ix_lt hj) (ix_eq hj) ?_
    obtain ⟨j4, hj, h⟩ := bnd h
    refine go_ix j4 (ix_lt hj) (ix_eq hj) ?_
    obtain ⟨j6, hj, h⟩ := bnd h
    replace h := bnds h
    refine go_ix j6 (ix_lt hj) (ix_eq hj) ?_
    obtain ⟨j7, hj, h⟩ := bnd h
    refine go_ix j7 (ix_lt hj) (ix_eq hj) ?_
    obtain ⟨j9, hj, h⟩ := bnd h
    replace h := bnds h
    refine go_ix j9 (ix_lt hj) (ix_eq hj) ?_
    obtain ⟨j10, hj, h⟩ := bnd h
    refine go_ix j10 (ix_lt hj) (ix_eq hj) ?_
    obtain ⟨j12, hj, h⟩ := bnd h
    replace h := bnds h
    refine go_ix j12 (ix_lt hj) (ix_eq hj) ?_
    obtain ⟨j13, hj, h⟩ := bnd h
    refine go_ix j13 (ix_lt hj) (ix_eq hj) ?_
    obtain ⟨j15, hj, h⟩ := bnd h
    replace h := bnds h
    refine go_ix j15 (ix_lt hj) (ix_eq hj) ?_
    refine go_br (fun hc : x3 = 0 => ?_) (fun hc : ¬ (x3 = 0) => ?_)
    · replace h := (if_pos hc).symm.trans h
      exact c_M_read_101_L122 hP hQ hk3 _ _ _ _ h
    · replace h := (if_neg hc).symm.trans h
      obtain ⟨j16, hj, h⟩ := bnd h
      refine go_ix j16 (ix_lt hj) (ix_eq hj) ?_
      obtain ⟨j18, hj, h⟩ := bnd h
      replace h := bnds h
      refine go_ix j18 (ix_lt hj) (ix_eq hj) ?_
      exact c_M_read_101_L122 hP hQ hk3 _ _ _ _ h
theorem c_M_read_101_L3 {xs : Nat → Int32} {L d : Nat} {i1 : Nat} {P : MK S2} {Q : S2 → Option MV → Prop} {res : S2} (hP : MClosed (O3 xs L) (kcall (O3 xs L) (d + 0)) kd_M_read 0 Q P) (hQ : Q res none) : ∀ (fu : Nat) (x2 : Int32) (x3 : Int32) (x4 : Int32) (s : S2), f_M_read_L3 101 i1 46 fu x2 x3 x4 s = some res → P 3 [some (mR 60 0), some (mR 101 i1), some (mI x2), some (mI x3), some (mI x4)] [] s (0, 0)
  | 0, _, _, _, _, h => by cases h
  | fu + 1, x2, x3, x4, s, h => cb_M_read_101_L3 hP hQ (c_M_read_101_L3 hP hQ fu) x2 x3 x4 s h
theorem c_M_read_101 {xs : Nat → Int32} {L d : Nat} {i1 : Nat} {a2 : Int32} {a3 : Int32} {s : S2} {res : S2} {Q : S2 → Option MV → Prop} (h : f_M_read 101 i1 46 a2 a3 s = some res) (hQ : Q res none) : kcall (O3 xs L) (d + 1) k_M_read [mR 60 0, mR 101 i1, mI a2, mI a3] s Q := by
  refine kc_of (cd := kd_M_read) (mx := 5) (rt := 0) rfl rfl ?_
  intro P hP
  refine mgo_sound hP [3, 122, 131] 260 _ _ _ _ _ ?_
  exact c_M_read_101_L3 hP hQ FU _ _ _ _ h
/-! M_log -/
def f_M_log (a1 : Int32) (a2 : Int32) (s : S2) : Option Int32 := (if (bI (g_M_in a1 (Int32.ofInt 0) ((s.1 60 0 57) - (Int32.ofInt 1)) s)) = 0 then some (Int32.ofInt (-1)) else (if (bI (g_M_in a2 (Int32.ofInt 0) (Int32.ofInt 2) s)) = 0 then some (Int32.ofInt (-1)) else ((ix 180 (((Int32.ofInt 3) * (((s.1 60 0 57) - (Int32.ofInt 1)) - a1)) + a2)).bind fun j1 => some (s.1 93 0 j1))))
theorem c_M_log {xs : Nat → Int32} {L d : Nat} {a1 : Int32} {a2 : Int32} {s : S2} {res : Int32} {Q : S2 → Option MV → Prop} (h : f_M_log a1 a2 s = some res) (hQ : Q s (some (mI res))) : kcall (O3 xs L) (d + 2) k_M_log [mR 60 0, mI a1, mI a2] s Q := by
  refine kc_of (cd := kd_M_log) (mx := 3) (rt := 1) rfl rfl ?_
  intro P hP
  refine mgo_sound hP [] 260 _ _ _ _ _ ?_
  refine go_call (fun _ hw => c_M_in hw) ?_
  refine go_br (fun hc : (bI (g_M_in a1 (Int32.ofInt 0) ((s.1 60 0 57) - (Int32.ofInt 1)) s)) = 0 => ?_) (fun hc : ¬ ((bI (g_M_in a1 (Int32.ofInt 0) ((s.1 60 0 57) - (Int32.ofInt 1)) s)) = 0) => ?_)
  · replace h := (if_pos hc).symm.trans h
    cases h
    exact hQ
  · replace h := (if_neg hc).symm.trans h
    refine go_call (fun _ hw => c_M_in hw) ?_
    refine go_br (fun hc : (bI (g_M_in a2 (Int32.ofInt 0) (Int32.ofInt 2) s)) = 0 => ?_) (fun hc : ¬ ((bI (g_M_in a2 (Int32.ofInt 0) (Int32.ofInt 2) s)) = 0) => ?_)
    · replace h := (if_pos hc).symm.trans h
      cases h
      exact hQ
    · replace h := (if_neg hc).symm.trans h
      obtain ⟨j1, hj, h⟩ := bnd h
      refine go_ix j1 (ix_lt hj) (ix_eq hj) ?_
      cases h
      exact hQ
/-! M_putAside -/
def f_M_putAside (s : S2) : Option S2 := ((f_M_write 91 0 46 (Int32.ofInt 0) s).bind fun q1 => some q1)
theorem c_M_putAside {xs : Nat → Int32} {L d : Nat} {s : S2} {res : S2} {Q : S2 → Option MV → Prop} (h : f_M_putAside s = some res) (hQ : Q res none) : kcall (O3 xs L) (d + 3) k_M_putAside [mR 60 0] s Q := by
  refine kc_of (cd := kd_M_putAside) (mx := 1) (rt := 0) rfl rfl ?_
  intro P hP
  refine mgo_sound hP [] 260 _ _ _ _ _ ?_
  obtain ⟨q1, hq, h⟩ := bnd h
  refine go_call (fun _ hw => c_M_write_91 hq hw) ?_
  cases h
  exact hQ
/-! M_takeBack -/
def f_M_takeBack (s : S2) : Option S2 := ((f_M_read 91 0 46 (Int32.ofInt 0) (Int32.ofInt 1) s).bind fun q1 => ((some (pkS q1 60 0 41 (Int32.ofInt 0))).bind fun s2 => ((some (pkS s2 60 0 42 (Int32.ofInt 0))).bind fun s3 => some s3)))
theorem c_M_takeBack {xs : Nat → Int32} {L d : Nat} {s : S2} {res : S2} {Q : S2 → Option MV → Prop} (h : f_M_takeBack s = some res) (hQ : Q res none) : kcall (O3 xs L) (d + 2) k_M_takeBack [mR 60 0] s Q := by
  refine kc_of (cd := kd_M_takeBack) (mx := 1) (rt := 0) rfl rfl ?_
  intro P hP
  refine mgo_sound hP [] 260 _ _ _ _ _ ?_
  obtain ⟨q1, hq, h⟩ := bnd h
  refine go_call (fun _ hw => c_M_read_91 hq hw) ?_
  replace h := bnds h
  replace h := bnds h
  cases h
  exact hQ
/-! M_areTwo -/
def g_M_areTwo (a1 : Int32) (a2 : Int32) (s : S2) : Bool := (if (bI (g_M_isIsle a1 s)) = 0 then false else (if (bI (g_M_isIsle a2 s)) = 0 then false else (if a1 = a2 then false else true)))
theorem cr_M_areTwo {xs : Nat → Int32} {L d : Nat} {a1 : Int32} {a2 : Int32} {s : S2} {res : Bool} {Q : S2 → Option MV → Prop} (h : g_M_areTwo a1 a2 s = res) (hQ : Q s (some (mI (bI res)))) : kcall (O3 xs L) (d + 3) k_M_areTwo [mR 60 0, mI a1, mI a2] s Q := by
  refine kc_of (cd := kd_M_areTwo) (mx := 3) (rt := 2) rfl rfl ?_
  intro P hP
  refine mgo_sound hP [] 260 _ _ _ _ _ ?_
  refine go_call (fun _ hw => c_M_isIsle hw) ?_
  refine go_br (fun hc : (bI (g_M_isIsle a1 s)) = 0 => ?_) (fun hc : ¬ ((bI (g_M_isIsle a1 s)) = 0) => ?_)
  · replace h := (if_pos hc).symm.trans h
    cases h
    exact ⟨Or.inl rfl, hQ⟩
  · replace h := (if_neg hc).symm.trans h
    refine go_call (fun _ hw => c_M_isIsle hw) ?_
    refine go_br (fun hc : (bI (g_M_isIsle a2 s)) = 0 => ?_) (fun hc : ¬ ((bI (g_M_isIsle a2 s)) = 0) => ?_)
    · replace h := (if_pos hc).symm.trans h
      cases h
      exact ⟨Or.inl rfl, hQ⟩
    · replace h := (if_neg hc).symm.trans h
      refine go_br (fun hc : a1 = a2 => ?_) (fun hc : ¬ (a1 = a2) => ?_)
      · replace h := (if_pos hc).symm.trans h
        cases h
        exact ⟨Or.inl rfl, hQ⟩
      · replace h := (if_neg hc).symm.trans h
        cases h
        exact ⟨Or.inr rfl, hQ⟩
theorem c_M_areTwo {xs : Nat → Int32} {L d : Nat} {a1 : Int32} {a2 : Int32} {s : S2} {Q : S2 → Option MV → Prop} (hQ : Q s (some (mI (bI (g_M_areTwo a1 a2 s))))) : kcall (O3 xs L) (d + 3) k_M_areTwo [mR 60 0, mI a1, mI a2] s Q := cr_M_areTwo rfl hQ
/-! M_writeLook -/
def f_M_writeLook_L150 (k2 : Int32 → Int32 → S2 → Option S2) (x1 : Int32) (x2 : Int32) (y1 : Int32) (y2 : Int32) (s : S2) : Option S2 := ((ix 1464 y1).bind fun j2 => (some (pkS s 94 0 j2 y2)).bind fun s1 => (k2 x1 (x2 + (Int32.ofInt 1)) s1))
def f_M_writeLook_L121 (k2 : Int32 → Int32 → S2 → Option S2) (x1 : Int32) (x2 : Int32) (x3 : Int32) (y1 : Int32) (y2 : Int32) (s : S2) : Option S2 := ((ix 1464 y1).bind fun j2 => (some (pkS s 94 0 j2 y2)).bind fun s1 => (if x3 = 0 then (f_M_writeLook_L150 k2 x1 x2 ((((Int32.ofInt 24) * x1) + ((Int32.ofInt 4) * x2)) + (Int32.ofInt 3)) (Int32.ofInt 0) s1) else ((ix 6 x2).bind fun j3 => (f_M_writeLook_L150 k2 x1 x2 ((((Int32.ofInt 24) * x1) + ((Int32.ofInt 4) * x2)) + (Int32.ofInt 3)) (s1.1 82 0 j3) s1))))
def f_M_writeLook_L87 (k2 : Int32 → Int32 → S2 → Option S2) (x1 : Int32) (x2 : Int32) (x3 : Int32) (y1 : Int32) (y2 : Int32) (s : S2) : Option S2 := ((ix 1464 y1).bind fun j2 => (some (pkS s 94 0 j2 y2)).bind fun s1 => (if x3 = 0 then (f_M_writeLook_L121 k2 x1 x2 x3 ((((Int32.ofInt 24) * x1) + ((Int32.ofInt 4) * x2)) + (Int32.ofInt 2)) (Int32.ofInt 0) s1) else ((ix 6 x2).bind fun j3 => ((ix 6 (s1.1 82 0 j3)).bind fun j4 => (f_M_writeLook_L121 k2 x1 x2 x3 ((((Int32.ofInt 24) * x1) + ((Int32.ofInt 4) * x2)) + (Int32.ofInt 2)) (s1.1 81 0 j4) s1)))))
def f_M_writeLook_L53 (k2 : Int32 → Int32 → S2 → Option S2) (x1 : Int32) (x2 : Int32) (x3 : Int32) (y1 : Int32) (y2 : Int32) (s : S2) : Option S2 := ((ix 1464 y1).bind fun j2 => (some (pkS s 94 0 j2 y2)).bind fun s1 => (if x3 = 0 then (f_M_writeLook_L87 k2 x1 x2 x3 ((((Int32.ofInt 24) * x1) + ((Int32.ofInt 4) * x2)) + (Int32.ofInt 1)) (Int32.ofInt 0) s1) else ((ix 6 x2).bind fun j3 => ((ix 6 (s1.1 82 0 j3)).bind fun j4 => (f_M_writeLook_L87 k2 x1 x2 x3 ((((Int32.ofInt 24) * x1) + ((Int32.ofInt 4) * x2)) + (Int32.ofInt 1)) (s1.1 80 0 j4) s1)))))
def f_M_writeLook_L21 (k2 : Int32 → Int32 → S2 → Option S2) (x1 : Int32) (x2 : Int32) (y0 : Int32) (s : S2) : Option S2 := (if y0 = 0 then (f_M_writeLook_L53 k2 x1 x2 y0 (((Int32.ofInt 24) * x1) + ((Int32.ofInt 4) * x2)) (Int32.ofInt 0) s) else ((ix 6 x2).bind fun j1 => ((ix 6 (s.1 82 0 j1)).bind fun j2 => (f_M_writeLook_L53 k2 x1 x2 y0 (((Int32.ofInt 24) * x1) + ((Int32.ofInt 4) * x2)) (s.1 79 0 j2) s))))
def b_M_writeLook_L2 (k2 : Int32 → Int32 → S2 → Option S2) (x1 : Int32) (x2 : Int32) (s : S2) : Option S2 := (if (Int32.ofInt 6) ≤ x2 then some s else (if (s.1 60 0 28) ≤ x2 then (f_M_writeLook_L21 k2 x1 x2 (Int32.ofInt 0) s) else (f_M_writeLook_L21 k2 x1 x2 (Int32.ofInt 1) s)))
def f_M_writeLook_L2 : Nat → Int32 → Int32 → S2 → Option S2
  | 0 => fun _ _ _ => none
  | n + 1 => b_M_writeLook_L2 (f_M_writeLook_L2 n)
def f_M_writeLook (a1 : Int32) (s : S2) : Option S2 := (f_M_writeLook_L2 FU a1 (Int32.ofInt 0) s)
theorem c_M_writeLook_L150 {xs : Nat → Int32} {L d : Nat} {P : MK S2} {Q : S2 → Option MV → Prop} {res : S2} (hP : MClosed (O3 xs L) (kcall (O3 xs L) (d + 0)) kd_M_writeLook 0 Q P) (hQ : Q res none) {k2 : Int32 → Int32 → S2 → Option S2} (hk2 : ∀ (x1 : Int32) (x2 : Int32) (x3 : Option Int32) (s : S2), k2 x1 x2 s = some res → P 2 [some (mR 60 0), some (mI x1), some (mI x2), oI x3] [] s (0, 0)) (x1 : Int32) (x2 : Int32) (y1 : Int32) (y2 : Int32) (x3 : Int32) (s : S2) (h : f_M_writeLook_L150 k2 x1 x2 y1 y2 s = some res) : P 150 [some (mR 60 0), some (mI x1), some (mI x2), some (mI x3)] [mI y2, mI y1, mR 94 0] s (0, 0) := by
  refine mgo_from hP [2, 21, 53, 87, 121, 150] 260 ?_
  obtain ⟨j2, hj, h⟩ := bnd h
  replace h := bnds h
  refine go_ix j2 (ix_lt hj) (ix_eq hj) ?_
  exact hk2 _ _ (some x3) _ h
theorem c_M_writeLook_L121 {xs : Nat → Int32} {L d : Nat} {P : MK S2} {Q : S2 → Option MV → Prop} {res : S2} (hP : MClosed (O3 xs L) (kcall (O3 xs L) (d + 0)) kd_M_writeLook 0 Q P) (hQ : Q res none) {k2 : Int32 → Int32 → S2 → Option S2} (hk2 : ∀ (x1 : Int32) (x2 : Int32) (x3 : Option Int32) (s : S2), k2 x1 x2 s = some res → P 2 [some (mR 60 0), some (mI x1), some (mI x2), oI x3] [] s (0, 0)) (x1 : Int32) (x2 : Int32) (x3 : Int32) (y1 : Int32) (y2 : Int32) (s : S2) (h : f_M_writeLook_L121 k2 x1 x2 x3 y1 y2 s = some res) : P 121 [some (mR 60 0), some (mI x1), some (mI x2), some (mI x3)] [mI y2, mI y1, mR 94 0] s (0, 0) := by
  refine mgo_from hP [2, 21, 53, 87, 121, 150] 260 ?_
  obtain ⟨j2, hj, h⟩ := bnd h
  replace h := bnds h
  refine go_ix j2 (ix_lt hj) (ix_eq hj) ?_
  refine go_br (fun hc : x3 = 0 => ?_) (fun hc : ¬ (x3 = 0) => ?_)
  · replace h := (if_pos hc).symm.trans h
    exact c_M_writeLook_L150 hP hQ hk2 _ _ _ _ _ _ h
  · replace h := (if_neg hc).symm.trans h
    obtain ⟨j3, hj, h⟩ := bnd h
    refine go_ix j3 (ix_lt hj) (ix_eq hj) ?_
    exact c_M_writeLook_L150 hP hQ hk2 _ _ _ _ _ _ h
theorem c_M_writeLook_L87 {xs : Nat → Int32} {L d : Nat} {P : MK S2} {Q : S2 → Option MV → Prop} {res : S2} (hP : MClosed (O3 xs L) (kcall (O3 xs L) (d + 0)) kd_M_writeLook 0 Q P) (hQ : Q res none) {k2 : Int32 → Int32 → S2 → Option S2} (hk2 : ∀ (x1 : Int32) (x2 : Int32) (x3 : Option Int32) (s : S2), k2 x1 x2 s = some res → P 2 [some (mR 60 0), some (mI x1), some (mI x2), oI x3] [] s (0, 0)) (x1 : Int32) (x2 : Int32) (x3 : Int32) (y1 : Int32) (y2 : Int32) (s : S2) (h : f_M_writeLook_L87 k2 x1 x2 x3 y1 y2 s = some res) : P 87 [some (mR 60 0), some (mI x1), some (mI x2), some (mI x3)] [mI y2, mI y1, mR 94 0] s (0, 0) := by
  refine mgo_from hP [2, 21, 53, 87, 121, 150] 260 ?_
  obtain ⟨j2, hj, h⟩ := bnd h
  replace h := bnds h
  refine go_ix j2 (ix_lt hj) (ix_eq hj) ?_
  refine go_br (fun hc : x3 = 0 => ?_) (fun hc : ¬ (x3 = 0) => ?_)
  · replace h := (if_pos hc).symm.trans h
    exact c_M_writeLook_L121 hP hQ hk2 _ _ _ _ _ _ h
  · replace h := (if_neg hc).symm.trans h
    obtain ⟨j3, hj, h⟩ := bnd h
    refine go_ix j3 (ix_lt hj) (ix_eq hj) ?_
    obtain ⟨j4, hj, h⟩ := bnd h
    refine go_ix j4 (ix_lt hj) (ix_eq hj) ?_
    exact c_M_writeLook_L121 hP hQ hk2 _ _ _ _ _ _ h
theorem c_M_writeLook_L53 {xs : Nat → Int32} {L d : Nat} {P : MK S2} {Q : S2 → Option MV → Prop} {res : S2} (hP : MClosed (O3 xs L) (kcall (O3 xs L) (d + 0)) kd_M_writeLook 0 Q P) (hQ : Q res none) {k2 : Int32 → Int32 → S2 → Option S2} (hk2 : ∀ (x1 : Int32) (x2 : Int32) (x3 : Option Int32) (s : S2), k2 x1 x2 s = some res → P 2 [some (mR 60 0), some (mI x1), some (mI x2), oI x3] [] s (0, 0)) (x1 : Int32) (x2 : Int32) (x3 : Int32) (y1 : Int32) (y2 : Int32) (s : S2) (h : f_M_writeLook_L53 k2 x1 x2 x3 y1 y2 s = some res) : P 53 [some (mR 60 0), some (mI x1), some (mI x2), some (mI x3)] [mI y2, mI y1, mR 94 0] s (0, 0) := by
  refine mgo_from hP [2, 21, 53, 87, 121, 150] 260 ?_
  obtain ⟨j2, hj, h⟩ := bnd h
  replace h := bnds h
  refine go_ix j2 (ix_lt hj) (ix_eq hj) ?_
  refine go_br (fun hc : x3 = 0 => ?_) (fun hc : ¬ (x3 = 0) => ?_)
  · replace h := (if_pos hc).symm.trans h
    exact c_M_writeLook_L87 hP hQ hk2 _ _ _ _ _ _ h
  · replace h := (if_neg hc).symm.trans h
    obtain ⟨j3, hj, h⟩ := bnd h
    refine go_ix j3 (ix_lt hj) (ix_eq hj) ?_
    obtain ⟨j4, hj, h⟩ := bnd h
    refine go_ix j4 (ix_lt hj) (ix_eq hj) ?_
    exact c_M_writeLook_L87 hP hQ hk2 _ _ _ _ _ _ h
theorem c_M_writeLook_L21 {xs : Nat → Int32} {L d : Nat} {P : MK S2} {Q : S2 → Option MV → Prop} {res : S2} (hP : MClosed (O3 xs L) (kcall (O3 xs L) (d + 0)) kd_M_writeLook 0 Q P) (hQ : Q res none) {k2 : Int32 → Int32 → S2 → Option S2} (hk2 : ∀ (x1 : Int32) (x2 : Int32) (x3 : Option Int32) (s : S2), k2 x1 x2 s = some res → P 2 [some (mR 60 0), some (mI x1), some (mI x2), oI x3] [] s (0, 0)) (x1 : Int32) (x2 : Int32) (y0 : Int32) (x3 : Option Int32) (s : S2) (h : f_M_writeLook_L21 k2 x1 x2 y0 s = some res) : P 21 [some (mR 60 0), some (mI x1), some (mI x2), oI x3] [mI y0] s (0, 0) := by
  refine mgo_from hP [2, 21, 53, 87, 121, 150] 260 ?_
  refine go_br (fun hc : y0 = 0 => ?_) (fun hc : ¬ (y0 = 0) => ?_)
  · replace h := (if_pos hc).symm.trans h
    exact c_M_writeLook_L53 hP hQ hk2 _ _ _ _ _ _ h
  · replace h := (if_neg hc).symm.trans h
    obtain ⟨j1, hj, h⟩ := bnd h
    refine go_ix j1 (ix_lt hj) (ix_eq hj) ?_
    obtain ⟨j2, hj, h⟩ := bnd h
    refine go_ix j2 (ix_lt hj) (ix_eq hj) ?_
    exact c_M_writeLook_L53 hP hQ hk2 _ _ _ _ _ _ h
theorem cb_M_writeLook_L2 {xs : Nat → Int32} {L d : Nat} {P : MK S2} {Q : S2 → Option MV → Prop} {res : S2} (hP : MClosed (O3 xs L) (kcall (O3 xs L) (d + 0)) kd_M_writeLook 0 Q P) (hQ : Q res none) {k2 : Int32 → Int32 → S2 → Option S2} (hk2 : ∀ (x1 : Int32) (x2 : Int32) (x3 : Option Int32) (s : S2), k2 x1 x2 s = some res → P 2 [some (mR 60 0), some (mI x1), some (mI x2), oI x3] [] s (0, 0)) (x1 : Int32) (x2 : Int32) (x3 : Option Int32) (s : S2) (h : b_M_writeLook_L2 k2 x1 x2 s = some res) : P 2 [some (mR 60 0), some (mI x1), some (mI x2), oI x3] [] s (0, 0) := by
  refine mgo_from hP [2, 21, 53, 87, 121, 150] 260 ?_
  refine go_br (fun hc : (Int32.ofInt 6) ≤ x2 => ?_) (fun hc : ¬ ((Int32.ofInt 6) ≤ x2) => ?_)
  · replace h := (if_pos hc).symm.trans h
    cases h
    exact hQ
  · replace h := (if_neg hc).symm.trans h
    refine go_br (fun hc : (s.1 60 0 28) ≤ x2 => ?_) (fun hc : ¬ ((s.1 60 0 28) ≤ x2) => ?_)
    · replace h := (if_pos hc).symm.trans h
      exact c_M_writeLook_L21 hP hQ hk2 _ _ _ x3 _ h
    · replace h := (if_neg hc).symm.trans h
      exact c_M_writeLook_L21 hP hQ hk2 _ _ _ x3 _ h
theorem c_M_writeLook_L2 {xs : Nat → Int32} {L d : Nat} {P : MK S2} {Q : S2 → Option MV → Prop} {res : S2} (hP : MClosed (O3 xs L) (kcall (O3 xs L) (d + 0)) kd_M_writeLook 0 Q P) (hQ : Q res none) : ∀ (fu : Nat) (x1 : Int32) (x2 : Int32) (x3 : Option Int32) (s : S2), f_M_writeLook_L2 fu x1 x2 s = some res → P 2 [some (mR 60 0), some (mI x1), some (mI x2), oI x3] [] s (0, 0)
  | 0, _, _, _, _, h => by cases h
  | fu + 1, x1, x2, x3, s, h => cb_M_writeLook_L2 hP hQ (c_M_writeLook_L2 hP hQ fu) x1 x2 x3 s h
theorem c_M_writeLook {xs : Nat → Int32} {L d : Nat} {a1 : Int32} {s : S2} {res : S2} {Q : S2 → Option MV → Prop} (h : f_M_writeLook a1 s = some res) (hQ : Q res none) : kcall (O3 xs L) (d + 1) k_M_writeLook [mR 60 0, mI a1] s Q := by
  refine kc_of (cd := kd_M_writeLook) (mx := 4) (rt := 0) rfl rfl ?_
  intro P hP
  refine mgo_sound hP [2, 21, 53, 87, 121, 150] 260 _ _ _ _ _ ?_
  exact c_M_writeLook_L2 hP hQ FU _ _ none _ h
/-! M_areAlike -/
def b_M_areAlike_L2 (k2 : Int32 → Int32 → Int32 → S2 → Option Bool) (x1 : Int32) (x2 : Int32) (x3 : Int32) (s : S2) : Option Bool := (if (Int32.ofInt 24) ≤ x3 then some true else ((ix 1464 (((Int32.ofInt 24) * x1) + x3)).bind fun j1 => ((ix 1464 (((Int32.ofInt 24) * x2) + x3)).bind fun j2 => (if (s.1 94 0 j1) = (s.1 94 0 j2) then (k2 x1 x2 (x3 + (Int32.ofInt 1)) s) else some false))))
def f_M_areAlike_L2 : Nat → Int32 → Int32 → Int32 → S2 → Option Bool
  | 0 => fun _ _ _ _ => none
  | n + 1 => b_M_areAlike_L2 (f_M_areAlike_L2 n)
def f_M_areAlike (a1 : Int32) (a2 : Int32) (s : S2) : Option Bool := (f_M_areAlike_L2 FU a1 a2 (Int32.ofInt 0) s)
theorem cb_M_areAlike_L2 {xs : Nat → Int32} {L d : Nat} {P : MK S2} {Q : S2 → Option MV → Prop} {res : Bool} {s : S2} (hP : MClosed (O3 xs L) (kcall (O3 xs L) (d + 0)) kd_M_areAlike 2 Q P) (hQ : Q s (some (mI (bI res)))) {k2 : Int32 → Int32 → Int32 → S2 → Option Bool} (hk2 : ∀ (x1 : Int32) (x2 : Int32) (x3 : Int32), k2 x1 x2 x3 s = some res → P 2 [some (mR 60 0), some (mI x1), some (mI x2), some (mI x3)] [] s (0, 0)) (x1 : Int32) (x2 : Int32) (x3 : Int32) (h : b_M_areAlike_L2 k2 x1 x2 x3 s = some res) : P 2 [some (mR 60 0), some (mI x1), some (mI x2), some (mI x3)] [] s (0, 0) := by
  refine mgo_from hP [2] 260 ?_
  refine go_br (fun hc : (Int32.ofInt 24) ≤ x3 => ?_) (fun hc : ¬ ((Int32.ofInt 24) ≤ x3) => ?_)
  · replace h := (if_pos hc).symm.trans h
    cases h
    exact ⟨Or.inr rfl, hQ⟩
  · replace h := (if_neg hc).symm.trans h
    obtain ⟨j1, hj, h⟩ := bnd h
    refine go_ix j1 (ix_lt hj) (ix_eq hj) ?_
    obtain ⟨j2, hj, h⟩ := bnd h
    refine go_ix j2 (ix_lt hj) (ix_eq hj) ?_
    refine go_br (fun hc : (s.1 94 0 j1) = (s.1 94 0 j2) => ?_) (fun hc : ¬ ((s.1 94 0 j1) = (s.1 94 0 j2)) => ?_)
    · replace h := (if_pos hc).symm.trans h
      exact hk2 _ _ _ h
    · replace h := (if_neg hc).symm.trans h
      cases h
      exact ⟨Or.inl rfl, hQ⟩
theorem c_M_areAlike_L2 {xs : Nat → Int32} {L d : Nat} {P : MK S2} {Q : S2 → Option MV → Prop} {res : Bool} {s : S2} (hP : MClosed (O3 xs L) (kcall (O3 xs L) (d + 0)) kd_M_areAlike 2 Q P) (hQ : Q s (some (mI (bI res)))) : ∀ (fu : Nat) (x1 : Int32) (x2 : Int32) (x3 : Int32), f_M_areAlike_L2 fu x1 x2 x3 s = some res → P 2 [some (mR 60 0), some (mI x1), some (mI x2), some (mI x3)] [] s (0, 0)
  | 0, _, _, _, h => by cases h
  | fu + 1, x1, x2, x3, h => cb_M_areAlike_L2 hP hQ (c_M_areAlike_L2 hP hQ fu) x1 x2 x3 h
theorem c_M_areAlike {xs : Nat → Int32} {L d : Nat} {a1 : Int32} {a2 : Int32} {s : S2} {res : Bool} {Q : S2 → Option MV → Prop} (h : f_M_areAlike a1 a2 s = some res) (hQ : Q s (some (mI (bI res)))) : kcall (O3 xs L) (d + 1) k_M_areAlike [mR 60 0, mI a1, mI a2] s Q := by
  refine kc_of (cd := kd_M_areAlike) (mx := 4) (rt := 2) rfl rfl ?_
  intro P hP
  refine mgo_sound hP [2] 260 _ _ _ _ _ ?_
  exact c_M_areAlike_L2 hP hQ FU _ _ _ h
/-! M_areCodes -/
def g_M_areCodes (a1 : Int32) (s : S2) : Bool := (if a1 < 0 then false else (if (Int32.ofInt 100) ≤ a1 then false else (if (bI (g_M_areTwo (a1 / (Int32.ofInt 10)) (jrem a1 (Int32.ofInt 10)) s)) = 0 then false else true)))
theorem cr_M_areCodes {xs : Nat → Int32} {L d : Nat} {a1 : Int32} {s : S2} {res : Bool} {Q : S2 → Option MV → Prop} (h : g_M_areCodes a1 s = res) (hQ : Q s (some (mI (bI res)))) : kcall (O3 xs L) (d + 4) k_M_areCodes [mR 60 0, mI a1] s Q := by
  refine kc_of (cd := kd_M_areCodes) (mx := 2) (rt := 2) rfl rfl ?_
  intro P hP
  refine mgo_sound hP [] 260 _ _ _ _ _ ?_
  refine go_br (fun hc : a1 < 0 => ?_) (fun hc : ¬ (a1 < 0) => ?_)
  · replace h := (if_pos hc).symm.trans h
    cases h
    exact ⟨Or.inl rfl, hQ⟩
  · replace h := (if_neg hc).symm.trans h
    refine go_br (fun hc : (Int32.ofInt 100) ≤ a1 => ?_) (fun hc : ¬ ((Int32.ofInt 100) ≤ a1) => ?_)
    · replace h := (if_pos hc).symm.trans h
      cases h
      exact ⟨Or.inl rfl, hQ⟩
    · replace h := (if_neg hc).symm.trans h
      refine go_and (by decide) ?_
      refine go_and (by decide) ?_
      refine go_call (fun _ hw => c_M_areTwo hw) ?_
      refine go_br (fun hc : (bI (g_M_areTwo (a1 / (Int32.ofInt 10)) (jrem a1 (Int32.ofInt 10)) s)) = 0 => ?_) (fun hc : ¬ ((bI (g_M_areTwo (a1 / (Int32.ofInt 10)) (jrem a1 (Int32.ofInt 10)) s)) = 0) => ?_)
      · replace h := (if_pos hc).symm.trans h
        cases h
        exact ⟨Or.inl rfl, hQ⟩
      · replace h := (if_neg hc).symm.trans h
        cases h
        exact ⟨Or.inr rfl, hQ⟩
theorem c_M_areCodes {xs : Nat → Int32} {L d : Nat} {a1 : Int32} {s : S2} {Q : S2 → Option MV → Prop} (hQ : Q s (some (mI (bI (g_M_areCodes a1 s))))) : kcall (O3 xs L) (d + 4) k_M_areCodes [mR 60 0, mI a1] s Q := cr_M_areCodes rfl hQ
/-! M_deal -/
def f_M_deal (a1 : Int32) (a2 : Int32) (a3 : Int32) (a4 : Int32) (s : S2) : Option S2 := ((ix 44 (((Int32.ofInt 4) * ((s.1 60 0 29) + (s.1 60 0 42))) + (Int32.ofInt 0))).bind fun j2 => (some (pkS s 77 0 j2 a1)).bind fun s1 => ((ix 44 (((Int32.ofInt 4) * ((s.1 60 0 29) + (s.1 60 0 42))) + (Int32.ofInt 1))).bind fun j4 => (some (pkS s1 77 0 j4 a2)).bind fun s3 => ((ix 44 (((Int32.ofInt 4) * ((s.1 60 0 29) + (s.1 60 0 42))) + (Int32.ofInt 2))).bind fun j6 => (some (pkS s3 77 0 j6 a3)).bind fun s5 => ((ix 44 (((Int32.ofInt 4) * ((s.1 60 0 29) + (s.1 60 0 42))) + (Int32.ofInt 3))).bind fun j8 => (some (pkS s5 77 0 j8 a4)).bind fun s7 => ((some (pkS s7 60 0 42 ((s7.1 60 0 42) + (Int32.ofInt 1)))).bind fun s9 => some s9)))))
set_option maxRecDepth 20000 in
set_option maxHeartbeats 4000000 in
theorem c_M_deal {xs : Nat → Int32} {L d : Nat} {a1 : Int32} {a2 : Int32} {a3 : Int32} {a4 : Int32} {s : S2} {res : S2} {Q : S2 → Option MV → Prop} (h : f_M_deal a1 a2 a3 a4 s = some res) (hQ : Q res none) : kcall (O3 xs L) (d + 1) k_M_deal [mR 60 0, mI a1, mI a2, mI a3, mI a4] s Q := by
  refine kc_of (cd := kd_M_deal) (mx := 6) (rt := 0) rfl rfl ?_
  intro P hP
  refine mgo_sound hP [] 260 _ _ _ _ _ ?_
  obtain ⟨j2, hj, h⟩ := bnd h
  replace h := bnds h
  refine go_ix j2 (ix_lt hj) (ix_eq hj) ?_
  obtain ⟨j4, hj, h⟩ := bnd h
  replace h := bnds h
  refine go_ix j4 (ix_lt hj) (ix_eq hj) ?_
  obtain ⟨j6, hj, h⟩ := bnd h
  replace h := bnds h
  refine go_ix j6 (ix_lt hj) (ix_eq hj) ?_
  obtain ⟨j8, hj, h⟩ := bnd h
  replace h := bnds h
  refine go_ix j8 (ix_lt hj) (ix_eq hj) ?_
  replace h := bnds h
  cases h
  exact hQ
/-! M_chart -/
def f_M_chart (a1 : Int32) (a2 : Int32) (a3 : Int32) (a4 : Int32) (s : S2) : Option (S2 × Int32) := (if (bI (g_M_isIsle a2 s)) = 0 then some (s, (Int32.ofInt (-1))) else (if (bI (g_M_in a1 (Int32.ofInt 1) (Int32.ofInt 20) s)) = 0 then some (s, (Int32.ofInt (-1))) else (if (bI (g_M_in a3 (Int32.ofInt (-999)) (Int32.ofInt 999) s)) = 0 then some (s, (Int32.ofInt (-1))) else (if (bI (g_M_in a4 (Int32.ofInt (-999)) (Int32.ofInt 999) s)) = 0 then some (s, (Int32.ofInt (-1))) else (if (s.1 60 0 76) = (Int32.ofInt 20) then some (s, (Int32.ofInt (-1))) else ((ix 20 (s.1 60 0 76)).bind fun j2 => (some (pkS s 97 0 j2 a1)).bind fun s1 => ((ix 20 (s1.1 60 0 76)).bind fun j4 => (some (pkS s1 98 0 j4 a2)).bind fun s3 => ((ix 20 (s3.1 60 0 76)).bind fun j6 => (some (pkS s3 99 0 j6 a3)).bind fun s5 => ((ix 20 (s5.1 60 0 76)).bind fun j8 => (some (pkS s5 100 0 j8 a4)).bind fun s7 => ((some (pkS s7 60 0 76 ((s7.1 60 0 76) + (Int32.ofInt 1)))).bind fun s9 => some (s9, (s9.1 60 0 76))))))))))))
set_option maxRecDepth 20000 in
set_option maxHeartbeats 4000000 in
theorem c_M_chart {xs : Nat → Int32} {L d : Nat} {a1 : Int32} {a2 : Int32} {a3 : Int32} {a4 : Int32} {s : S2} {res : S2 × Int32} {Q : S2 → Option MV → Prop} (h : f_M_chart a1 a2 a3 a4 s = some res) (hQ : Q res.1 (some (mI res.2))) : kcall (O3 xs L) (d + 3) k_M_chart [mR 60 0, mI a1, mI a2, mI a3, mI a4] s Q := by
  refine kc_of (cd := kd_M_chart) (mx := 5) (rt := 1) rfl rfl ?_
  intro P hP
  refine mgo_sound hP [] 260 _ _ _ _ _ ?_
  refine go_call (fun _ hw => c_M_isIsle hw) ?_
  refine go_br (fun hc : (bI (g_M_isIsle a2 s)) = 0 => ?_) (fun hc : ¬ ((bI (g_M_isIsle a2 s)) = 0) => ?_)
  · replace h := (if_pos hc).symm.trans h
    cases h
    exact hQ
  · replace h := (if_neg hc).symm.trans h
    refine go_call (fun _ hw => c_M_in hw) ?_
    refine go_br (fun hc : (bI (g_M_in a1 (Int32.ofInt 1) (Int32.ofInt 20) s)) = 0 => ?_) (fun hc : ¬ ((bI (g_M_in a1 (Int32.ofInt 1) (Int32.ofInt 20) s)) = 0) => ?_)
    · replace h := (if_pos hc).symm.trans h
      cases h
      exact hQ
    · replace h := (if_neg hc).symm.trans h
      refine go_call (fun _ hw => c_M_in hw) ?_
      refine go_br (fun hc : (bI (g_M_in a3 (Int32.ofInt (-999)) (Int32.ofInt 999) s)) = 0 => ?_) (fun hc : ¬ ((bI (g_M_in a3 (Int32.ofInt (-999)) (Int32.ofInt 999) s)) = 0) => ?_)
      · replace h := (if_pos hc).symm.trans h
        cases h
        exact hQ
      · replace h := (if_neg hc).symm.trans h
        refine go_call (fun _ hw => c_M_in hw) ?_
        refine go_br (fun hc : (bI (g_M_in a4 (Int32.ofInt (-999)) (Int32.ofInt 999) s)) = 0 => ?_) (fun hc : ¬ ((bI (g_M_in a4 (Int32.ofInt (-999)) (Int32.ofInt 999) s)) = 0) => ?_)
        · replace h := (if_pos hc).symm.trans h
          cases h
          exact hQ
        · replace h := (if_neg hc).symm.trans h
          refine go_brn (fun hc : ¬ ((s.1 60 0 76) = (Int32.ofInt 20)) => ?_) (fun hc : (s.1 60 0 76) = (Int32.ofInt 20) => ?_)
          · replace h := (if_neg hc).symm.trans h
            obtain ⟨j2, hj, h⟩ := bnd h
            replace h := bnds h
            refine go_ix j2 (ix_lt hj) (ix_eq hj) ?_
            obtain ⟨j4, hj, h⟩ := bnd h
            replace h := bnds h
            refine go_ix j4 (ix_lt hj) (ix_eq hj) ?_
            obtain ⟨j6, hj, h⟩ := bnd h
            replace h := bnds h
            refine go_ix j6 (ix_lt hj) (ix_eq hj) ?_
            obtain ⟨j8, hj, h⟩ := bnd h
            replace h := bnds h
            refine go_ix j8 (ix_lt hj) (ix_eq hj) ?_
            replace h := bnds h
            cases h
            exact hQ
          · replace h := (if_pos hc).symm.trans h
            cases h
            exact hQ
/-! M_lastChart -/
def b_M_lastChart_L4 (k4 : Int32 → Int32 → S2 → Option Int32) (x1 : Int32) (x2 : Int32) (s : S2) : Option Int32 := (if (s.1 60 0 76) ≤ x2 then some x1 else ((ix 20 x2).bind fun j1 => (k4 (jmax x1 (s.1 97 0 j1)) (x2 + (Int32.ofInt 1)) s)))
def f_M_lastChart_L4 : Nat → Int32 → Int32 → S2 → Option Int32
  | 0 => fun _ _ _ => none
  | n + 1 => b_M_lastChart_L4 (f_M_lastChart_L4 n)
def f_M_lastChart (s : S2) : Option Int32 := (f_M_lastChart_L4 FU (Int32.ofInt 0) (Int32.ofInt 0) s)
theorem cb_M_lastChart_L4 {xs : Nat → Int32} {L d : Nat} {P : MK S2} {Q : S2 → Option MV → Prop} {res : Int32} {s : S2} (hP : MClosed (O3 xs L) (kcall (O3 xs L) (d + 0)) kd_M_lastChart 1 Q P) (hQ : Q s (some (mI res))) {k4 : Int32 → Int32 → S2 → Option Int32} (hk4 : ∀ (x1 : Int32) (x2 : Int32), k4 x1 x2 s = some res → P 4 [some (mR 60 0), some (mI x1), some (mI x2)] [] s (0, 0)) (x1 : Int32) (x2 : Int32) (h : b_M_lastChart_L4 k4 x1 x2 s = some res) : P 4 [some (mR 60 0), some (mI x1), some (mI x2)] [] s (0, 0) := by
  refine mgo_from hP [4] 260 ?_
  refine go_br (fun hc : (s.1 60 0 76) ≤ x2 => ?_) (fun hc : ¬ ((s.1 60 0 76) ≤ x2) => ?_)
  · replace h := (if_pos hc).symm.trans h
    cases h
    exact hQ
  · replace h := (if_neg hc).symm.trans h
    obtain ⟨j1, hj, h⟩ := bnd h
    refine go_ix j1 (ix_lt hj) (ix_eq hj) ?_
    exact hk4 _ _ h
theorem c_M_lastChart_L4 {xs : Nat → Int32} {L d : Nat} {P : MK S2} {Q : S2 → Option MV → Prop} {res : Int32} {s : S2} (hP : MClosed (O3 xs L) (kcall (O3 xs L) (d + 0)) kd_M_lastChart 1 Q P) (hQ : Q s (some (mI res))) : ∀ (fu : Nat) (x1 : Int32) (x2 : Int32), f_M_lastChart_L4 fu x1 x2 s = some res → P 4 [some (mR 60 0), some (mI x1), some (mI x2)] [] s (0, 0)
  | 0, _, _, h => by cases h
  | fu + 1, x1, x2, h => cb_M_lastChart_L4 hP hQ (c_M_lastChart_L4 hP hQ fu) x1 x2 h
theorem c_M_lastChart {xs : Nat → Int32} {L d : Nat} {s : S2} {res : Int32} {Q : S2 → Option MV → Prop} (h : f_M_lastChart s = some res) (hQ : Q s (some (mI res))) : kcall (O3 xs L) (d + 1) k_M_lastChart [mR 60 0] s Q := by
  refine kc_of (cd := kd_M_lastChart) (mx := 3) (rt := 1) rfl rfl ?_
  intro P hP
  refine mgo_sound hP [4] 260 _ _ _ _ _ ?_
  exact c_M_lastChart_L4 hP hQ FU _ _ h
/-! M_isNear -/
def f_M_isNear (a1 : Int32) (a2 : Int32) (a3 : Int32) (s : S2) : Option Bool := ((f_M_farOf a1 a2 s).bind fun q1 => (if a3 < q1 then some false else some true))
theorem c_M_isNear {xs : Nat → Int32} {L d : Nat} {a1 : Int32} {a2 : Int32} {a3 : Int32} {s : S2} {res : Bool} {Q : S2 → Option MV → Prop} (h : f_M_isNear a1 a2 a3 s = some res) (hQ : Q s (some (mI (bI res)))) : kcall (O3 xs L) (d + 2) k_M_isNear [mR 60 0, mI a1, mI a2, mI a3] s Q := by
  refine kc_of (cd := kd_M_isNear) (mx := 4) (rt := 2) rfl rfl ?_
  intro P hP
  refine mgo_sound hP [] 260 _ _ _ _ _ ?_
  obtain ⟨q1, hq, h⟩ := bnd h
  refine go_call (fun _ hw => c_M_farOf hq hw) ?_
  refine go_br (fun hc : a3 < q1 => ?_) (fun hc : ¬ (a3 < q1) => ?_)
  · replace h := (if_pos hc).symm.trans h
    cases h
    exact ⟨Or.inl rfl, hQ⟩
  · replace h := (if_neg hc).symm.trans h
    cases h
    exact ⟨Or.inr rfl, hQ⟩
/-! M_fromAll -/
def f_M_fromAll_L82 (k4 : Int32 → Int32 → Int32 → S2 → Option Int32) (x1 : Int32) (x3 : Int32) (y0 : Int32) (y1 : Int32) (s : S2) : Option Int32 := (k4 x1 (y0 ||| y1) (x3 + (Int32.ofInt 1)) s)
def f_M_fromAll_L61 (k4 : Int32 → Int32 → Int32 → S2 → Option Int32) (k22 : Int32 → Int32 → Int32 → Int32 → Int32 → S2 → Option Int32) (x1 : Int32) (x2 : Int32) (x3 : Int32) (x5 : Int32) (y0 : Int32) (s : S2) : Option Int32 := (k22 x1 x2 x3 y0 (x5 + (Int32.ofInt 1)) s)
def f_M_fromAll_L60 (k4 : Int32 → Int32 → Int32 → S2 → Option Int32) (k22 : Int32 → Int32 → Int32 → Int32 → Int32 → S2 → Option Int32) (x1 : Int32) (x2 : Int32) (x3 : Int32) (x5 : Int32) (s : S2) : Option Int32 := (f_M_fromAll_L61 k4 k22 x1 x2 x3 x5 (Int32.ofInt 0) s)
def f_M_fromAll_L56 (k4 : Int32 → Int32 → Int32 → S2 → Option Int32) (k22 : Int32 → Int32 → Int32 → Int32 → Int32 → S2 → Option Int32) (x1 : Int32) (x2 : Int32) (x3 : Int32) (x5 : Int32) (s : S2) : Option Int32 := (f_M_fromAll_L61 k4 k22 x1 x2 x3 x5 (Int32.ofInt 1) s)
def b_M_fromAll_L22 (k4 : Int32 → Int32 → Int32 → S2 → Option Int32) (k22 : Int32 → Int32 → Int32 → Int32 → Int32 → S2 → Option Int32) (x1 : Int32) (x2 : Int32) (x3 : Int32) (x4 : Int32) (x5 : Int32) (s : S2) : Option Int32 := (if (s.1 60 0 28) ≤ x5 then (if x4 = 0 then (f_M_fromAll_L82 k4 x1 x3 x2 (Int32.ofInt 0) s) else (f_M_fromAll_L82 k4 x1 x3 x2 ((Int32.ofInt 1) <<< (x3 &&& 31)) s)) else (if x4 = 0 then (f_M_fromAll_L60 k4 k22 x1 x2 x3 x5 s) else ((f_M_isHead x5 s).bind fun q1 => (if (bI q1) = 0 then (f_M_fromAll_L56 k4 k22 x1 x2 x3 x5 s) else ((f_M_isNear x3 x5 x1 s).bind fun q2 => (if (bI q2) = 0 then (f_M_fromAll_L60 k4 k22 x1 x2 x3 x5 s) else (f_M_fromAll_L56 k4 k22 x1 x2 x3 x5 s)))))))
def f_M_fromAll_L22 (k4 : Int32 → Int32 → Int32 → S2 → Option Int32) : Nat → Int32 → Int32 → Int32 → Int32 → Int32 → S2 → Option Int32
  | 0 => fun _ _ _ _ _ _ => none
  | n + 1 => b_M_fromAll_L22 k4 (f_M_fromAll_L22 k4 n)
def b_M_fromAll_L4 (k4 : Int32 → Int32 → Int32 → S2 → Option Int32) (x1 : Int32) (x2 : Int32) (x3 : Int32) (s : S2) : Option Int32 := (if (s.1 60 0 28) ≤ x3 then some x2 else ((f_M_isHead x3 s).bind fun q1 => (f_M_fromAll_L22 k4 FU x1 x2 x3 (bI q1) (Int32.ofInt 0) s)))
def f_M_fromAll_L4 : Nat → Int32 → Int32 → Int32 → S2 → Option Int32
  | 0 => fun _ _ _ _ => none
  | n + 1 => b_M_fromAll_L4 (f_M_fromAll_L4 n)
def f_M_fromAll (a1 : Int32) (s : S2) : Option Int32 := (f_M_fromAll_L4 FU a1 (Int32.ofInt 0) (Int32.ofInt 0) s)
theorem c_M_fromAll_L82 {xs : Nat → Int32} {L d : Nat} {P : MK S2} {Q : S2 → Option MV → Prop} {res : Int32} {s : S2} (hP : MClosed (O3 xs L) (kcall (O3 xs L) (d + 3)) kd_M_fromAll 1 Q P) (hQ : Q s (some (mI res))) {k4 : Int32 → Int32 → Int32 → S2 → Option Int32} (hk4 : ∀ (x1 : Int32) (x2 : Int32) (x3 : Int32) (x4 : Option Int32) (x5 : Option Int32), k4 x1 x2 x3 s = some res → P 4 [some (mR 60 0), some (mI x1), some (mI x2), some (mI x3), oI x4, oI x5] [] s (0, 0)) (x1 : Int32) (x3 : Int32) (y0 : Int32) (y1 : Int32) (x2 : Int32) (x4 : Int32) (x5 : Int32) (h : f_M_fromAll_L82 k4 x1 x3 y0 y1 s = some res) : P 82 [some (mR 60 0), some (mI x1), some (mI x2), some (mI x3), some (mI x4), some (mI x5)] [mI y1, mI y0] s (0, 0) := by
  refine mgo_from hP [4, 22, 56, 60, 61, 82] 260 ?_
  exact hk4 _ _ _ (some x4) (some x5) h
theorem c_M_fromAll_L61 {xs : Nat → Int32} {L d : Nat} {P : MK S2} {Q : S2 → Option MV → Prop} {res : Int32} {s : S2} (hP : MClosed (O3 xs L) (kcall (O3 xs L) (d + 3)) kd_M_fromAll 1 Q P) (hQ : Q s (some (mI res))) {k4 : Int32 → Int32 → Int32 → S2 → Option Int32} {k22 : Int32 → Int32 → Int32 → Int32 → Int32 → S2 → Option Int32} (hk4 : ∀ (x1 : Int32) (x2 : Int32) (x3 : Int32) (x4 : Option Int32) (x5 : Option Int32), k4 x1 x2 x3 s = some res → P 4 [some (mR 60 0), some (mI x1), some (mI x2), some (mI x3), oI x4, oI x5] [] s (0, 0)) (hk22 : ∀ (x1 : Int32) (x2 : Int32) (x3 : Int32) (x4 : Int32) (x5 : Int32), k22 x1 x2 x3 x4 x5 s = some res → P 22 [some (mR 60 0), some (mI x1), some (mI x2), some (mI x3), some (mI x4), some (mI x5)] [] s (0, 0)) (x1 : Int32) (x2 : Int32) (x3 : Int32) (x5 : Int32) (y0 : Int32) (x4 : Int32) (h : f_M_fromAll_L61 k4 k22 x1 x2 x3 x5 y0 s = some res) : P 61 [some (mR 60 0), some (mI x1), some (mI x2), some (mI x3), some (mI x4), some (mI x5)] [mI y0] s (0, 0) := by
  refine mgo_from hP [4, 22, 56, 60, 61, 82] 260 ?_
  exact hk22 _ _ _ _ _ h
theorem c_M_fromAll_L60 {xs : Nat → Int32} {L d : Nat} {P : MK S2} {Q : S2 → Option MV → Prop} {res : Int32} {s : S2} (hP : MClosed (O3 xs L) (kcall (O3 xs L) (d + 3)) kd_M_fromAll 1 Q P) (hQ : Q s (some (mI res))) {k4 : Int32 → Int32 → Int32 → S2 → Option Int32} {k22 : Int32 → Int32 → Int32 → Int32 → Int32 → S2 → Option Int32} (hk4 : ∀ (x1 : Int32) (x2 : Int32) (x3 : Int32) (x4 : Option Int32) (x5 : Option Int32), k4 x1 x2 x3 s = some res → P 4 [some (mR 60 0), some (mI x1), some (mI x2), some (mI x3), oI x4, oI x5] [] s (0, 0)) (hk22 : ∀ (x1 : Int32) (x2 : Int32) (x3 : Int32) (x4 : Int32) (x5 : Int32), k22 x1 x2 x3 x4 x5 s = some res → P 22 [some (mR 60 0), some (mI x1), some (mI x2), some (mI x3), some (mI x4), some (mI x5)] [] s (0, 0)) (x1 : Int32) (x2 : Int32) (x3 : Int32) (x5 : Int32) (x4 : Int32) (h : f_M_fromAll_L60 k4 k22 x1 x2 x3 x5 s = some res) : P 60 [some (mR 60 0), some (mI x1), some (mI x2), some (mI x3), some (mI x4), some (mI x5)] [] s (0, 0) := by
  refine mgo_from hP [4, 22, 56, 60, 61, 82] 260 ?_
  exact c_M_fromAll_L61 hP hQ hk4 hk22 _ _ _ _ _ _ h
theorem c_M_fromAll_L56 {xs : Nat → Int32} {L d : Nat} {P : MK S2} {Q : S2 → Option MV → Prop} {res : Int32} {s : S2} (hP : MClosed (O3 xs L) (kcall (O3 xs L) (d + 3)) kd_M_fromAll 1 Q P) (hQ : Q s (some (mI res))) {k4 : Int32 → Int32 → Int32 → S2 → Option Int32} {k22 : Int32 → Int32 → Int32 → Int32 → Int32 → S2 → Option Int32} (hk4 : ∀ (x1 : Int32) (x2 : Int32) (x3 : Int32) (x4 : Option Int32) (x5 : Option Int32), k4 x1 x2 x3 s = some res → P 4 [some (mR 60 0), some (mI x1), some (mI x2), some (mI x3), oI x4, oI x5] [] s (0, 0)) (hk22 : ∀ (x1 : Int32) (x2 : Int32) (x3 : Int32) (x4 : Int32) (x5 : Int32), k22 x1 x2 x3 x4 x5 s = some res → P 22 [some (mR 60 0), some (mI x1), some (mI x2), some (mI x3), some (mI x4), some (mI x5)] [] s (0, 0)) (x1 : Int32) (x2 : Int32) (x3 : Int32) (x5 : Int32) (x4 : Int32) (h : f_M_fromAll_L56 k4 k22 x1 x2 x3 x5 s = some res) : P 56 [some (mR 60 0), some (mI x1), some (mI x2), some (mI x3), some (mI x4), some (mI x5)] [] s (0, 0) := by
  refine mgo_from hP [4, 22, 56, 60, 61, 82] 260 ?_
  exact c_M_fromAll_L61 hP hQ hk4 hk22 _ _ _ _ _ _ h
set_option maxRecDepth 20000 in
set_option maxHeartbeats 4000000 in
theorem cb_M_fromAll_L22 {xs : Nat → Int32} {L d : Nat} {P : MK S2} {Q : S2 → Option MV → Prop} {res : Int32} {s : S2} (hP : MClosed (O3 xs L) (kcall (O3 xs L) (d + 3)) kd_M_fromAll 1 Q P) (hQ : Q s (some (mI res))) {k4 : Int32 → Int32 → Int32 → S2 → Option Int32} (hk4 : ∀ (x1 : Int32) (x2 : Int32) (x3 : Int32) (x4 : Option Int32) (x5 : Option Int32), k4 x1 x2 x3 s = some res → P 4 [some (mR 60 0), some (mI x1), some (mI x2), some (mI x3), oI x4, oI x5] [] s (0, 0)) {k22 : Int32 → Int32 → Int32 → Int32 → Int32 → S2 → Option Int32} (hk22 : ∀ (x1 : Int32) (x2 : Int32) (x3 : Int32) (x4 : Int32) (x5 : Int32), k22 x1 x2 x3 x4 x5 s = some res → P 22 [some (mR 60 0), some (mI x1), some (mI x2), some (mI x3), some (mI x4), some (mI x5)] [] s (0, 0)) (x1 : Int32) (x2 : Int32) (x3 : Int32) (x4 : Int32) (x5 : Int32) (h : b_M_fromAll_L22 k4 k22 x1 x2 x3 x4 x5 s = some res) : P 22 [some (mR 60 0), some (mI x1), some (mI x2), some (mI x3), some (mI x4), some (mI x5)] [] s (0, 0) := by
  refine mgo_from hP [4, 22, 56, 60, 61, 82] 260 ?_
  refine go_br (fun hc : (s.1 60 0 28) ≤ x5 => ?_) (fun hc : ¬ ((s.1 60 0 28) ≤ x5) => ?_)
  · replace h := (if_pos hc).symm.trans h
    refine go_br (fun hc : x4 = 0 => ?_) (fun hc : ¬ (x4 = 0) => ?_)
    · replace h := (if_pos hc).symm.trans h
      exact c_M_fromAll_L82 hP hQ hk4 _ _ _ _ _ _ _ h
    · replace h := (if_neg hc).symm.trans h
      exact c_M_fromAll_L82 hP hQ hk4 _ _ _ _ _ _ _ h
  · replace h := (if_neg hc).symm.trans h
    refine go_br (fun hc : x4 = 0 => ?_) (fun hc : ¬ (x4 = 0) => ?_)
    · replace h := (if_pos hc).symm.trans h
      exact c_M_fromAll_L60 hP hQ hk4 hk22 _ _ _ _ _ h
    · replace h := (if_neg hc).symm.trans h
      obtain ⟨q1, hq, h⟩ := bnd h
      refine go_call (fun _ hw => c_M_isHead hq hw) ?_
      refine go_br (fun hc : (bI q1) = 0 => ?_) (fun hc : ¬ ((bI q1) = 0) => ?_)
      · replace h := (if_pos hc).symm.trans h
        exact c_M_fromAll_L56 hP hQ hk4 hk22 _ _ _ _ _ h
      · replace h := (if_neg hc).symm.trans h
        obtain ⟨q2, hq, h⟩ := bnd h
        refine go_call (fun _ hw => c_M_isNear hq hw) ?_
        refine go_br (fun hc : (bI q2) = 0 => ?_) (fun hc : ¬ ((bI q2) = 0) => ?_)
        · replace h := (if_pos hc).symm.trans h
          exact c_M_fromAll_L60 hP hQ hk4 hk22 _ _ _ _ _ h
        · replace h := (if_neg hc).symm.trans h
          exact c_M_fromAll_L56 hP hQ hk4 hk22 _ _ _ _ _ h
theorem c_M_fromAll_L22 {xs : Nat → Int32} {L d : Nat} {P : MK S2} {Q : S2 → Option MV → Prop} {res : Int32} {s : S2} (hP : MClosed (O3 xs L) (kcall (O3 xs L) (d + 3)) kd_M_fromAll 1 Q P) (hQ : Q s (some (mI res))) {k4 : Int32 → Int32 → Int32 → S2 → Option Int32} (hk4 : ∀ (x1 : Int32) (x2 : Int32) (x3 : Int32) (x4 : Option Int32) (x5 : Option Int32), k4 x1 x2 x3 s = some res → P 4 [some (mR 60 0), some (mI x1), some (mI x2), some (mI x3), oI x4, oI x5] [] s (0, 0)) : ∀ (fu : Nat) (x1 : Int32) (x2 : Int32) (x3 : Int32) (x4 : Int32) (x5 : Int32), f_M_fromAll_L22 k4 fu x1 x2 x3 x4 x5 s = some res → P 22 [some (mR 60 0), some (mI x1), some (mI x2), some (mI x3), some (mI x4), some (mI x5)] [] s (0, 0)
  | 0, _, _, _, _, _, h => by cases h
  | fu + 1, x1, x2, x3, x4, x5, h => cb_M_fromAll_L22 hP hQ hk4 (c_M_fromAll_L22 hP hQ hk4 fu) x1 x2 x3 x4 x5 h
theorem cb_M_fromAll_L4 {xs : Nat → Int32} {L d : Nat} {P : MK S2} {Q : S2 → Option MV → Prop} {res : Int32} {s : S2} (hP : MClosed (O3 xs L) (kcall (O3 xs L) (d + 3)) kd_M_fromAll 1 Q P) (hQ : Q s (some (mI res))) {k4 : Int32 → Int32 → Int32 → S2 → Option Int32} (hk4 : ∀ (x1 : Int32) (x2 : Int32) (x3 : Int32) (x4 : Option Int32) (x5 : Option Int32), k4 x1 x2 x3 s = some res → P 4 [some (mR 60 0), some (mI x1), some (mI x2), some (mI x3), oI x4, oI x5] [] s (0, 0)) (x1 : Int32) (x2 : Int32) (x3 : Int32) (x4 : Option Int32) (x5 : Option Int32) (h : b_M_fromAll_L4 k4 x1 x2 x3 s = some res) : P 4 [some (mR 60 0), some (mI x1), some (mI x2), some (mI x3), oI x4, oI x5] [] s (0, 0) := by
  refine mgo_from hP [4, 22, 56, 60, 61, 82] 260 ?_
  refine go_br (fun hc : (s.1 60 0 28) ≤ x3 => ?_) (fun hc : ¬ ((s.1 60 0 28) ≤ x3) => ?_)
  · replace h := (if_pos hc).symm.trans h
    cases h
    exact hQ
  · replace h := (if_neg hc).symm.trans h
    obtain ⟨q1, hq, h⟩ := bnd h
    refine go_call (fun _ hw => c_M_isHead hq hw) ?_
    exact c_M_fromAll_L22 hP hQ hk4 FU _ _ _ _ _ h
theorem c_M_fromAll_L4 {xs : Nat → Int32} {L d : Nat} {P : MK S2} {Q : S2 → Option MV → Prop} {res : Int32} {s : S2} (hP : MClosed (O3 xs L) (kcall (O3 xs L) (d + 3)) kd_M_fromAll 1 Q P) (hQ : Q s (some (mI res))) : ∀ (fu : Nat) (x1 : Int32) (x2 : Int32) (x3 : Int32) (x4 : Option Int32) (x5 : Option Int32), f_M_fromAll_L4 fu x1 x2 x3 s = some res → P 4 [some (mR 60 0), some (mI x1), some (mI x2), some (mI x3), oI x4, oI x5] [] s (0, 0)
  | 0, _, _, _, _, _, h => by cases h
  | fu + 1, x1, x2, x3, x4, x5, h => cb_M_fromAll_L4 hP hQ (c_M_fromAll_L4 hP hQ fu) x1 x2 x3 x4 x5 h
theorem c_M_fromAll {xs : Nat → Int32} {L d : Nat} {a1 : Int32} {s : S2} {res : Int32} {Q : S2 → Option MV → Prop} (h : f_M_fromAll a1 s = some res) (hQ : Q s (some (mI res))) : kcall (O3 xs L) (d + 4) k_M_fromAll [mR 60 0, mI a1] s Q := by
  refine kc_of (cd := kd_M_fromAll) (mx := 6) (rt := 1) rfl rfl ?_
  intro P hP
  refine mgo_sound hP [4, 22, 56, 60, 61, 82] 260 _ _ _ _ _ ?_
  exact c_M_fromAll_L4 hP hQ FU _ _ _ none none h
/-! M_landOf -/
def f_M_landOf_L93 (k12 : Int32 → Int32 → Int32 → S2 → Option Int32) (k24 : Int32 → Int32 → Int32 → Int32 → S2 → Option Int32) (k36 : Int32 → Int32 → Int32 → Int32 → Int32 → S2 → Option Int32) (x2 : Int32) (x4 : Int32) (x5 : Int32) (x6 : Int32) (y0 : Int32) (y1 : Int32) (s : S2) : Option Int32 := (k36 x2 (y0 ||| y1) x4 x5 (x6 + (Int32.ofInt 1)) s)
def f_M_landOf_L92 (k12 : Int32 → Int32 → Int32 → S2 → Option Int32) (k24 : Int32 → Int32 → Int32 → Int32 → S2 → Option Int32) (k36 : Int32 → Int32 → Int32 → Int32 → Int32 → S2 → Option Int32) (x2 : Int32) (x4 : Int32) (x5 : Int32) (x6 : Int32) (y0 : Int32) (s : S2) : Option Int32 := (f_M_landOf_L93 k12 k24 k36 x2 x4 x5 x6 y0 (Int32.ofInt 0) s)
def b_M_landOf_L36 (k12 : Int32 → Int32 → Int32 → S2 → Option Int32) (k24 : Int32 → Int32 → Int32 → Int32 → S2 → Option Int32) (k36 : Int32 → Int32 → Int32 → Int32 → Int32 → S2 → Option Int32) (x2 : Int32) (x3 : Int32) (x4 : Int32) (x5 : Int32) (x6 : Int32) (s : S2) : Option Int32 := (if (s.1 60 0 28) ≤ x6 then (k24 x2 x3 x4 (x5 + (Int32.ofInt 1)) s) else ((f_M_isHead x5 s).bind fun q1 => (if (bI q1) = 0 then (f_M_landOf_L92 k12 k24 k36 x2 x4 x5 x6 x3 s) else ((f_M_isHead x6 s).bind fun q2 => (if (bI q2) = 0 then (f_M_landOf_L92 k12 k24 k36 x2 x4 x5 x6 x3 s) else (if (bI (g_M_has x3 x5 s)) = 0 then (f_M_landOf_L92 k12 k24 k36 x2 x4 x5 x6 x3 s) else ((f_M_isNear x5 x6 x2 s).bind fun q3 => (if (bI q3) = 0 then (f_M_landOf_L92 k12 k24 k36 x2 x4 x5 x6 x3 s) else (f_M_landOf_L93 k12 k24 k36 x2 x4 x5 x6 x3 ((Int32.ofInt 1) <<< (x6 &&& 31)) s)))))))))
def f_M_landOf_L36 (k12 : Int32 → Int32 → Int32 → S2 → Option Int32) (k24 : Int32 → Int32 → Int32 → Int32 → S2 → Option Int32) : Nat → Int32 → Int32 → Int32 → Int32 → Int32 → S2 → Option Int32
  | 0 => fun _ _ _ _ _ _ => none
  | n + 1 => b_M_landOf_L36 k12 k24 (f_M_landOf_L36 k12 k24 n)
def b_M_landOf_L24 (k12 : Int32 → Int32 → Int32 → S2 → Option Int32) (k24 : Int32 → Int32 → Int32 → Int32 → S2 → Option Int32) (x2 : Int32) (x3 : Int32) (x4 : Int32) (x5 : Int32) (s : S2) : Option Int32 := (if (s.1 60 0 28) ≤ x5 then (k12 x2 x3 x4 s) else (f_M_landOf_L36 k12 k24 FU x2 x3 x4 x5 (Int32.ofInt 0) s))
def f_M_landOf_L24 (k12 : Int32 → Int32 → Int32 → S2 → Option Int32) : Nat → Int32 → Int32 → Int32 → Int32 → S2 → Option Int32
  | 0 => fun _ _ _ _ _ => none
  | n + 1 => b_M_landOf_L24 k12 (f_M_landOf_L24 k12 n)
def b_M_landOf_L12 (k12 : Int32 → Int32 → Int32 → S2 → Option Int32) (x2 : Int32) (x3 : Int32) (x4 : Int32) (s : S2) : Option Int32 := (if x4 = x3 then some x3 else (f_M_landOf_L24 k12 FU x2 x3 x3 (Int32.ofInt 0) s))
def f_M_landOf_L12 : Nat → Int32 → Int32 → Int32 → S2 → Option Int32
  | 0 => fun _ _ _ _ => none
  | n + 1 => b_M_landOf_L12 (f_M_landOf_L12 n)
def f_M_landOf (a1 : Int32) (a2 : Int32) (s : S2) : Option Int32 := ((ix 6 a1).bind fun j1 => (f_M_landOf_L12 FU a2 ((Int32.ofInt 1) <<< ((s.1 82 0 j1) &&& 31)) (Int32.ofInt 0) s))
theorem c_M_landOf_L93 {xs : Nat → Int32} {L d : Nat} {P : MK S2} {Q : S2 → Option MV → Prop} {res : Int32} {s : S2} (hP : MClosed (O3 xs L) (kcall (O3 xs L) (d + 3)) kd_M_landOf 1 Q P) (hQ : Q s (some (mI res))) {k12 : Int32 → Int32 → Int32 → S2 → Option Int32} {k24 : Int32 → Int32 → Int32 → Int32 → S2 → Option Int32} {k36 : Int32 → Int32 → Int32 → Int32 → Int32 → S2 → Option Int32} (hk12 : ∀ (x2 : Int32) (x3 : Int32) (x4 : Int32) (x1 : Int32) (x5 : Option Int32) (x6 : Option Int32), k12 x2 x3 x4 s = some res → P 12 [some (mR 60 0), some (mI x1), some (mI x2), some (mI x3), some (mI x4), oI x5, oI x6] [] s (0, 0)) (hk24 : ∀ (x2 : Int32) (x3 : Int32) (x4 : Int32) (x5 : Int32) (x1 : Int32) (x6 : Option Int32), k24 x2 x3 x4 x5 s = some res → P 24 [some (mR 60 0), some (mI x1), some (mI x2), some (mI x3), some (mI x4), some (mI x5), oI x6] [] s (0, 0)) (hk36 : ∀ (x2 : Int32) (x3 : Int32) (x4 : Int32) (x5 : Int32) (x6 : Int32) (x1 : Int32), k36 x2 x3 x4 x5 x6 s = some res → P 36 [some (mR 60 0), some (mI x1), some (mI x2), some (mI x3), some (mI x4), some (mI x5), some (mI x6)] [] s (0, 0)) (x2 : Int32) (x4 : Int32) (x5 : Int32) (x6 : Int32) (y0 : Int32) (y1 : Int32) (x1 : Int32) (x3 : Int32) (h : f_M_landOf_L93 k12 k24 k36 x2 x4 x5 x6 y0 y1 s = some res) : P 93 [some (mR 60 0), some (mI x1), some (mI x2), some (mI x3), some (mI x4), some (mI x5), some (mI x6)] [mI y1, mI y0] s (0, 0) := by
  refine mgo_from hP [12, 24, 36, 92, 93] 260 ?_
  exact hk36 _ _ _ _ _ _ h
theorem c_M_landOf_L92 {xs : Nat → Int32} {L d : Nat} {P : MK S2} {Q : S2 → Option MV → Prop} {res : Int32} {s : S2} (hP : MClosed (O3 xs L) (kcall (O3 xs L) (d + 3)) kd_M_landOf 1 Q P) (hQ : Q s (some (mI res))) {k12 : Int32 → Int32 → Int32 → S2 → Option Int32} {k24 : Int32 → Int32 → Int32 → Int32 → S2 → Option Int32} {k36 : Int32 → Int32 → Int32 → Int32 → Int32 → S2 → Option Int32} (hk12 : ∀ (x2 : Int32) (x3 : Int32) (x4 : Int32) (x1 : Int32) (x5 : Option Int32) (x6 : Option Int32), k12 x2 x3 x4 s = some res → P 12 [some (mR 60 0), some (mI x1), some (mI x2), some (mI x3), some (mI x4), oI x5, oI x6] [] s (0, 0)) (hk24 : ∀ (x2 : Int32) (x3 : Int32) (x4 : Int32) (x5 : Int32) (x1 : Int32) (x6 : Option Int32), k24 x2 x3 x4 x5 s = some res → P 24 [some (mR 60 0), some (mI x1), some (mI x2), some (mI x3), some (mI x4), some (mI x5), oI x6] [] s (0, 0)) (hk36 : ∀ (x2 : Int32) (x3 : Int32) (x4 : Int32) (x5 : Int32) (x6 : Int32) (x1 : Int32), k36 x2 x3 x4 x5 x6 s = some res → P 36 [some (mR 60 0), some (mI x1), some (mI x2), some (mI x3), some (mI x4), some (mI x5), some (mI x6)] [] s (0, 0)) (x2 : Int32) (x4 : Int32) (x5 : Int32) (x6 : Int32) (y0 : Int32) (x1 : Int32) (x3 : Int32) (h : f_M_landOf_L92 k12 k24 k36 x2 x4 x5 x6 y0 s = some res) : P 92 [some (mR 60 0), some (mI x1), some (mI x2), some (mI x3), some (mI x4), some (mI x5), some (mI x6)] [mI y0] s (0, 0) := by
  refine mgo_from hP [12, 24, 36, 92, 93] 260 ?_
  exact c_M_landOf_L93 hP hQ hk12 hk24 hk36 _ _ _ _ _ _ _ _ h
set_option maxRecDepth 20000 in
set_option maxHeartbeats 4000000 in
theorem cb_M_landOf_L36 {xs : Nat → Int32} {L d : Nat} {P : MK S2} {Q : S2 → Option MV → Prop} {res : Int32} {s : S2} (hP : MClosed (O3 xs L) (kcall (O3 xs L) (d + 3)) kd_M_landOf 1 Q P) (hQ : Q s (some (mI res))) {k12 : Int32 → Int32 → Int32 → S2 → Option Int32} {k24 : Int32 → Int32 → Int32 → Int32 → S2 → Option Int32} (hk12 : ∀ (x2 : Int32) (x3 : Int32) (x4 : Int32) (x1 : Int32) (x5 : Option Int32) (x6 : Option Int32), k12 x2 x3 x4 s = some res → P 12 [some (mR 60 0), some (mI x1), some (mI x2), some (mI x3), some (mI x4), oI x5, oI x6] [] s (0, 0)) (hk24 : ∀ (x2 : Int32) (x3 : Int32) (x4 : Int32) (x5 : Int32) (x1 : Int32) (x6 : Option Int32), k24 x2 x3 x4 x5 s = some res → P 24 [some (mR 60 0), some (mI x1), some (mI x2), some (mI x3), some (mI x4), some (mI x5), oI x6] [] s (0, 0)) {k36 : Int32 → Int32 → Int32 → Int32 → Int32 → S2 → Option Int32} (hk36 : ∀ (x2 : Int32) (x3 : Int32) (x4 : Int32) (x5 : Int32) (x6 : Int32) (x1 : Int32), k36 x2 x3 x4 x5 x6 s = some res → P 36 [some (mR 60 0), some (mI x1), some (mI x2), some (mI x3), some (mI x4), some (mI x5), some (mI x6)] [] s (0, 0)) (x2 : Int32) (x3 : Int32) (x4 : Int32) (x5 : Int32) (x6 : Int32) (x1 : Int32) (h : b_M_landOf_L36 k12 k24 k36 x2 x3 x4 x5 x6 s = some res) : P 36 [some (mR 60 0), some (mI x1), some (mI x2), some (mI x3), some (mI x4), some (mI x5), some (mI x6)] [] s (0, 0) := by
  refine mgo_from hP [12, 24, 36, 92, 93] 260 ?_
  refine go_br (fun hc : (s.1 60 0 28) ≤ x6 => ?_) (fun hc : ¬ ((s.1 60 0 28) ≤ x6) => ?_)
  · replace h := (if_pos hc).symm.trans h
    exact hk24 _ _ _ _ _ (some x6) h
  · replace h := (if_neg hc).symm.trans h
    obtain ⟨q1, hq, h⟩ := bnd h
    refine go_call (fun _ hw => c_M_isHead hq hw) ?_
    refine go_br (fun hc : (bI q1) = 0 => ?_) (fun hc : ¬ ((bI q1) = 0) => ?_)
    · replace h := (if_pos hc).symm.trans h
      exact c_M_landOf_L92 hP hQ hk12 hk24 hk36 _ _ _ _ _ _ _ h
    · replace h := (if_neg hc).symm.trans h
      obtain ⟨q2, hq, h⟩ := bnd h
      refine go_call (fun _ hw => c_M_isHead hq hw) ?_
      refine go_br (fun hc : (bI q2) = 0 => ?_) (fun hc : ¬ ((bI q2) = 0) => ?_)
      · replace h := (if_pos hc).symm.trans h
        exact c_M_landOf_L92 hP hQ hk12 hk24 hk36 _ _ _ _ _ _ _ h
      · replace h := (if_neg hc).symm.trans h
        refine go_call (fun _ hw => c_M_has hw) ?_
        refine go_br (fun hc : (bI (g_M_has x3 x5 s)) = 0 => ?_) (fun hc : ¬ ((bI (g_M_has x3 x5 s)) = 0) => ?_)
        · replace h := (if_pos hc).symm.trans h
          exact c_M_landOf_L92 hP hQ hk12 hk24 hk36 _ _ _ _ _ _ _ h
        · replace h := (if_neg hc).symm.trans h
          obtain ⟨q3, hq, h⟩ := bnd h
          refine go_call (fun _ hw => c_M_isNear hq hw) ?_
          refine go_br (fun hc : (bI q3) = 0 => ?_) (fun hc : ¬ ((bI q3) = 0) => ?_)
          · replace h := (if_pos hc).symm.trans h
            exact c_M_landOf_L92 hP hQ hk12 hk24 hk36 _ _ _ _ _ _ _ h
          · replace h := (if_neg hc).symm.trans h
            exact c_M_landOf_L93 hP hQ hk12 hk24 hk36 _ _ _ _ _ _ _ _ h
theorem c_M_landOf_L36 {xs : Nat → Int32} {L d : Nat} {P : MK S2} {Q : S2 → Option MV → Prop} {res : Int32} {s : S2} (hP : MClosed (O3 xs L) (kcall (O3 xs L) (d + 3)) kd_M_landOf 1 Q P) (hQ : Q s (some (mI res))) {k12 : Int32 → Int32 → Int32 → S2 → Option Int32} {k24 : Int32 → Int32 → Int32 → Int32 → S2 → Option Int32} (hk12 : ∀ (x2 : Int32) (x3 : Int32) (x4 : Int32) (x1 : Int32) (x5 : Option Int32) (x6 : Option Int32), k12 x2 x3 x4 s = some res → P 12 [some (mR 60 0), some (mI x1), some (mI x2), some (mI x3), some (mI x4), oI x5, oI x6] [] s (0, 0)) (hk24 : ∀ (x2 : Int32) (x3 : Int32) (x4 : Int32) (x5 : Int32) (x1 : Int32) (x6 : Option Int32), k24 x2 x3 x4 x5 s = some res → P 24 [some (mR 60 0), some (mI x1), some (mI x2), some (mI x3), some (mI x4), some (mI x5), oI x6] [] s (0, 0)) : ∀ (fu : Nat) (x2 : Int32) (x3 : Int32) (x4 : Int32) (x5 : Int32) (x6 : Int32) (x1 : Int32), f_M_landOf_L36 k12 k24 fu x2 x3 x4 x5 x6 s = some res → P 36 [some (mR 60 0), some (mI x1), some (mI x2), some (mI x3), some (mI x4), some (mI x5), some (mI x6)] [] s (0, 0)
  | 0, _, _, _, _, _, _, h => by cases h
  | fu + 1, x2, x3, x4, x5, x6, x1, h => cb_M_landOf_L36 hP hQ hk12 hk24 (c_M_landOf_L36 hP hQ hk12 hk24 fu) x2 x3 x4 x5 x6 x1 h
theorem cb_M_landOf_L24 {xs : Nat → Int32} {L d : Nat} {P : MK S2} {Q : S2 → Option MV → Prop} {res : Int32} {s : S2} (hP : MClosed (O3 xs L) (kcall (O3 xs L) (d + 3)) kd_M_landOf 1 Q P) (hQ : Q s (some (mI res))) {k12 : Int32 → Int32 → Int32 → S2 → Option Int32} (hk12 : ∀ (x2 : Int32) (x3 : Int32) (x4 : Int32) (x1 : Int32) (x5 : Option Int32) (x6 : Option Int32), k12 x2 x3 x4 s = some res → P 12 [some (mR 60 0), some (mI x1), some (mI x2), some (mI x3), some (mI x4), oI x5, oI x6] [] s (0, 0)) {k24 : Int32 → Int32 → Int32 → Int32 → S2 → Option Int32} (hk24 : ∀ (x2 : Int32) (x3 : Int32) (x4 : Int32) (x5 : Int32) (x1 : Int32) (x6 : Option Int32), k24 x2 x3 x4 x5 s = some res → P 24 [some (mR 60 0), some (mI x1), some (mI x2), some (mI x3), some (mI x4), some (mI x5), oI x6] [] s (0, 0)) (x2 : Int32) (x3 : Int32) (x4 : Int32) (x5 : Int32) (x1 : Int32) (x6 : Option Int32) (h : b_M_landOf_L24 k12 k24 x2 x3 x4 x5 s = some res) : P 24 [some (mR 60 0), some (mI x1), some (mI x2), some (mI x3), some (mI x4), some (mI x5), oI x6] [] s (0, 0) := by
  refine mgo_from hP [12, 24, 36, 92, 93] 260 ?_
  refine go_br (fun hc : (s.1 60 0 28) ≤ x5 => ?_) (fun hc : ¬ ((s.1 60 0 28) ≤ x5) => ?_)
  · replace h := (if_pos hc).symm.trans h
    exact hk12 _ _ _ _ (some x5) x6 h
  · replace h := (if_neg hc).symm.trans h
    exact c_M_landOf_L36 hP hQ hk12 hk24 FU _ _ _ _ _ _ h
theorem c_M_landOf_L24 {xs : Nat → Int32} {L d : Nat} {P : MK S2} {Q : S2 → Option MV → Prop} {res : Int32} {s : S2} (hP : MClosed (O3 xs L) (kcall (O3 xs L) (d + 3)) kd_M_landOf 1 Q P) (hQ : Q s (some (mI res))) {k12 : Int32 → Int32 → Int32 → S2 → Option Int32} (hk12 : ∀ (x2 : Int32) (x3 : Int32) (x4 : Int32) (x1 : Int32) (x5 : Option Int32) (x6 : Option Int32), k12 x2 x3 x4 s = some res → P 12 [some (mR 60 0), some (mI x1), some (mI x2), some (mI x3), some (mI x4), oI x5, oI x6] [] s (0, 0)) : ∀ (fu : Nat) (x2 : Int32) (x3 : Int32) (x4 : Int32) (x5 : Int32) (x1 : Int32) (x6 : Option Int32), f_M_landOf_L24 k12 fu x2 x3 x4 x5 s = some res → P 24 [some (mR 60 0), some (mI x1), some (mI x2), some (mI x3), some (mI x4), some (mI x5), oI x6] [] s (0, 0)
  | 0, _, _, _, _, _, _, h => by cases h
  | fu + 1, x2, x3, x4, x5, x1, x6, h => cb_M_landOf_L24 hP hQ hk12 (c_M_landOf_L24 hP hQ hk12 fu) x2 x3 x4 x5 x1 x6 h
theorem cb_M_landOf_L12 {xs : Nat → Int32} {L d : Nat} {P : MK S2} {Q : S2 → Option MV → Prop} {res : Int32} {s : S2} (hP : MClosed (O3 xs L) (kcall (O3 xs L) (d + 3)) kd_M_landOf 1 Q P) (hQ : Q s (some (mI res))) {k12 : Int32 → Int32 → Int32 → S2 → Option Int32} (hk12 : ∀ (x2 : Int32) (x3 : Int32) (x4 : Int32) (x1 : Int32) (x5 : Option Int32) (x6 : Option Int32), k12 x2 x3 x4 s = some res → P 12 [some (mR 60 0), some (mI x1), some (mI x2), some (mI x3), some (mI x4), oI x5, oI x6] [] s (0, 0)) (x2 : Int32) (x3 : Int32) (x4 : Int32) (x1 : Int32) (x5 : Option Int32) (x6 : Option Int32) (h : b_M_landOf_L12 k12 x2 x3 x4 s = some res) : P 12 [some (mR 60 0), some (mI x1), some (mI x2), some (mI x3), some (mI x4), oI x5, oI x6] [] s (0, 0) := by
  refine mgo_from hP [12, 24, 36, 92, 93] 260 ?_
  refine go_br (fun hc : x4 = x3 => ?_) (fun hc : ¬ (x4 = x3) => ?_)
  · replace h := (if_pos hc).symm.trans h
    cases h
    exact hQ
  · replace h := (if_neg hc).symm.trans h
    exact c_M_landOf_L24 hP hQ hk12 FU _ _ _ _ _ x6 h
theorem c_M_landOf_L12 {xs : Nat → Int32} {L d : Nat} {P : MK S2} {Q : S2 → Option MV → Prop} {res : Int32} {s : S2} (hP : MClosed (O3 xs L) (kcall (O3 xs L) (d + 3)) kd_M_landOf 1 Q P) (hQ : Q s (some (mI res))) : ∀ (fu : Nat) (x2 : Int32) (x3 : Int32) (x4 : Int32) (x1 : Int32) (x5 : Option Int32) (x6 : Option Int32), f_M_landOf_L12 fu x2 x3 x4 s = some res → P 12 [some (mR 60 0), some (mI x1), some (mI x2), some (mI x3), some (mI x4), oI x5, oI x6] [] s (0, 0)
  | 0, _, _, _, _, _, _, h => by cases h
  | fu + 1, x2, x3, x4, x1, x5, x6, h => cb_M_landOf_L12 hP hQ (c_M_landOf_L12 hP hQ fu) x2 x3 x4 x1 x5 x6 h
theorem c_M_landOf {xs : Nat → Int32} {L d : Nat} {a1 : Int32} {a2 : Int32} {s : S2} {res : Int32} {Q : S2 → Option MV → Prop} (h : f_M_landOf a1 a2 s = some res) (hQ : Q s (some (mI res))) : kcall (O3 xs L) (d + 4) k_M_landOf [mR 60 0, mI a1, mI a2] s Q := by
  refine kc_of (cd := kd_M_landOf) (mx := 7) (rt := 1) rfl rfl ?_
  intro P hP
  refine mgo_sound hP [12, 24, 36, 92, 93] 260 _ _ _ _ _ ?_
  obtain ⟨j1, hj, h⟩ := bnd h
  refine go_ix j1 (ix_lt hj) (ix_eq hj) ?_
  exact c_M_landOf_L12 hP hQ FU _ _ _ _ none none h
/-! M_land -/
def f_M_land (a1 : Int32) (a2 : Int32) (s : S2) : Option Int32 := (if (bI (g_M_isIsle a1 s)) = 0 then some (Int32.ofInt (-1)) else (if (bI (g_M_in a2 (Int32.ofInt 0) (Int32.ofInt 999) s)) = 0 then some (Int32.ofInt (-1)) else ((f_M_landOf a1 a2 s).bind fun q1 => some q1)))
theorem c_M_land {xs : Nat → Int32} {L d : Nat} {a1 : Int32} {a2 : Int32} {s : S2} {res : Int32} {Q : S2 → Option MV → Prop} (h : f_M_land a1 a2 s = some res) (hQ : Q s (some (mI res))) : kcall (O3 xs L) (d + 5) k_M_land [mR 60 0, mI a1, mI a2] s Q := by
  refine kc_of (cd := kd_M_land) (mx := 3) (rt := 1) rfl rfl ?_
  intro P hP
  refine mgo_sound hP [] 260 _ _ _ _ _ ?_
  refine go_call (fun _ hw => c_M_isIsle hw) ?_
  refine go_br (fun hc : (bI (g_M_isIsle a1 s)) = 0 => ?_) (fun hc : ¬ ((bI (g_M_isIsle a1 s)) = 0) => ?_)
  · replace h := (if_pos hc).symm.trans h
    cases h
    exact hQ
  · replace h := (if_neg hc).symm.trans h
    refine go_call (fun _ hw => c_M_in hw) ?_
    refine go_br (fun hc : (bI (g_M_in a2 (Int32.ofInt 0) (Int32.ofInt 999) s)) = 0 => ?_) (fun hc : ¬ ((bI (g_M_in a2 (Int32.ofInt 0) (Int32.ofInt 999) s)) = 0) => ?_)
    · replace h := (if_pos hc).symm.trans h
      cases h
      exact hQ
    · replace h := (if_neg hc).symm.trans h
      obtain ⟨q1, hq, h⟩ := bnd h
      refine go_call (fun _ hw => c_M_landOf hq hw) ?_
      cases h
      exact hQ
/-! M_wide -/
def f_M_wide_L98 (k26 : Int32 → Int32 → Int32 → Int32 → S2 → Option Int32) (k41 : Int32 → Int32 → Int32 → Int32 → Int32 → S2 → Option Int32) (x1 : Int32) (x2 : Int32) (x3 : Int32) (x4 : Int32) (x5 : Int32) (s : S2) : Option Int32 := (k41 x1 x2 x3 x4 (x5 + (Int32.ofInt 1)) s)
def b_M_wide_L41 (k26 : Int32 → Int32 → Int32 → Int32 → S2 → Option Int32) (k41 : Int32 → Int32 → Int32 → Int32 → Int32 → S2 → Option Int32) (x1 : Int32) (x2 : Int32) (x3 : Int32) (x4 : Int32) (x5 : Int32) (s : S2) : Option Int32 := (if (s.1 60 0 28) ≤ x5 then (k26 x1 x2 x3 (x4 + (Int32.ofInt 1)) s) else ((f_M_isHead x4 s).bind fun q1 => (if (bI q1) = 0 then (f_M_wide_L98 k26 k41 x1 x2 x3 x4 x5 s) else ((f_M_isHead x5 s).bind fun q2 => (if (bI q2) = 0 then (f_M_wide_L98 k26 k41 x1 x2 x3 x4 x5 s) else ((f_M_farOf x4 x5 s).bind fun q3 => (if q3 ≤ x3 then (f_M_wide_L98 k26 k41 x1 x2 x3 x4 x5 s) else ((f_M_farOf x4 x5 s).bind fun q4 => (f_M_wide_L98 k26 k41 x1 (((Int32.ofInt 10) * x4) + x5) q4 x4 x5 s)))))))))
def f_M_wide_L41 (k26 : Int32 → Int32 → Int32 → Int32 → S2 → Option Int32) : Nat → Int32 → Int32 → Int32 → Int32 → Int32 → S2 → Option Int32
  | 0 => fun _ _ _ _ _ _ => none
  | n + 1 => b_M_wide_L41 k26 (f_M_wide_L41 k26 n)
def b_M_wide_L26 (k26 : Int32 → Int32 → Int32 → Int32 → S2 → Option Int32) (x1 : Int32) (x2 : Int32) (x3 : Int32) (x4 : Int32) (s : S2) : Option Int32 := (if (s.1 60 0 28) ≤ x4 then (if x1 = 0 then some x3 else some x2) else (f_M_wide_L41 k26 FU x1 x2 x3 x4 (x4 + (Int32.ofInt 1)) s))
def f_M_wide_L26 : Nat → Int32 → Int32 → Int32 → Int32 → S2 → Option Int32
  | 0 => fun _ _ _ _ _ => none
  | n + 1 => b_M_wide_L26 (f_M_wide_L26 n)
def f_M_wide (a1 : Int32) (s : S2) : Option Int32 := ((f_M_headMany s).bind fun q1 => (if q1 < (Int32.ofInt 2) then some (Int32.ofInt (-1)) else (if (bI (g_M_in a1 (Int32.ofInt 0) (Int32.ofInt 1) s)) = 0 then some (Int32.ofInt (-1)) else (f_M_wide_L26 FU a1 (Int32.ofInt (-1)) (Int32.ofInt (-1)) (Int32.ofInt 0) s))))
theorem c_M_wide_L98 {xs : Nat → Int32} {L d : Nat} {P : MK S2} {Q : S2 → Option MV → Prop} {res : Int32} {s : S2} (hP : MClosed (O3 xs L) (kcall (O3 xs L) (d + 4)) kd_M_wide 1 Q P) (hQ : Q s (some (mI res))) {k26 : Int32 → Int32 → Int32 → Int32 → S2 → Option Int32} {k41 : Int32 → Int32 → Int32 → Int32 → Int32 → S2 → Option Int32} (hk26 : ∀ (x1 : Int32) (x2 : Int32) (x3 : Int32) (x4 : Int32) (x5 : Option Int32), k26 x1 x2 x3 x4 s = some res → P 26 [some (mR 60 0), some (mI x1), some (mI x2), some (mI x3), some (mI x4), oI x5] [] s (0, 0)) (hk41 : ∀ (x1 : Int32) (x2 : Int32) (x3 : Int32) (x4 : Int32) (x5 : Int32), k41 x1 x2 x3 x4 x5 s = some res → P 41 [some (mR 60 0), some (mI x1), some (mI x2), some (mI x3), some (mI x4), some (mI x5)] [] s (0, 0)) (x1 : Int32) (x2 : Int32) (x3 : Int32) (x4 : Int32) (x5 : Int32) (h : f_M_wide_L98 k26 k41 x1 x2 x3 x4 x5 s = some res) : P 98 [some (mR 60 0), some (mI x1), some (mI x2), some (mI x3), some (mI x4), some (mI x5)] [] s (0, 0) := by
  refine mgo_from hP [26, 41, 98] 260 ?_
  exact hk41 _ _ _ _ _ h
set_option maxRecDepth 20000 in
set_option maxHeartbeats 4000000 in
theorem cb_M_wide_L41 {xs : Nat → Int32} {L d : Nat} {P : MK S2} {Q : S2 → Option MV → Prop} {res : Int32} {s : S2} (hP : MClosed (O3 xs L) (kcall (O3 xs L) (d + 4)) kd_M_wide 1 Q P) (hQ : Q s (some (mI res))) {k26 : Int32 → Int32 → Int32 → Int32 → S2 → Option Int32} (hk26 : ∀ (x1 : Int32) (x2 : Int32) (x3 : Int32) (x4 : Int32) (x5 : Option Int32), k26 x1 x2 x3 x4 s = some res → P 26 [some (mR 60 0), some (mI x1), some (mI x2), some (mI x3), some (mI x4), oI x5] [] s (0, 0)) {k41 : Int32 → Int32 → Int32 → Int32 → Int32 → S2 → Option Int32} (hk41 : ∀ (x1 : Int32) (x2 : Int32) (x3 : Int32) (x4 : Int32) (x5 : Int32), k41 x1 x2 x3 x4 x5 s = some res → P 41 [some (mR 60 0), some (mI x1), some (mI x2), some (mI x3), some (mI x4), some (mI x5)] [] s (0, 0)) (x1 : Int32) (x2 : Int32) (x3 : Int32) (x4 : Int32) (x5 : Int32) (h : b_M_wide_L41 k26 k41 x1 x2 x3 x4 x5 s = some res) : P 41 [some (mR 60 0), some (mI x1), some (mI x2), some (mI x3), some (mI x4), some (mI x5)] [] s (0, 0) := by
  refine mgo_from hP [26, 41, 98] 260 ?_
  refine go_br (fun hc : (s.1 60 0 28) ≤ x5 => ?_) (fun hc : ¬ ((s.1 60 0 28) ≤ x5) => ?_)
  · replace h := (if_pos hc).symm.trans h
    exact hk26 _ _ _ _ (some x5) h
  · replace h := (if_neg hc).symm.trans h
    obtain ⟨q1, hq, h⟩ := bnd h
    refine go_call (fun _ hw => c_M_isHead hq hw) ?_
    refine go_br (fun hc : (bI q1) = 0 => ?_) (fun hc : ¬ ((bI q1) = 0) => ?_)
    · replace h := (if_pos hc).symm.trans h
      exact c_M_wide_L98 hP hQ hk26 hk41 _ _ _ _ _ h
    · replace h := (if_neg hc).symm.trans h
      obtain ⟨q2, hq, h⟩ := bnd h
      refine go_call (fun _ hw => c_M_isHead hq hw) ?_
      refine go_br (fun hc : (bI q2) = 0 => ?_) (fun hc : ¬ ((bI q2) = 0) => ?_)
      · replace h := (if_pos hc).symm.trans h
        exact c_M_wide_L98 hP hQ hk26 hk41 _ _ _ _ _ h
      · replace h := (if_neg hc).symm.trans h
        obtain ⟨q3, hq, h⟩ := bnd h
        refine go_call (fun _ hw => c_M_farOf hq hw) ?_
        refine go_br (fun hc : q3 ≤ x3 => ?_) (fun hc : ¬ (q3 ≤ x3) => ?_)
        · replace h := (if_pos hc).symm.trans h
          exact c_M_wide_L98 hP hQ hk26 hk41 _ _ _ _ _ h
        · replace h := (if_neg hc).symm.trans h
          obtain ⟨q4, hq, h⟩ := bnd h
          refine go_call (fun _ hw => c_M_farOf hq hw) ?_
          exact c_M_wide_L98 hP hQ hk26 hk41 _ _ _ _ _ h
theorem c_M_wide_L41 {xs : Nat → Int32} {L d : Nat} {P : MK S2} {Q : S2 → Option MV → Prop} {res : Int32} {s : S2} (hP : MClosed (O3 xs L) (kcall (O3 xs L) (d + 4)) kd_M_wide 1 Q P) (hQ : Q s (some (mI res))) {k26 : Int32 → Int32 → Int32 → Int32 → S2 → Option Int32} (hk26 : ∀ (x1 : Int32) (x2 : Int32) (x3 : Int32) (x4 : Int32) (x5 : Option Int32), k26 x1 x2 x3 x4 s = some res → P 26 [some (mR 60 0), some (mI x1), some (mI x2), some (mI x3), some (mI x4), oI x5] [] s (0, 0)) : ∀ (fu : Nat) (x1 : Int32) (x2 : Int32) (x3 : Int32) (x4 : Int32) (x5 : Int32), f_M_wide_L41 k26 fu x1 x2 x3 x4 x5 s = some res → P 41 [some (mR 60 0), some (mI x1), some (mI x2), some (mI x3), some (mI x4), some (mI x5)] [] s (0, 0)
  | 0, _, _, _, _, _, h => by cases h
  | fu + 1, x1, x2, x3, x4, x5, h => cb_M_wide_L41 hP hQ hk26 (c_M_wide_L41 hP hQ hk26 fu) x1 x2 x3 x4 x5 h
theorem cb_M_wide_L26 {xs : Nat → Int32} {L d : Nat} {P : MK S2} {Q : S2 → Option MV → Prop} {res : Int32} {s : S2} (hP : MClosed (O3 xs L) (kcall (O3 xs L) (d + 4)) kd_M_wide 1 Q P) (hQ : Q s (some (mI res))) {k26 : Int32 → Int32 → Int32 → Int32 → S2 → Option Int32} (hk26 : ∀ (x1 : Int32) (x2 : Int32) (x3 : Int32) (x4 : Int32) (x5 : Option Int32), k26 x1 x2 x3 x4 s = some res → P 26 [some (mR 60 0), some (mI x1), some (mI x2), some (mI x3), some (mI x4), oI x5] [] s (0, 0)) (x1 : Int32) (x2 : Int32) (x3 : Int32) (x4 : Int32) (x5 : Option Int32) (h : b_M_wide_L26 k26 x1 x2 x3 x4 s = some res) : P 26 [some (mR 60 0), some (mI x1), some (mI x2), some (mI x3), some (mI x4), oI x5] [] s (0, 0) := by
  refine mgo_from hP [26, 41, 98] 260 ?_
  refine go_br (fun hc : (s.1 60 0 28) ≤ x4 => ?_) (fun hc : ¬ ((s.1 60 0 28) ≤ x4) => ?_)
  · replace h := (if_pos hc).symm.trans h
    refine go_brn (fun hc : ¬ (x1 = 0) => ?_) (fun hc : x1 = 0 => ?_)
    · replace h := (if_neg hc).symm.trans h
      cases h
      exact hQ
    · replace h := (if_pos hc).symm.trans h
      cases h
      exact hQ
  · replace h := (if_neg hc).symm.trans h
    exact c_M_wide_L41 hP hQ hk26 FU _ _ _ _ _ h
theorem c_M_wide_L26 {xs : Nat → Int32} {L d : Nat} {P : MK S2} {Q : S2 → Option MV → Prop} {res : Int32} {s : S2} (hP : MClosed (O3 xs L) (kcall (O3 xs L) (d + 4)) kd_M_wide 1 Q P) (hQ : Q s (some (mI res))) : ∀ (fu : Nat) (x1 : Int32) (x2 : Int32) (x3 : Int32) (x4 : Int32) (x5 : Option Int32), f_M_wide_L26 fu x1 x2 x3 x4 s = some res → P 26 [some (mR 60 0), some (mI x1), some (mI x2), some (mI x3), some (mI x4), oI x5] [] s (0, 0)
  | 0, _, _, _, _, _, h => by cases h
  | fu + 1, x1, x2, x3, x4, x5, h => cb_M_wide_L26 hP hQ (c_M_wide_L26 hP hQ fu) x1 x2 x3 x4 x5 h
theorem c_M_wide {xs : Nat → Int32} {L d : Nat} {a1 : Int32} {s : S2} {res : Int32} {Q : S2 → Option MV → Prop} (h : f_M_wide a1 s = some res) (hQ : Q s (some (mI res))) : kcall (O3 xs L) (d + 5) k_M_wide [mR 60 0, mI a1] s Q := by
  refine kc_of (cd := kd_M_wide) (mx := 6) (rt := 1) rfl rfl ?_
  intro P hP
  refine mgo_sound hP [26, 41, 98] 260 _ _ _ _ _ ?_
  obtain ⟨q1, hq, h⟩ := bnd h
  refine go_call (fun _ hw => c_M_headMany hq hw) ?_
  refine go_br (fun hc : q1 < (Int32.ofInt 2) => ?_) (fun hc : ¬ (q1 < (Int32.ofInt 2)) => ?_)
  · replace h := (if_pos hc).symm.trans h
    cases h
    exact hQ
  · replace h := (if_neg hc).symm.trans h
    refine go_call (fun _ hw => c_M_in hw) ?_
    refine go_brn (fun hc : ¬ ((bI (g_M_in a1 (Int32.ofInt 0) (Int32.ofInt 1) s)) = 0) => ?_) (fun hc : (bI (g_M_in a1 (Int32.ofInt 0) (Int32.ofInt 1) s)) = 0 => ?_)
    · replace h := (if_neg hc).symm.trans h
      exact c_M_wide_L26 hP hQ FU _ _ _ _ none h
    · replace h := (if_pos hc).symm.trans h
      cases h
      exact hQ
/-! M_image -/
def f_M_image (s : S2) : Option (S2 × Int32) := (if (s.1 60 0 28) = 0 then some (s, (Int32.ofInt (-1))) else ((f_M_write 101 0 46 (Int32.ofInt 0) s).bind fun q1 => ((some (pkS q1 60 0 78 (Int32.ofInt 1))).bind fun s2 => some (s2, (s2.1 60 0 37)))))
theorem c_M_image {xs : Nat → Int32} {L d : Nat} {s : S2} {res : S2 × Int32} {Q : S2 → Option MV → Prop} (h : f_M_image s = some res) (hQ : Q res.1 (some (mI res.2))) : kcall (O3 xs L) (d + 3) k_M_image [mR 60 0] s Q := by
  refine kc_of (cd := kd_M_image) (mx := 1) (rt := 1) rfl rfl ?_
  intro P hP
  refine mgo_sound hP [] 260 _ _ _ _ _ ?_
  refine go_brn (fun hc : ¬ ((s.1 60 0 28) = 0) => ?_) (fun hc : (s.1 60 0 28) = 0 => ?_)
  · replace h := (if_neg hc).symm.trans h
    obtain ⟨q1, hq, h⟩ := bnd h
    refine go_call (fun _ hw => c_M_write_101 hq hw) ?_
    replace h := bnds h
    cases h
    exact hQ
  · replace h := (if_pos hc).symm.trans h
    cases h
    exact hQ
/-! M_back -/
def f_M_back (s : S2) : Option (S2 × Int32) := (if (s.1 60 0 78) = 0 then some (s, (Int32.ofInt (-1))) else ((f_M_read 101 0 46 (Int32.ofInt 0) (Int32.ofInt 1) s).bind fun q1 => ((some (pkS q1 60 0 55 (Int32.ofInt 0))).bind fun s2 => some (s2, (s2.1 60 0 37)))))
theorem c_M_back {xs : Nat → Int32} {L d : Nat} {s : S2} {res : S2 × Int32} {Q : S2 → Option MV → Prop} (h : f_M_back s = some res) (hQ : Q res.1 (some (mI res.2))) : kcall (O3 xs L) (d + 2) k_M_back [mR 60 0] s Q := by
  refine kc_of (cd := kd_M_back) (mx := 1) (rt := 1) rfl rfl ?_
  intro P hP
  refine mgo_sound hP [] 260 _ _ _ _ _ ?_
  refine go_brn (fun hc : ¬ ((s.1 60 0 78) = 0) => ?_) (fun hc : (s.1 60 0 78) = 0 => ?_)
  · replace h := (if_neg hc).symm.trans h
    obtain ⟨q1, hq, h⟩ := bnd h
    refine go_call (fun _ hw => c_M_read_101 hq hw) ?_
    replace h := bnds h
    cases h
    exact hQ
  · replace h := (if_pos hc).symm.trans h
    cases h
    exact hQ
/-! M_count -/
def f_M_count (a1 : Int32) (s : S2) : Option Int32 := (if a1 = (Int32.ofInt 0) then some (s.1 60 0 28) else (if a1 = (Int32.ofInt 1) then ((f_M_headMany s).bind fun q1 => some q1) else (if a1 = (Int32.ofInt 2) then some (s.1 60 0 29) else (if a1 = (Int32.ofInt 3) then some (s.1 60 0 30) else (if a1 = (Int32.ofInt 4) then some (s.1 60 0 13) else (if a1 = (Int32.ofInt 5) then some (s.1 60 0 2) else (if a1 = (Int32.ofInt 6) then some (s.1 60 0 37) else (if a1 = (Int32.ofInt 7) then some (s.1 60 0 40) else (if a1 = (Int32.ofInt 8) then some (s.1 75 0 0) else (if a1 = (Int32.ofInt 9) then some (s.1 75 0 1) else (if a1 = (Int32.ofInt 10) then some (s.1 75 0 2) else (if a1 = (Int32.ofInt 11) then some (s.1 75 0 3) else (if a1 = (Int32.ofInt 12) then some (s.1 60 0 76) else (if a1 = (Int32.ofInt 13) then some (s.1 60 0 55) else (if a1 = (Int32.ofInt 14) then some (s.1 60 0 57) else some (Int32.ofInt (-1000000)))))))))))))))))
set_option maxRecDepth 20000 in
set_option maxHeartbeats 4000000 in
theorem c_M_count {xs : Nat → Int32} {L d : Nat} {a1 : Int32} {s : S2} {res : Int32} {Q : S2 → Option MV → Prop} (h : f_M_count a1 s = some res) (hQ : Q s (some (mI res))) : kcall (O3 xs L) (d + 5) k_M_count [mR 60 0, mI a1] s Q := by
  refine kc_of (cd := kd_M_count) (mx := 2) (rt := 1) rfl rfl ?_
  intro P hP
  refine mgo_sound hP [] 260 _ _ _ _ _ ?_
  refine go_br (fun hc : a1 = (Int32.ofInt 0) => ?_) (fun hc : ¬ (a1 = (Int32.ofInt 0)) => ?_)
  · replace h := (if_pos hc).symm.trans h
    cases h
    exact hQ
  · replace h := (if_neg hc).symm.trans h
    refine go_br (fun hc : a1 = (Int32.ofInt 1) => ?_) (fun hc : ¬ (a1 = (Int32.ofInt 1)) => ?_)
    · replace h := (if_pos hc).symm.trans h
      obtain ⟨q1, hq, h⟩ := bnd h
      refine go_call (fun _ hw => c_M_headMany hq hw) ?_
      cases h
      exact hQ
    · replace h := (if_neg hc).symm.trans h
      refine go_br (fun hc : a1 = (Int32.ofInt 2) => ?_) (fun hc : ¬ (a1 = (Int32.ofInt 2)) => ?_)
      · replace h := (if_pos hc).symm.trans h
        cases h
        exact hQ
      · replace h := (if_neg hc).symm.trans h
        refine go_br (fun hc : a1 = (Int32.ofInt 3) => ?_) (fun hc : ¬ (a1 = (Int32.ofInt 3)) => ?_)
        · replace h := (if_pos hc).symm.trans h
          cases h
          exact hQ
        · replace h := (if_neg hc).symm.trans h
          refine go_br (fun hc : a1 = (Int32.ofInt 4) => ?_) (fun hc : ¬ (a1 = (Int32.ofInt 4)) => ?_)
          · replace h := (if_pos hc).symm.trans h
            cases h
            exact hQ
          · replace h := (if_neg hc).symm.trans h
            refine go_br (fun hc : a1 = (Int32.ofInt 5) => ?_) (fun hc : ¬ (a1 = (Int32.ofInt 5)) => ?_)
            · replace h := (if_pos hc).symm.trans h
              cases h
              exact hQ
            · replace h := (if_neg hc).symm.trans h
              refine go_br (fun hc : a1 = (Int32.ofInt 6) => ?_) (fun hc : ¬ (a1 = (Int32.ofInt 6)) => ?_)
              · replace h := (if_pos hc).symm.trans h
                cases h
                exact hQ
              · replace h := (if_neg hc).symm.trans h
                refine go_br (fun hc : a1 = (Int32.ofInt 7) => ?_) (fun hc : ¬ (a1 = (Int32.ofInt 7)) => ?_)
                · replace h := (if_pos hc).symm.trans h
                  cases h
                  exact hQ
                · replace h := (if_neg hc).symm.trans h
                  refine go_br (fun hc : a1 = (Int32.ofInt 8) => ?_) (fun hc : ¬ (a1 = (Int32.ofInt 8)) => ?_)
                  · replace h := (if_pos hc).symm.trans h
                    refine go_ix 0 (Nat.le_of_ble_eq_true rfl) rfl ?_
                    cases h
                    exact hQ
                  · replace h := (if_neg hc).symm.trans h
                    refine go_br (fun hc : a1 = (Int32.ofInt 9) => ?_) (fun hc : ¬ (a1 = (Int32.ofInt 9)) => ?_)
                    · replace h := (if_pos hc).symm.trans h
                      refine go_ix 1 (Nat.le_of_ble_eq_true rfl) rfl ?_
                      cases h
                      exact hQ
                    · replace h := (if_neg hc).symm.trans h
                      refine go_br (fun hc : a1 = (Int32.ofInt 10) => ?_) (fun hc : ¬ (a1 = (Int32.ofInt 10)) => ?_)
                      · replace h := (if_pos hc).symm.trans h
                        refine go_ix 2 (Nat.le_of_ble_eq_true rfl) rfl ?_
                        cases h
                        exact hQ
                      · replace h := (if_neg hc).symm.trans h
                        refine go_br (fun hc : a1 = (Int32.ofInt 11) => ?_) (fun hc : ¬ (a1 = (Int32.ofInt 11)) => ?_)
                        · replace h := (if_pos hc).symm.trans h
                          refine go_ix 3 (Nat.le_of_ble_eq_true rfl) rfl ?_
                          cases h
                          exact hQ
                        · replace h := (if_neg hc).symm.trans h
                          refine go_br (fun hc : a1 = (Int32.ofInt 12) => ?_) (fun hc : ¬ (a1 = (Int32.ofInt 12)) => ?_)
                          · replace h := (if_pos hc).symm.trans h
                            cases h
                            exact hQ
                          · replace h := (if_neg hc).symm.trans h
                            refine go_br (fun hc : a1 = (Int32.ofInt 13) => ?_) (fun hc : ¬ (a1 = (Int32.ofInt 13)) => ?_)
                            · replace h := (if_pos hc).symm.trans h
                              cases h
                              exact hQ
                            · replace h := (if_neg hc).symm.trans h
                              refine go_br (fun hc : a1 = (Int32.ofInt 14) => ?_) (fun hc : ¬ (a1 = (Int32.ofInt 14)) => ?_)
                              · replace h := (if_pos hc).symm.trans h
                                cases h
                                exact hQ
                              · replace h := (if_neg hc).symm.trans h
                                cases h
                                exact hQ
/-! Arrays_fill -/
def b_Arrays_fill_L5 (c0 : Nat) (i0 : Nat) (n0 : Nat) (k5 : Int32 → Int32 → Int32 → S2 → Option S2) (x1 : Int32) (x2 : Int32) (x3 : Int32) (s : S2) : Option S2 := (if x3 ≤ x2 then some s else ((ix n0 x2).bind fun j2 => (some (pkS s c0 i0 j2 x1)).bind fun s1 => (k5 x1 (x2 + (Int32.ofInt 1)) x3 s1)))
def f_Arrays_fill_L5 (c0 : Nat) (i0 : Nat) (n0 : Nat) : Nat → Int32 → Int32 → Int32 → S2 → Option S2
  | 0 => fun _ _ _ _ => none
  | n + 1 => b_Arrays_fill_L5 c0 i0 n0 (f_Arrays_fill_L5 c0 i0 n0 n)
def f_Arrays_fill (c0 : Nat) (i0 : Nat) (n0 : Nat) (a1 : Int32) (s : S2) : Option S2 := (f_Arrays_fill_L5 c0 i0 n0 FU a1 (Int32.ofInt 0) (nI n0) s)
theorem cb_Arrays_fill_15_L5 {xs : Nat → Int32} {L d : Nat} {i0 : Nat} {P : MK S2} {Q : S2 → Option MV → Prop} {res : S2} (hP : MClosed (O3 xs L) (kcall (O3 xs L) (d + 0)) kd_Arrays_fill 0 Q P) (hQ : Q res none) {k5 : Int32 → Int32 → Int32 → S2 → Option S2} (hk5 : ∀ (x1 : Int32) (x2 : Int32) (x3 : Int32) (s : S2), k5 x1 x2 x3 s = some res → P 5 [some (mR 15 i0), some (mI x1), some (mI x2), some (mI x3)] [] s (0, 0)) (x1 : Int32) (x2 : Int32) (x3 : Int32) (s : S2) (h : b_Arrays_fill_L5 15 i0 4 k5 x1 x2 x3 s = some res) : P 5 [some (mR 15 i0), some (mI x1), some (mI x2), some (mI x3)] [] s (0, 0) := by
  refine mgo_from hP [5] 260 ?_
  refine go_br (fun hc : x3 ≤ x2 => ?_) (fun hc : ¬ (x3 ≤ x2) => ?_)
  · replace h := (if_pos hc).symm.trans h
    cases h
    exact hQ
  · replace h := (if_neg hc).symm.trans h
    obtain ⟨j2, hj, h⟩ := bnd h
    replace h := bnds h
    refine go_ix j2 (ix_lt hj) (ix_eq hj) ?_
    exact hk5 _ _ _ _ h
theorem c_Arrays_fill_15_L5 {xs : Nat → Int32} {L d : Nat} {i0 : Nat} {P : MK S2} {Q : S2 → Option MV → Prop} {res : S2} (hP : MClosed (O3 xs L) (kcall (O3 xs L) (d + 0)) kd_Arrays_fill 0 Q P) (hQ : Q res none) : ∀ (fu : Nat) (x1 : Int32) (x2 : Int32) (x3 : Int32) (s : S2), f_Arrays_fill_L5 15 i0 4 fu x1 x2 x3 s = some res → P 5 [some (mR 15 i0), some (mI x1), some (mI x2), some (mI x3)] [] s (0, 0)
  | 0, _, _, _, _, h => by cases h
  | fu + 1, x1, x2, x3, s, h => cb_Arrays_fill_15_L5 hP hQ (c_Arrays_fill_15_L5 hP hQ fu) x1 x2 x3 s h
theorem c_Arrays_fill_15 {xs : Nat → Int32} {L d : Nat} {i0 : Nat} {a1 : Int32} {s : S2} {res : S2} {Q : S2 → Option MV → Prop} (h : f_Arrays_fill 15 i0 4 a1 s = some res) (hQ : Q res none) : kcall (O3 xs L) (d + 1) k_Arrays_fill [mR 15 i0, mI a1] s Q := by
  refine kc_of (cd := kd_Arrays_fill) (mx := 4) (rt := 0) rfl rfl ?_
  intro P hP
  refine mgo_sound hP [5] 260 _ _ _ _ _ ?_
  exact c_Arrays_fill_15_L5 hP hQ FU _ _ _ _ h
theorem cb_Arrays_fill_27_L5 {xs : Nat → Int32} {L d : Nat} {i0 : Nat} {P : MK S2} {Q : S2 → Option MV → Prop} {res : S2} (hP : MClosed (O3 xs L) (kcall (O3 xs L) (d + 0)) kd_Arrays_fill 0 Q P) (hQ : Q res none) {k5 : Int32 → Int32 → Int32 → S2 → Option S2} (hk5 : ∀ (x1 : Int32) (x2 : Int32) (x3 : Int32) (s : S2), k5 x1 x2 x3 s = some res → P 5 [some (mR 27 i0), some (mI x1), some (mI x2), some (mI x3)] [] s (0, 0)) (x1 : Int32) (x2 : Int32) (x3 : Int32) (s : S2) (h : b_Arrays_fill_L5 27 i0 36 k5 x1 x2 x3 s = some res) : P 5 [some (mR 27 i0), some (mI x1), some (mI x2), some (mI x3)] [] s (0, 0) := by
  refine mgo_from hP [5] 260 ?_
  refine go_br (fun hc : x3 ≤ x2 => ?_) (fun hc : ¬ (x3 ≤ x2) => ?_)
  · replace h := (if_pos hc).symm.trans h
    cases h
    exact hQ
  · replace h := (if_neg hc).symm.trans h
    obtain ⟨j2, hj, h⟩ := bnd h
    replace h := bnds h
    refine go_ix j2 (ix_lt hj) (ix_eq hj) ?_
    exact hk5 _ _ _ _ h
theorem c_Arrays_fill_27_L5 {xs : Nat → Int32} {L d : Nat} {i0 : Nat} {P : MK S2} {Q : S2 → Option MV → Prop} {res : S2} (hP : MClosed (O3 xs L) (kcall (O3 xs L) (d + 0)) kd_Arrays_fill 0 Q P) (hQ : Q res none) : ∀ (fu : Nat) (x1 : Int32) (x2 : Int32) (x3 : Int32) (s : S2), f_Arrays_fill_L5 27 i0 36 fu x1 x2 x3 s = some res → P 5 [some (mR 27 i0), some (mI x1), some (mI x2), some (mI x3)] [] s (0, 0)
  | 0, _, _, _, _, h => by cases h
  | fu + 1, x1, x2, x3, s, h => cb_Arrays_fill_27_L5 hP hQ (c_Arrays_fill_27_L5 hP hQ fu) x1 x2 x3 s h
theorem c_Arrays_fill_27 {xs : Nat → Int32} {L d : Nat} {i0 : Nat} {a1 : Int32} {s : S2} {res : S2} {Q : S2 → Option MV → Prop} (h : f_Arrays_fill 27 i0 36 a1 s = some res) (hQ : Q res none) : kcall (O3 xs L) (d + 1) k_Arrays_fill [mR 27 i0, mI a1] s Q := by
  refine kc_of (cd := kd_Arrays_fill) (mx := 4) (rt := 0) rfl rfl ?_
  intro P hP
  refine mgo_sound hP [5] 260 _ _ _ _ _ ?_
  exact c_Arrays_fill_27_L5 hP hQ FU _ _ _ _ h
theorem cb_Arrays_fill_28_L5 {xs : Nat → Int32} {L d : Nat} {i0 : Nat} {P : MK S2} {Q : S2 → Option MV → Prop} {res : S2} (hP : MClosed (O3 xs L) (kcall (O3 xs L) (d + 0)) kd_Arrays_fill 0 Q P) (hQ : Q res none) {k5 : Int32 → Int32 → Int32 → S2 → Option S2} (hk5 : ∀ (x1 : Int32) (x2 : Int32) (x3 : Int32) (s : S2), k5 x1 x2 x3 s = some res → P 5 [some (mR 28 i0), some (mI x1), some (mI x2), some (mI x3)] [] s (0, 0)) (x1 : Int32) (x2 : Int32) (x3 : Int32) (s : S2) (h : b_Arrays_fill_L5 28 i0 6 k5 x1 x2 x3 s = some res) : P 5 [some (mR 28 i0), some (mI x1), some (mI x2), some (mI x3)] [] s (0, 0) := by
  refine mgo_from hP [5] 260 ?_
  refine go_br (fun hc : x3 ≤ x2 => ?_) (fun hc : ¬ (x3 ≤ x2) => ?_)
  · replace h := (if_pos hc).symm.trans h
    cases h
    exact hQ
  · replace h := (if_neg hc).symm.trans h
    obtain ⟨j2, hj, h⟩ := bnd h
    replace h := bnds h
    refine go_ix j2 (ix_lt hj) (ix_eq hj) ?_
    exact hk5 _ _ _ _ h
theorem c_Arrays_fill_28_L5 {xs : Nat → Int32} {L d : Nat} {i0 : Nat} {P : MK S2} {Q : S2 → Option MV → Prop} {res : S2} (hP : MClosed (O3 xs L) (kcall (O3 xs L) (d + 0)) kd_Arrays_fill 0 Q P) (hQ : Q res none) : ∀ (fu : Nat) (x1 : Int32) (x2 : Int32) (x3 : Int32) (s : S2), f_Arrays_fill_L5 28 i0 6 fu x1 x2 x3 s = some res → P 5 [some (mR 28 i0), some (mI x1), some (mI x2), some (mI x3)] [] s (0, 0)
  | 0, _, _, _, _, h => by cases h
  | fu + 1, x1, x2, x3, s, h => cb_Arrays_fill_28_L5 hP hQ (c_Arrays_fill_28_L5 hP hQ fu) x1 x2 x3 s h
theorem c_Arrays_fill_28 {xs : Nat → Int32} {L d : Nat} {i0 : Nat} {a1 : Int32} {s : S2} {res : S2} {Q : S2 → Option MV → Prop} (h : f_Arrays_fill 28 i0 6 a1 s = some res) (hQ : Q res none) : kcall (O3 xs L) (d + 1) k_Arrays_fill [mR 28 i0, mI a1] s Q := by
  refine kc_of (cd := kd_Arrays_fill) (mx := 4) (rt := 0) rfl rfl ?_
  intro P hP
  refine mgo_sound hP [5] 260 _ _ _ _ _ ?_
  exact c_Arrays_fill_28_L5 hP hQ FU _ _ _ _ h
theorem cb_Arrays_fill_29_L5 {xs : Nat → Int32} {L d : Nat} {i0 : Nat} {P : MK S2} {Q : S2 → Option MV → Prop} {res : S2} (hP : MClosed (O3 xs L) (kcall (O3 xs L) (d + 0)) kd_Arrays_fill 0 Q P) (hQ : Q res none) {k5 : Int32 → Int32 → Int32 → S2 → Option S2} (hk5 : ∀ (x1 : Int32) (x2 : Int32) (x3 : Int32) (s : S2), k5 x1 x2 x3 s = some res → P 5 [some (mR 29 i0), some (mI x1), some (mI x2), some (mI x3)] [] s (0, 0)) (x1 : Int32) (x2 : Int32) (x3 : Int32) (s : S2) (h : b_Arrays_fill_L5 29 i0 6 k5 x1 x2 x3 s = some res) : P 5 [some (mR 29 i0), some (mI x1), some (mI x2), some (mI x3)] [] s (0, 0) := by
  refine mgo_from hP [5] 260 ?_
  refine go_br (fun hc : x3 ≤ x2 => ?_) (fun hc : ¬ (x3 ≤ x2) => ?_)
  · replace h := (if_pos hc).symm.trans h
    cases h
    exact hQ
  · replace h := (if_neg hc).symm.trans h
    obtain ⟨j2, hj, h⟩ := bnd h
    replace h := bnds h
    refine go_ix j2 (ix_lt hj) (ix_eq hj) ?_
    exact hk5 _ _ _ _ h
theorem c_Arrays_fill_29_L5 {xs : Nat → Int32} {L d : Nat} {i0 : Nat} {P : MK S2} {Q : S2 → Option MV → Prop} {res : S2} (hP : MClosed (O3 xs L) (kcall (O3 xs L) (d + 0)) kd_Arrays_fill 0 Q P) (hQ : Q res none) : ∀ (fu : Nat) (x1 : Int32) (x2 : Int32) (x3 : Int32) (s : S2), f_Arrays_fill_L5 29 i0 6 fu x1 x2 x3 s = some res → P 5 [some (mR 29 i0), some (mI x1), some (mI x2), some (mI x3)] [] s (0, 0)
  | 0, _, _, _, _, h => by cases h
  | fu + 1, x1, x2, x3, s, h => cb_Arrays_fill_29_L5 hP hQ (c_Arrays_fill_29_L5 hP hQ fu) x1 x2 x3 s h
theorem c_Arrays_fill_29 {xs : Nat → Int32} {L d : Nat} {i0 : Nat} {a1 : Int32} {s : S2} {res : S2} {Q : S2 → Option MV → Prop} (h : f_Arrays_fill 29 i0 6 a1 s = some res) (hQ : Q res none) : kcall (O3 xs L) (d + 1) k_Arrays_fill [mR 29 i0, mI a1] s Q := by
  refine kc_of (cd := kd_Arrays_fill) (mx := 4) (rt := 0) rfl rfl ?_
  intro P hP
  refine mgo_sound hP [5] 260 _ _ _ _ _ ?_
  exact c_Arrays_fill_29_L5 hP hQ FU _ _ _ _ h
theorem cb_Arrays_fill_33_L5 {xs : Nat → Int32} {L d : Nat} {i0 : Nat} {P : MK S2} {Q : S2 → Option MV → Prop} {res : S2} (hP : MClosed (O3 xs L) (kcall (O3 xs L) (d + 0)) kd_Arrays_fill 0 Q P) (hQ : Q res none) {k5 : Int32 → Int32 → Int32 → S2 → Option S2} (hk5 : ∀ (x1 : Int32) (x2 : Int32) (x3 : Int32) (s : S2), k5 x1 x2 x3 s = some res → P 5 [some (mR 33 i0), some (mI x1), some (mI x2), some (mI x3)] [] s (0, 0)) (x1 : Int32) (x2 : Int32) (x3 : Int32) (s : S2) (h : b_Arrays_fill_L5 33 i0 6 k5 x1 x2 x3 s = some res) : P 5 [some (mR 33 i0), some (mI x1), some (mI x2), some (mI x3)] [] s (0, 0) := by
  refine mgo_from hP [5] 260 ?_
  refine go_br (fun hc : x3 ≤ x2 => ?_) (fun hc : ¬ (x3 ≤ x2) => ?_)
  · replace h := (if_pos hc).symm.trans h
    cases h
    exact hQ
  · replace h := (if_neg hc).symm.trans h
    obtain ⟨j2, hj, h⟩ := bnd h
    replace h := bnds h
    refine go_ix j2 (ix_lt hj) (ix_eq hj) ?_
    exact hk5 _ _ _ _ h
theorem c_Arrays_fill_33_L5 {xs : Nat → Int32} {L d : Nat} {i0 : Nat} {P : MK S2} {Q : S2 → Option MV → Prop} {res : S2} (hP : MClosed (O3 xs L) (kcall (O3 xs L) (d + 0)) kd_Arrays_fill 0 Q P) (hQ : Q res none) : ∀ (fu : Nat) (x1 : Int32) (x2 : Int32) (x3 : Int32) (s : S2), f_Arrays_fill_L5 33 i0 6 fu x1 x2 x3 s = some res → P 5 [some (mR 33 i0), some (mI x1), some (mI x2), some (mI x3)] [] s (0, 0)
  | 0, _, _, _, _, h => by cases h
  | fu + 1, x1, x2, x3, s, h => cb_Arrays_fill_33_L5 hP hQ (c_Arrays_fill_33_L5 hP hQ fu) x1 x2 x3 s h
theorem c_Arrays_fill_33 {xs : Nat → Int32} {L d : Nat} {i0 : Nat} {a1 : Int32} {s : S2} {res : S2} {Q : S2 → Option MV → Prop} (h : f_Arrays_fill 33 i0 6 a1 s = some res) (hQ : Q res none) : kcall (O3 xs L) (d + 1) k_Arrays_fill [mR 33 i0, mI a1] s Q := by
  refine kc_of (cd := kd_Arrays_fill) (mx := 4) (rt := 0) rfl rfl ?_
  intro P hP
  refine mgo_sound hP [5] 260 _ _ _ _ _ ?_
  exact c_Arrays_fill_33_L5 hP hQ FU _ _ _ _ h
theorem cb_Arrays_fill_34_L5 {xs : Nat → Int32} {L d : Nat} {i0 : Nat} {P : MK S2} {Q : S2 → Option MV → Prop} {res : S2} (hP : MClosed (O3 xs L) (kcall (O3 xs L) (d + 0)) kd_Arrays_fill 0 Q P) (hQ : Q res none) {k5 : Int32 → Int32 → Int32 → S2 → Option S2} (hk5 : ∀ (x1 : Int32) (x2 : Int32) (x3 : Int32) (s : S2), k5 x1 x2 x3 s = some res → P 5 [some (mR 34 i0), some (mI x1), some (mI x2), some (mI x3)] [] s (0, 0)) (x1 : Int32) (x2 : Int32) (x3 : Int32) (s : S2) (h : b_Arrays_fill_L5 34 i0 6 k5 x1 x2 x3 s = some res) : P 5 [some (mR 34 i0), some (mI x1), some (mI x2), some (mI x3)] [] s (0, 0) := by
  refine mgo_from hP [5] 260 ?_
  refine go_br (fun hc : x3 ≤ x2 => ?_) (fun hc : ¬ (x3 ≤ x2) => ?_)
  · replace h := (if_pos hc).symm.trans h
    cases h
    exact hQ
  · replace h := (if_neg hc).symm.trans h
    obtain ⟨j2, hj, h⟩ := bnd h
    replace h := bnds h
    refine go_ix j2 (ix_lt hj) (ix_eq hj) ?_
    exact hk5 _ _ _ _ h
theorem c_Arrays_fill_34_L5 {xs : Nat → Int32} {L d : Nat} {i0 : Nat} {P : MK S2} {Q : S2 → Option MV → Prop} {res : S2} (hP : MClosed (O3 xs L) (kcall (O3 xs L) (d + 0)) kd_Arrays_fill 0 Q P) (hQ : Q res none) : ∀ (fu : Nat) (x1 : Int32) (x2 : Int32) (x3 : Int32) (s : S2), f_Arrays_fill_L5 34 i0 6 fu x1 x2 x3 s = some res → P 5 [some (mR 34 i0), some (mI x1), some (mI x2), some (mI x3)] [] s (0, 0)
  | 0, _, _, _, _, h => by cases h
  | fu + 1, x1, x2, x3, s, h => cb_Arrays_fill_34_L5 hP hQ (c_Arrays_fill_34_L5 hP hQ fu) x1 x2 x3 s h
theorem c_Arrays_fill_34 {xs : Nat → Int32} {L d : Nat} {i0 : Nat} {a1 : Int32} {s : S2} {res : S2} {Q : S2 → Option MV → Prop} (h : f_Arrays_fill 34 i0 6 a1 s = some res) (hQ : Q res none) : kcall (O3 xs L) (d + 1) k_Arrays_fill [mR 34 i0, mI a1] s Q := by
  refine kc_of (cd := kd_Arrays_fill) (mx := 4) (rt := 0) rfl rfl ?_
  intro P hP
  refine mgo_sound hP [5] 260 _ _ _ _ _ ?_
  exact c_Arrays_fill_34_L5 hP hQ FU _ _ _ _ h
theorem cb_Arrays_fill_21_L5 {xs : Nat → Int32} {L d : Nat} {i0 : Nat} {P : MK S2} {Q : S2 → Option MV → Prop} {res : S2} (hP : MClosed (O3 xs L) (kcall (O3 xs L) (d + 0)) kd_Arrays_fill 0 Q P) (hQ : Q res none) {k5 : Int32 → Int32 → Int32 → S2 → Option S2} (hk5 : ∀ (x1 : Int32) (x2 : Int32) (x3 : Int32) (s : S2), k5 x1 x2 x3 s = some res → P 5 [some (mR 21 i0), some (mI x1), some (mI x2), some (mI x3)] [] s (0, 0)) (x1 : Int32) (x2 : Int32) (x3 : Int32) (s : S2) (h : b_Arrays_fill_L5 21 i0 49 k5 x1 x2 x3 s = some res) : P 5 [some (mR 21 i0), some (mI x1), some (mI x2), some (mI x3)] [] s (0, 0) := by
  refine mgo_from hP [5] 260 ?_
  refine go_br (fun hc : x3 ≤ x2 => ?_) (fun hc : ¬ (x3 ≤ x2) => ?_)
  · replace h := (if_pos hc).symm.trans h
    cases h
    exact hQ
  · replace h := (if_neg hc).symm.trans h
    obtain ⟨j2, hj, h⟩ := bnd h
    replace h := bnds h
    refine go_ix j2 (ix_lt hj) (ix_eq hj) ?_
    exact hk5 _ _ _ _ h
theorem c_Arrays_fill_21_L5 {xs : Nat → Int32} {L d : Nat} {i0 : Nat} {P : MK S2} {Q : S2 → Option MV → Prop} {res : S2} (hP : MClosed (O3 xs L) (kcall (O3 xs L) (d + 0)) kd_Arrays_fill 0 Q P) (hQ : Q res none) : ∀ (fu : Nat) (x1 : Int32) (x2 : Int32) (x3 : Int32) (s : S2), f_Arrays_fill_L5 21 i0 49 fu x1 x2 x3 s = some res → P 5 [some (mR 21 i0), some (mI x1), some (mI x2), some (mI x3)] [] s (0, 0)
  | 0, _, _, _, _, h => by cases h
  | fu + 1, x1, x2, x3, s, h => cb_Arrays_fill_21_L5 hP hQ (c_Arrays_fill_21_L5 hP hQ fu) x1 x2 x3 s h
theorem c_Arrays_fill_21 {xs : Nat → Int32} {L d : Nat} {i0 : Nat} {a1 : Int32} {s : S2} {res : S2} {Q : S2 → Option MV → Prop} (h : f_Arrays_fill 21 i0 49 a1 s = some res) (hQ : Q res none) : kcall (O3 xs L) (d + 1) k_Arrays_fill [mR 21 i0, mI a1] s Q := by
  refine kc_of (cd := kd_Arrays_fill) (mx := 4) (rt := 0) rfl rfl ?_
  intro P hP
  refine mgo_sound hP [5] 260 _ _ _ _ _ ?_
  exact c_Arrays_fill_21_L5 hP hQ FU _ _ _ _ h
/-! Arrays_rangeCheck -/
def f_Arrays_rangeCheck (a0 : Int32) (a1 : Int32) (a2 : Int32) (s : S2) : Option S2 := (if a1 ≤ a2 then (if 0 ≤ a1 then (if a2 ≤ a0 then some s else none) else none) else none)
theorem c_Arrays_rangeCheck {xs : Nat → Int32} {L d : Nat} {a0 : Int32} {a1 : Int32} {a2 : Int32} {s : S2} {res : S2} {Q : S2 → Option MV → Prop} (h : f_Arrays_rangeCheck a0 a1 a2 s = some res) (hQ : Q res none) : kcall (O3 xs L) (d + 1) k_Arrays_rangeCheck [mI a0, mI a1, mI a2] s Q := by
  refine kc_of (cd := kd_Arrays_rangeCheck) (mx := 3) (rt := 0) rfl rfl ?_
  intro P hP
  refine mgo_sound hP [] 260 _ _ _ _ _ ?_
  refine go_br (fun hc : a1 ≤ a2 => ?_) (fun hc : ¬ (a1 ≤ a2) => ?_)
  · replace h := (if_pos hc).symm.trans h
    refine go_br (fun hc : 0 ≤ a1 => ?_) (fun hc : ¬ (0 ≤ a1) => ?_)
    · replace h := (if_pos hc).symm.trans h
      refine go_br (fun hc : a2 ≤ a0 => ?_) (fun hc : ¬ (a2 ≤ a0) => ?_)
      · replace h := (if_pos hc).symm.trans h
        cases h
        exact hQ
      · replace h := (if_neg hc).symm.trans h
        cases h
    · replace h := (if_neg hc).symm.trans h
      cases h
  · replace h := (if_neg hc).symm.trans h
    cases h
/-! Integer_bitCount -/
def g_Integer_bitCount (a0 : Int32) (s : S2) : Int32 := ((((((((a0 - ((jushr a0 (Int32.ofInt 1)) &&& (Int32.ofInt 1431655765))) &&& (Int32.ofInt 858993459)) + ((jushr (a0 - ((jushr a0 (Int32.ofInt 1)) &&& (Int32.ofInt 1431655765))) (Int32.ofInt 2)) &&& (Int32.ofInt 858993459))) + (jushr (((a0 - ((jushr a0 (Int32.ofInt 1)) &&& (Int32.ofInt 1431655765))) &&& (Int32.ofInt 858993459)) + ((jushr (a0 - ((jushr a0 (Int32.ofInt 1)) &&& (Int32.ofInt 1431655765))) (Int32.ofInt 2)) &&& (Int32.ofInt 858993459))) (Int32.ofInt 4))) &&& (Int32.ofInt 252645135)) + (jushr (((((a0 - ((jushr a0 (Int32.ofInt 1)) &&& (Int32.ofInt 1431655765))) &&& (Int32.ofInt 858993459)) + ((jushr (a0 - ((jushr a0 (Int32.ofInt 1)) &&& (Int32.ofInt 1431655765))) (Int32.ofInt 2)) &&& (Int32.ofInt 858993459))) + (jushr (((a0 - ((jushr a0 (Int32.ofInt 1)) &&& (Int32.ofInt 1431655765))) &&& (Int32.ofInt 858993459)) + ((jushr (a0 - ((jushr a0 (Int32.ofInt 1)) &&& (Int32.ofInt 1431655765))) (Int32.ofInt 2)) &&& (Int32.ofInt 858993459))) (Int32.ofInt 4))) &&& (Int32.ofInt 252645135)) (Int32.ofInt 8))) + (jushr ((((((a0 - ((jushr a0 (Int32.ofInt 1)) &&& (Int32.ofInt 1431655765))) &&& (Int32.ofInt 858993459)) + ((jushr (a0 - ((jushr a0 (Int32.ofInt 1)) &&& (Int32.ofInt 1431655765))) (Int32.ofInt 2)) &&& (Int32.ofInt 858993459))) + (jushr (((a0 - ((jushr a0 (Int32.ofInt 1)) &&& (Int32.ofInt 1431655765))) &&& (Int32.ofInt 858993459)) + ((jushr (a0 - ((jushr a0 (Int32.ofInt 1)) &&& (Int32.ofInt 1431655765))) (Int32.ofInt 2)) &&& (Int32.ofInt 858993459))) (Int32.ofInt 4))) &&& (Int32.ofInt 252645135)) + (jushr (((((a0 - ((jushr a0 (Int32.ofInt 1)) &&& (Int32.ofInt 1431655765))) &&& (Int32.ofInt 858993459)) + ((jushr (a0 - ((jushr a0 (Int32.ofInt 1)) &&& (Int32.ofInt 1431655765))) (Int32.ofInt 2)) &&& (Int32.ofInt 858993459))) + (jushr (((a0 - ((jushr a0 (Int32.ofInt 1)) &&& (Int32.ofInt 1431655765))) &&& (Int32.ofInt 858993459)) + ((jushr (a0 - ((jushr a0 (Int32.ofInt 1)) &&& (Int32.ofInt 1431655765))) (Int32.ofInt 2)) &&& (Int32.ofInt 858993459))) (Int32.ofInt 4))) &&& (Int32.ofInt 252645135)) (Int32.ofInt 8))) (Int32.ofInt 16))) &&& (Int32.ofInt 63))
theorem cr_Integer_bitCount {xs : Nat → Int32} {L d : Nat} {a0 : Int32} {s : S2} {res : Int32} {Q : S2 → Option MV → Prop} (h : g_Integer_bitCount a0 s = res) (hQ : Q s (some (mI res))) : kcall (O3 xs L) (d + 1) k_Integer_bitCount [mI a0] s Q := by
  refine kc_of (cd := kd_Integer_bitCount) (mx := 1) (rt := 1) rfl rfl ?_
  intro P hP
  refine mgo_sound hP [] 260 _ _ _ _ _ ?_
  cases h
  exact hQ
theorem c_Integer_bitCount {xs : Nat → Int32} {L d : Nat} {a0 : Int32} {s : S2} {Q : S2 → Option MV → Prop} (hQ : Q s (some (mI (g_Integer_bitCount a0 s)))) : kcall (O3 xs L) (d + 1) k_Integer_bitCount [mI a0] s Q := cr_Integer_bitCount rfl hQ
/-! Integer_numberOfTrailingZeros -/
def f_Integer_numberOfTrailingZeros_L74 (x0 : Int32) (x1 : Int32) (s : S2) : Int32 := (x1 + (jushr x0 (Int32.ofInt 1)))
def f_Integer_numberOfTrailingZeros_L62 (x0 : Int32) (x1 : Int32) (s : S2) : Int32 := (if x0 ≤ (Int32.ofInt 4) then (f_Integer_numberOfTrailingZeros_L74 x0 x1 s) else (f_Integer_numberOfTrailingZeros_L74 (jushr x0 (Int32.ofInt 2)) (x1 + (Int32.ofInt 2)) s))
def f_Integer_numberOfTrailingZeros_L49 (x0 : Int32) (x1 : Int32) (s : S2) : Int32 := (if x0 ≤ (Int32.ofInt 16) then (f_Integer_numberOfTrailingZeros_L62 x0 x1 s) else (f_Integer_numberOfTrailingZeros_L62 (jushr x0 (Int32.ofInt 4)) (x1 + (Int32.ofInt 4)) s))
def f_Integer_numberOfTrailingZeros_L34 (x0 : Int32) (x1 : Int32) (s : S2) : Int32 := (if x0 ≤ (Int32.ofInt 256) then (f_Integer_numberOfTrailingZeros_L49 x0 x1 s) else (f_Integer_numberOfTrailingZeros_L49 (jushr x0 (Int32.ofInt 8)) (x1 + (Int32.ofInt 8)) s))
def g_Integer_numberOfTrailingZeros (a0 : Int32) (s : S2) : Int32 := (if 0 < ((a0 ^^^ (Int32.ofInt (-1))) &&& (a0 - (Int32.ofInt 1))) then (if ((a0 ^^^ (Int32.ofInt (-1))) &&& (a0 - (Int32.ofInt 1))) ≤ (Int32.ofInt 65536) then (f_Integer_numberOfTrailingZeros_L34 ((a0 ^^^ (Int32.ofInt (-1))) &&& (a0 - (Int32.ofInt 1))) (Int32.ofInt 1) s) else (f_Integer_numberOfTrailingZeros_L34 (jushr ((a0 ^^^ (Int32.ofInt (-1))) &&& (a0 - (Int32.ofInt 1))) (Int32.ofInt 16)) ((Int32.ofInt 1) + (Int32.ofInt 16)) s)) else (((a0 ^^^ (Int32.ofInt (-1))) &&& (a0 - (Int32.ofInt 1))) &&& (Int32.ofInt 32)))
theorem c_Integer_numberOfTrailingZeros_L74 {xs : Nat → Int32} {L d : Nat} {P : MK S2} {Q : S2 → Option MV → Prop} {res : Int32} {s : S2} (hP : MClosed (O3 xs L) (kcall (O3 xs L) (d + 0)) kd_Integer_numberOfTrailingZeros 1 Q P) (hQ : Q s (some (mI res))) (x0 : Int32) (x1 : Int32) (h : f_Integer_numberOfTrailingZeros_L74 x0 x1 s = res) : P 74 [some (mI x0), some (mI x1)] [] s (0, 0) := by
  refine mgo_from hP [34, 49, 62, 74] 260 ?_
  cases h
  exact hQ
theorem c_Integer_numberOfTrailingZeros_L62 {xs : Nat → Int32} {L d : Nat} {P : MK S2} {Q : S2 → Option MV → Prop} {res : Int32} {s : S2} (hP : MClosed (O3 xs L) (kcall (O3 xs L) (d + 0)) kd_Integer_numberOfTrailingZeros 1 Q P) (hQ : Q s (some (mI res))) (x0 : Int32) (x1 : Int32) (h : f_Integer_numberOfTrailingZeros_L62 x0 x1 s = res) : P 62 [some (mI x0), some (mI x1)] [] s (0, 0) := by
  refine mgo_from hP [34, 49, 62, 74] 260 ?_
  refine go_br (fun hc : x0 ≤ (Int32.ofInt 4) => ?_) (fun hc : ¬ (x0 ≤ (Int32.ofInt 4)) => ?_)
  · replace h := (if_pos hc).symm.trans h
    exact c_Integer_numberOfTrailingZeros_L74 hP hQ _ _ h
  · replace h := (if_neg hc).symm.trans h
    exact c_Integer_numberOfTrailingZeros_L74 hP hQ _ _ h
theorem c_Integer_numberOfTrailingZeros_L49 {xs : Nat → Int32} {L d : Nat} {P : MK S2} {Q : S2 → Option MV → Prop} {res : Int32} {s : S2} (hP : MClosed (O3 xs L) (kcall (O3 xs L) (d + 0)) kd_Integer_numberOfTrailingZeros 1 Q P) (hQ : Q s (some (mI res))) (x0 : Int32) (x1 : Int32) (h : f_Integer_numberOfTrailingZeros_L49 x0 x1 s = res) : P 49 [some (mI x0), some (mI x1)] [] s (0, 0) := by
  refine mgo_from hP [34, 49, 62, 74] 260 ?_
  refine go_br (fun hc : x0 ≤ (Int32.ofInt 16) => ?_) (fun hc : ¬ (x0 ≤ (Int32.ofInt 16)) => ?_)
  · replace h := (if_pos hc).symm.trans h
    exact c_Integer_numberOfTrailingZeros_L62 hP hQ _ _ h
  · replace h := (if_neg hc).symm.trans h
    exact c_Integer_numberOfTrailingZeros_L62 hP hQ _ _ h
theorem c_Integer_numberOfTrailingZeros_L34 {xs : Nat → Int32} {L d : Nat} {P : MK S2} {Q : S2 → Option MV → Prop} {res : Int32} {s : S2} (hP : MClosed (O3 xs L) (kcall (O3 xs L) (d + 0)) kd_Integer_numberOfTrailingZeros 1 Q P) (hQ : Q s (some (mI res))) (x0 : Int32) (x1 : Int32) (h : f_Integer_numberOfTrailingZeros_L34 x0 x1 s = res) : P 34 [some (mI x0), some (mI x1)] [] s (0, 0) := by
  refine mgo_from hP [34, 49, 62, 74] 260 ?_
  refine go_br (fun hc : x0 ≤ (Int32.ofInt 256) => ?_) (fun hc : ¬ (x0 ≤ (Int32.ofInt 256)) => ?_)
  · replace h := (if_pos hc).symm.trans h
    exact c_Integer_numberOfTrailingZeros_L49 hP hQ _ _ h
  · replace h := (if_neg hc).symm.trans h
    exact c_Integer_numberOfTrailingZeros_L49 hP hQ _ _ h
theorem cr_Integer_numberOfTrailingZeros {xs : Nat → Int32} {L d : Nat} {a0 : Int32} {s : S2} {res : Int32} {Q : S2 → Option MV → Prop} (h : g_Integer_numberOfTrailingZeros a0 s = res) (hQ : Q s (some (mI res))) : kcall (O3 xs L) (d + 1) k_Integer_numberOfTrailingZeros [mI a0] s Q := by
  refine kc_of (cd := kd_Integer_numberOfTrailingZeros) (mx := 2) (rt := 1) rfl rfl ?_
  intro P hP
  refine mgo_sound hP [34, 49, 62, 74] 260 _ _ _ _ _ ?_
  refine go_br (fun hc : 0 < ((a0 ^^^ (Int32.ofInt (-1))) &&& (a0 - (Int32.ofInt 1))) => ?_) (fun hc : ¬ (0 < ((a0 ^^^ (Int32.ofInt (-1))) &&& (a0 - (Int32.ofInt 1)))) => ?_)
  · replace h := (if_pos hc).symm.trans h
    refine go_br (fun hc : ((a0 ^^^ (Int32.ofInt (-1))) &&& (a0 - (Int32.ofInt 1))) ≤ (Int32.ofInt 65536) => ?_) (fun hc : ¬ (((a0 ^^^ (Int32.ofInt (-1))) &&& (a0 - (Int32.ofInt 1))) ≤ (Int32.ofInt 65536)) => ?_)
    · replace h := (if_pos hc).symm.trans h
      exact c_Integer_numberOfTrailingZeros_L34 hP hQ _ _ h
    · replace h := (if_neg hc).symm.trans h
      exact c_Integer_numberOfTrailingZeros_L34 hP hQ _ _ h
  · replace h := (if_neg hc).symm.trans h
    cases h
    exact hQ
theorem c_Integer_numberOfTrailingZeros {xs : Nat → Int32} {L d : Nat} {a0 : Int32} {s : S2} {Q : S2 → Option MV → Prop} (hQ : Q s (some (mI (g_Integer_numberOfTrailingZeros a0 s)))) : kcall (O3 xs L) (d + 1) k_Integer_numberOfTrailingZeros [mI a0] s Q := cr_Integer_numberOfTrailingZeros rfl hQ
/-! String_isLatin1 -/
def g_String_isLatin1 (r0 : Nat) (s : S2) : Bool := (if (1 : Int32) = 0 then false else (if (0 : Int32) = 0 then true else false))
theorem cr_String_isLatin1 {xs : Nat → Int32} {L d : Nat} {r0 : Nat} {s : S2} {res : Bool} {Q : S2 → Option MV → Prop} (h : g_String_isLatin1 r0 s = res) (hQ : Q s (some (mI (bI res)))) : kcall (O3 xs L) (d + 1) k_String_isLatin1 [mR 2 r0] s Q := by
  refine kc_of (cd := kd_String_isLatin1) (mx := 1) (rt := 2) rfl rfl ?_
  intro P hP
  refine mgo_sound hP [] 260 _ _ _ _ _ ?_
  refine go_br (fun hc : (1 : Int32) = 0 => ?_) (fun hc : ¬ ((1 : Int32) = 0) => ?_)
  · replace h := (if_pos hc).symm.trans h
    cases h
    exact ⟨Or.inl rfl, hQ⟩
  · replace h := (if_neg hc).symm.trans h
    refine go_brn (fun hc : ¬ ((0 : Int32) = 0) => ?_) (fun hc : (0 : Int32) = 0 => ?_)
    · replace h := (if_neg hc).symm.trans h
      cases h
      exact ⟨Or.inl rfl, hQ⟩
    · replace h := (if_pos hc).symm.trans h
      cases h
      exact ⟨Or.inr rfl, hQ⟩
theorem c_String_isLatin1 {xs : Nat → Int32} {L d : Nat} {r0 : Nat} {s : S2} {Q : S2 → Option MV → Prop} (hQ : Q s (some (mI (bI (g_String_isLatin1 r0 s))))) : kcall (O3 xs L) (d + 1) k_String_isLatin1 [mR 2 r0] s Q := cr_String_isLatin1 rfl hQ
/-! String_coder -/
def f_String_coder (r0 : Nat) (s : S2) : Option Bool := (if (1 : Int32) = 0 then some true else ((rb (0 : Int32)).bind fun b1 => some b1))
theorem c_String_coder {xs : Nat → Int32} {L d : Nat} {r0 : Nat} {s : S2} {res : Bool} {Q : S2 → Option MV → Prop} (h : f_String_coder r0 s = some res) (hQ : Q s (some (mI (bI res)))) : kcall (O3 xs L) (d + 1) k_String_coder [mR 2 r0] s Q := by
  refine kc_of (cd := kd_String_coder) (mx := 1) (rt := 2) rfl rfl ?_
  intro P hP
  refine mgo_sound hP [] 260 _ _ _ _ _ ?_
  refine go_br (fun hc : (1 : Int32) = 0 => ?_) (fun hc : ¬ ((1 : Int32) = 0) => ?_)
  · replace h := (if_pos hc).symm.trans h
    cases h
    exact ⟨Or.inr rfl, hQ⟩
  · replace h := (if_neg hc).symm.trans h
    obtain ⟨b1, hb, h⟩ := bnd h
    cases h
    exact ret_z hb hQ
/-! String_length -/
def f_String_length (r0 : Nat) (s : S2) : Option Int32 := ((f_String_coder r0 s).bind fun q1 => some ((nI (kbyt r0).length) >>> ((bI q1) &&& 31)))
theorem c_String_length {xs : Nat → Int32} {L d : Nat} {r0 : Nat} {s : S2} {res : Int32} {Q : S2 → Option MV → Prop} (h : f_String_length r0 s = some res) (hQ : Q s (some (mI res))) : kcall (O3 xs L) (d + 2) k_String_length [mR 2 r0] s Q := by
  refine kc_of (cd := kd_String_length) (mx := 1) (rt := 1) rfl rfl ?_
  intro P hP
  refine mgo_sound hP [] 260 _ _ _ _ _ ?_
  obtain ⟨q1, hq, h⟩ := bnd h
  refine go_call (fun _ hw => c_String_coder hq hw) ?_
  cases h
  exact hQ
/-! Latin_canEncode -/
def g_Latin_canEncode (a0 : Int32) (s : S2) : Bool := (if a0 < 0 then false else (if (Int32.ofInt 255) < a0 then false else true))
theorem cr_Latin_canEncode {xs : Nat → Int32} {L d : Nat} {a0 : Int32} {s : S2} {res : Bool} {Q : S2 → Option MV → Prop} (h : g_Latin_canEncode a0 s = res) (hQ : Q s (some (mI (bI res)))) : kcall (O3 xs L) (d + 1) k_Latin_canEncode [mI a0] s Q := by
  refine kc_of (cd := kd_Latin_canEncode) (mx := 1) (rt := 2) rfl rfl ?_
  intro P hP
  refine mgo_sound hP [] 260 _ _ _ _ _ ?_
  refine go_br (fun hc : a0 < 0 => ?_) (fun hc : ¬ (a0 < 0) => ?_)
  · replace h := (if_pos hc).symm.trans h
    cases h
    exact ⟨Or.inl rfl, hQ⟩
  · replace h := (if_neg hc).symm.trans h
    refine go_br (fun hc : (Int32.ofInt 255) < a0 => ?_) (fun hc : ¬ ((Int32.ofInt 255) < a0) => ?_)
    · replace h := (if_pos hc).symm.trans h
      cases h
      exact ⟨Or.inl rfl, hQ⟩
    · replace h := (if_neg hc).symm.trans h
      cases h
      exact ⟨Or.inr rfl, hQ⟩
theorem c_Latin_canEncode {xs : Nat → Int32} {L d : Nat} {a0 : Int32} {s : S2} {Q : S2 → Option MV → Prop} (hQ : Q s (some (mI (bI (g_Latin_canEncode a0 s))))) : kcall (O3 xs L) (d + 1) k_Latin_canEncode [mI a0] s Q := cr_Latin_canEncode rfl hQ
/-! Latin_indexOfChar -/
def b_Latin_indexOfChar_L7 (r0 : Nat) (k7 : Int32 → Int32 → Int32 → S2 → Option Int32) (x3 : Int32) (x4 : Int32) (x5 : Int32) (s : S2) : Option Int32 := (if x3 ≤ x5 then some (Int32.ofInt (-1)) else ((ix (kbyt r0).length x5).bind fun j1 => (if (lgD (kbyt r0) j1) = x4 then some x5 else (k7 x3 x4 (x5 + (Int32.ofInt 1)) s))))
def f_Latin_indexOfChar_L7 (r0 : Nat) : Nat → Int32 → Int32 → Int32 → S2 → Option Int32
  | 0 => fun _ _ _ _ => none
  | n + 1 => b_Latin_indexOfChar_L7 r0 (f_Latin_indexOfChar_L7 r0 n)
def f_Latin_indexOfChar (r0 : Nat) (a1 : Int32) (a2 : Int32) (a3 : Int32) (s : S2) : Option Int32 := (f_Latin_indexOfChar_L7 r0 FU a3 (Int8.toInt32 (Int32.toInt8 a1)) a2 s)
theorem cb_Latin_indexOfChar_L7 {xs : Nat → Int32} {L d : Nat} {r0 : Nat} {P : MK S2} {Q : S2 → Option MV → Prop} {res : Int32} {s : S2} (hP : MClosed (O3 xs L) (kcall (O3 xs L) (d + 0)) kd_Latin_indexOfChar 1 Q P) (hQ : Q s (some (mI res))) {k7 : Int32 → Int32 → Int32 → S2 → Option Int32} (hk7 : ∀ (x3 : Int32) (x4 : Int32) (x5 : Int32) (x1 : Int32) (x2 : Int32), k7 x3 x4 x5 s = some res → P 7 [some (mR 3 r0), some (mI x1), some (mI x2), some (mI x3), some (mI x4), some (mI x5)] [] s (0, 0)) (x3 : Int32) (x4 : Int32) (x5 : Int32) (x1 : Int32) (x2 : Int32) (h : b_Latin_indexOfChar_L7 r0 k7 x3 x4 x5 s = some res) : P 7 [some (mR 3 r0), some (mI x1), some (mI x2), some (mI x3), some (mI x4), some (mI x5)] [] s (0, 0) := by
  refine mgo_from hP [7] 260 ?_
  refine go_br (fun hc : x3 ≤ x5 => ?_) (fun hc : ¬ (x3 ≤ x5) => ?_)
  · replace h := (if_pos hc).symm.trans h
    cases h
    exact hQ
  · replace h := (if_neg hc).symm.trans h
    obtain ⟨j1, hj, h⟩ := bnd h
    refine go_ix j1 (ix_lt hj) (ix_eq hj) ?_
    refine go_brn (fun hc : ¬ ((lgD (kbyt r0) j1) = x4) => ?_) (fun hc : (lgD (kbyt r0) j1) = x4 => ?_)
    · replace h := (if_neg hc).symm.trans h
      exact hk7 _ _ _ _ _ h
    · replace h := (if_pos hc).symm.trans h
      cases h
      exact hQ
theorem c_Latin_indexOfChar_L7 {xs : Nat → Int32} {L d : Nat} {r0 : Nat} {P : MK S2} {Q : S2 → Option MV → Prop} {res : Int32} {s : S2} (hP : MClosed (O3 xs L) (kcall (O3 xs L) (d + 0)) kd_Latin_indexOfChar 1 Q P) (hQ : Q s (some (mI res))) : ∀ (fu : Nat) (x3 : Int32) (x4 : Int32) (x5 : Int32) (x1 : Int32) (x2 : Int32), f_Latin_indexOfChar_L7 r0 fu x3 x4 x5 s = some res → P 7 [some (mR 3 r0), some (mI x1), some (mI x2), some (mI x3), some (mI x4), some (mI x5)] [] s (0, 0)
  | 0, _, _, _, _, _, h => by cases h
  | fu + 1, x3, x4, x5, x1, x2, h => cb_Latin_indexOfChar_L7 hP hQ (c_Latin_indexOfChar_L7 hP hQ fu) x3 x4 x5 x1 x2 h
theorem c_Latin_indexOfChar {xs : Nat → Int32} {L d : Nat} {r0 : Nat} {a1 : Int32} {a2 : Int32} {a3 : Int32} {s : S2} {res : Int32} {Q : S2 → Option MV → Prop} (h : f_Latin_indexOfChar r0 a1 a2 a3 s = some res) (hQ : Q s (some (mI res))) : kcall (O3 xs L) (d + 1) k_Latin_indexOfChar [mR 3 r0, mI a1, mI a2, mI a3] s Q := by
  refine kc_of (cd := kd_Latin_indexOfChar) (mx := 6) (rt := 1) rfl rfl ?_
  intro P hP
  refine mgo_sound hP [7] 260 _ _ _ _ _ ?_
  exact c_Latin_indexOfChar_L7 hP hQ FU _ _ _ _ _ h
/-! Pre_checkIndex -/
def f_Pre_checkIndex_L9 (x0 : Int32) (x1 : Int32) (s : S2) : Option Int32 := none
def f_Pre_checkIndex (a0 : Int32) (a1 : Int32) (s : S2) : Option Int32 := (if a0 < 0 then (f_Pre_checkIndex_L9 a0 a1 s) else (if a0 < a1 then some a0 else (f_Pre_checkIndex_L9 a0 a1 s)))
theorem c_Pre_checkIndex_L9 {xs : Nat → Int32} {L d : Nat} {P : MK S2} {Q : S2 → Option MV → Prop} {res : Int32} {s : S2} (hP : MClosed (O3 xs L) (kcall (O3 xs L) (d + 0)) kd_Pre_checkIndex 1 Q P) (hQ : Q s (some (mI res))) (x0 : Int32) (x1 : Int32) (h : f_Pre_checkIndex_L9 x0 x1 s = some res) : P 9 [some (mI x0), some (mI x1), some (mR 1 0)] [] s (0, 0) := by
  refine mgo_from hP [9] 260 ?_
  cases h
theorem c_Pre_checkIndex {xs : Nat → Int32} {L d : Nat} {a0 : Int32} {a1 : Int32} {s : S2} {res : Int32} {Q : S2 → Option MV → Prop} (h : f_Pre_checkIndex a0 a1 s = some res) (hQ : Q s (some (mI res))) : kcall (O3 xs L) (d + 1) k_Pre_checkIndex [mI a0, mI a1, mR 1 0] s Q := by
  refine kc_of (cd := kd_Pre_checkIndex) (mx := 3) (rt := 1) rfl rfl ?_
  intro P hP
  refine mgo_sound hP [9] 260 _ _ _ _ _ ?_
  refine go_br (fun hc : a0 < 0 => ?_) (fun hc : ¬ (a0 < 0) => ?_)
  · replace h := (if_pos hc).symm.trans h
    exact c_Pre_checkIndex_L9 hP hQ _ _ h
  · replace h := (if_neg hc).symm.trans h
    refine go_br (fun hc : a0 < a1 => ?_) (fun hc : ¬ (a0 < a1) => ?_)
    · replace h := (if_pos hc).symm.trans h
      cases h
      exact hQ
    · replace h := (if_neg hc).symm.trans h
      exact c_Pre_checkIndex_L9 hP hQ _ _ h
/-! D_feed -/
def f_D_feed (a1 : Int32) (a2 : Int32) (a3 : Int32) (a4 : Int32) (a5 : Int32) (s : S2) : Option (S2 × Int32) := ((f_D_bytesIn a1 s).bind fun q1 => ((f_D_bytesIn a2 s).bind fun q2 => ((f_D_bytesIn a3 s).bind fun q3 => ((f_D_bytesIn a4 s).bind fun q4 => ((f_D_bytesIn a5 s).bind fun q5 => (if ((g_Tape_length s) + ((((q1 + q2) + q3) + q4) + q5)) ≤ (Int32.ofInt 240) then ((f_Tape_add a1 s).bind fun q6 => ((f_Tape_add a2 q6).bind fun q7 => ((f_Tape_add a3 q7).bind fun q8 => ((f_Tape_add a4 q8).bind fun q9 => ((f_Tape_add a5 q9).bind fun q10 => some (q10, (g_Tape_length q10))))))) else some (s, (Int32.ofInt (-1)))))))))
set_option maxRecDepth 20000 in
set_option maxHeartbeats 4000000 in
theorem c_D_feed {xs : Nat → Int32} {L d : Nat} {a1 : Int32} {a2 : Int32} {a3 : Int32} {a4 : Int32} {a5 : Int32} {s : S2} {res : S2 × Int32} {Q : S2 → Option MV → Prop} (h : f_D_feed a1 a2 a3 a4 a5 s = some res) (hQ : Q res.1 (some (mI res.2))) : kcall (O3 xs L) (d + 2) k_D_feed [mR 10 0, mI a1, mI a2, mI a3, mI a4, mI a5] s Q := by
  refine kc_of (cd := kd_D_feed) (mx := 7) (rt := 1) rfl rfl ?_
  intro P hP
  refine mgo_sound hP [] 260 _ _ _ _ _ ?_
  obtain ⟨q1, hq, h⟩ := bnd h
  refine go_call (fun _ hw => c_D_bytesIn hq hw) ?_
  obtain ⟨q2, hq, h⟩ := bnd h
  refine go_call (fun _ hw => c_D_bytesIn hq hw) ?_
  obtain ⟨q3, hq, h⟩ := bnd h
  refine go_call (fun _ hw => c_D_bytesIn hq hw) ?_
  obtain ⟨q4, hq, h⟩ := bnd h
  refine go_call (fun _ hw => c_D_bytesIn hq hw) ?_
  obtain ⟨q5, hq, h⟩ := bnd h
  refine go_call (fun _ hw => c_D_bytesIn hq hw) ?_
  refine go_call (fun _ hw => c_Tape_length hw) ?_
  refine go_br (fun hc : ((g_Tape_length s) + ((((q1 + q2) + q3) + q4) + q5)) ≤ (Int32.ofInt 240) => ?_) (fun hc : ¬ (((g_Tape_length s) + ((((q1 + q2) + q3) + q4) + q5)) ≤ (Int32.ofInt 240)) => ?_)
  · replace h := (if_pos hc).symm.trans h
    obtain ⟨q6, hq, h⟩ := bnd h
    refine go_call (fun _ hw => c_Tape_add hq hw) ?_
    obtain ⟨q7, hq, h⟩ := bnd h
    refine go_call (fun _ hw => c_Tape_add hq hw) ?_
    obtain ⟨q8, hq, h⟩ := bnd h
    refine go_call (fun _ hw => c_Tape_add hq hw) ?_
    obtain ⟨q9, hq, h⟩ := bnd h
    refine go_call (fun _ hw => c_Tape_add hq hw) ?_
    obtain ⟨q10, hq, h⟩ := bnd h
    refine go_call (fun _ hw => c_Tape_add hq hw) ?_
    refine go_call (fun _ hw => c_Tape_length hw) ?_
    cases h
    exact hQ
  · replace h := (if_neg hc).symm.trans h
    cases h
    exact hQ
/-! D_end -/
def f_D_end (a1 : Int32) (s : S2) : Option (S2 × Bool) := (if (bI (g_D_isWithin a1 (Int32.ofInt 0) (g_Tape_length s) s)) = 0 then some (s, false) else ((f_Tape_cut a1 s).bind fun q1 => some (q1, true)))
theorem c_D_end {xs : Nat → Int32} {L d : Nat} {a1 : Int32} {s : S2} {res : S2 × Bool} {Q : S2 → Option MV → Prop} (h : f_D_end a1 s = some res) (hQ : Q res.1 (some (mI (bI res.2)))) : kcall (O3 xs L) (d + 2) k_D_end [mR 10 0, mI a1] s Q := by
  refine kc_of (cd := kd_D_end) (mx := 2) (rt := 2) rfl rfl ?_
  intro P hP
  refine mgo_sound hP [] 260 _ _ _ _ _ ?_
  refine go_call (fun _ hw => c_Tape_length hw) ?_
  refine go_call (fun _ hw => c_D_isWithin hw) ?_
  refine go_brn (fun hc : ¬ ((bI (g_D_isWithin a1 (Int32.ofInt 0) (g_Tape_length s) s)) = 0) => ?_) (fun hc : (bI (g_D_isWithin a1 (Int32.ofInt 0) (g_Tape_length s) s)) = 0 => ?_)
  · replace h := (if_neg hc).symm.trans h
    obtain ⟨q1, hq, h⟩ := bnd h
    refine go_call (fun _ hw => c_Tape_cut hq hw) ?_
    cases h
    exact ⟨Or.inr rfl, hQ⟩
  · replace h := (if_pos hc).symm.trans h
    cases h
    exact ⟨Or.inl rfl, hQ⟩
/-! Tape_readNumber -/
def f_Tape_readNumber_L64 (x2 : Int32) (s : S2) : Option (S2 × Int32) := ((f_Tape_isDigitHere s).bind fun q1 => (if (bI q1) = 0 then some (s, x2) else some (s, (Int32.ofInt (-1)))))
def b_Tape_readNumber_L18 (k18 : Int32 → Int32 → Int32 → S2 → Option (S2 × Int32)) (x1 : Int32) (x2 : Int32) (x3 : Int32) (s : S2) : Option (S2 × Int32) := (if x1 ≤ x3 then (f_Tape_readNumber_L64 x2 s) else ((f_Tape_isDigitHere s).bind fun q1 => (if (bI q1) = 0 then (f_Tape_readNumber_L64 x2 s) else ((ix 240 (s.1 11 0 2)).bind fun j2 => ((some (pkS s 11 0 2 ((s.1 11 0 2) + (Int32.ofInt 1)))).bind fun s3 => (k18 x1 (((x2 * (Int32.ofInt 10)) + (s.1 12 0 j2)) - (Int32.ofInt 48)) (x3 + (Int32.ofInt 1)) s3))))))
def f_Tape_readNumber_L18 : Nat → Int32 → Int32 → Int32 → S2 → Option (S2 × Int32)
  | 0 => fun _ _ _ _ => none
  | n + 1 => b_Tape_readNumber_L18 (f_Tape_readNumber_L18 n)
def f_Tape_readNumber (a1 : Int32) (s : S2) : Option (S2 × Int32) := ((f_Tape_look s).bind fun q1 => ((f_Tape_isDigitHere q1.1).bind fun q2 => (if (bI q2) = 0 then some (q1.1, (Int32.ofInt (-1))) else (f_Tape_readNumber_L18 FU a1 (Int32.ofInt 0) (Int32.ofInt 0) q1.1))))
theorem c_Tape_readNumber_L64 {xs : Nat → Int32} {L d : Nat} {P : MK S2} {Q : S2 → Option MV → Prop} {res : S2 × Int32} (hP : MClosed (O3 xs L) (kcall (O3 xs L) (d + 1)) kd_Tape_readNumber 1 Q P) (hQ : Q res.1 (some (mI res.2))) (x2 : Int32) (x1 : Int32) (x3 : Int32) (s : S2) (h : f_Tape_readNumber_L64 x2 s = some res) : P 64 [some (mR 11 0), some (mI x1), some (mI x2), some (mI x3)] [] s (0, 0) := by
  refine mgo_from hP [18, 64] 260 ?_
  obtain ⟨q1, hq, h⟩ := bnd h
  refine go_call (fun _ hw => c_Tape_isDigitHere hq hw) ?_
  refine go_br (fun hc : (bI q1) = 0 => ?_) (fun hc : ¬ ((bI q1) = 0) => ?_)
  · replace h := (if_pos hc).symm.trans h
    cases h
    exact hQ
  · replace h := (if_neg hc).symm.trans h
    cases h
    exact hQ
theorem cb_Tape_readNumber_L18 {xs : Nat → Int32} {L d : Nat} {P : MK S2} {Q : S2 → Option MV → Prop} {res : S2 × Int32} (hP : MClosed (O3 xs L) (kcall (O3 xs L) (d + 1)) kd_Tape_readNumber 1 Q P) (hQ : Q res.1 (some (mI res.2))) {k18 : Int32 → Int32 → Int32 → S2 → Option (S2 × Int32)} (hk18 : ∀ (x1 : Int32) (x2 : Int32) (x3 : Int32) (s : S2), k18 x1 x2 x3 s = some res → P 18 [some (mR 11 0), some (mI x1), some (mI x2), some (mI x3)] [] s (0, 0)) (x1 : Int32) (x2 : Int32) (x3 : Int32) (s : S2) (h : b_Tape_readNumber_L18 k18 x1 x2 x3 s = some res) : P 18 [some (mR 11 0), some (mI x1), some (mI x2), some (mI x3)] [] s (0, 0) := by
  refine mgo_from hP [18, 64] 260 ?_
  refine go_br (fun hc : x1 ≤ x3 => ?_) (fun hc : ¬ (x1 ≤ x3) => ?_)
  · replace h := (if_pos hc).symm.trans h
    exact c_Tape_readNumber_L64 hP hQ _ _ _ _ h
  · replace h := (if_neg hc).symm.trans h
    obtain ⟨q1, hq, h⟩ := bnd h
    refine go_call (fun _ hw => c_Tape_isDigitHere hq hw) ?_
    refine go_br (fun hc : (bI q1) = 0 => ?_) (fun hc : ¬ ((bI q1) = 0) => ?_)
    · replace h := (if_pos hc).symm.trans h
      exact c_Tape_readNumber_L64 hP hQ _ _ _ _ h
    · replace h := (if_neg hc).symm.trans h
      obtain ⟨j2, hj, h⟩ := bnd h
      refine go_ix j2 (ix_lt hj) (ix_eq hj) ?_
      replace h := bnds h
      exact hk18 _ _ _ _ h
theorem c_Tape_readNumber_L18 {xs : Nat → Int32} {L d : Nat} {P : MK S2} {Q : S2 → Option MV → Prop} {res : S2 × Int32} (hP : MClosed (O3 xs L) (kcall (O3 xs L) (d + 1)) kd_Tape_readNumber 1 Q P) (hQ : Q res.1 (some (mI res.2))) : ∀ (fu : Nat) (x1 : Int32) (x2 : Int32) (x3 : Int32) (s : S2), f_Tape_readNumber_L18 fu x1 x2 x3 s = some res → P 18 [some (mR 11 0), some (mI x1), some (mI x2), some (mI x3)] [] s (0, 0)
  | 0, _, _, _, _, h => by cases h
  | fu + 1, x1, x2, x3, s, h => cb_Tape_readNumber_L18 hP hQ (c_Tape_readNumber_L18 hP hQ fu) x1 x2 x3 s h
theorem c_Tape_readNumber {xs : Nat → Int32} {L d : Nat} {a1 : Int32} {s : S2} {res : S2 × Int32} {Q : S2 → Option MV → Prop} (h : f_Tape_readNumber a1 s = some res) (hQ : Q res.1 (some (mI res.2))) : kcall (O3 xs L) (d + 2) k_Tape_readNumber [mR 11 0, mI a1] s Q := by
  refine kc_of (cd := kd_Tape_readNumber) (mx := 4) (rt := 1) rfl rfl ?_
  intro P hP
  refine mgo_sound hP [18, 64] 260 _ _ _ _ _ ?_
  obtain ⟨q1, hq, h⟩ := bnd h
  refine go_call (fun _ hw => c_Tape_look hq hw) ?_
  obtain ⟨q2, hq, h⟩ := bnd h
  refine go_call (fun _ hw => c_Tape_isDigitHere hq hw) ?_
  refine go_brn (fun hc : ¬ ((bI q2) = 0) => ?_) (fun hc : (bI q2) = 0 => ?_)
  · replace h := (if_neg hc).symm.trans h
    exact c_Tape_readNumber_L18 hP hQ FU _ _ _ _ h
  · replace h := (if_pos hc).symm.trans h
    cases h
    exact hQ
/-! Sea_isWhole -/
def f_Sea_isWhole_L97 (r0 : Nat) (k61 : Int32 → Int32 → S2 → Option Bool) (x2 : Int32) (y0 : Int32) (s : S2) : Option Bool := (k61 y0 (x2 + (Int32.ofInt 1)) s)
def f_Sea_isWhole_L96 (r0 : Nat) (k61 : Int32 → Int32 → S2 → Option Bool) (x2 : Int32) (s : S2) : Option Bool := (f_Sea_isWhole_L97 r0 k61 x2 (Int32.ofInt 0) s)
def b_Sea_isWhole_L61 (r0 : Nat) (k61 : Int32 → Int32 → S2 → Option Bool) (x1 : Int32) (x2 : Int32) (s : S2) : Option Bool := (if (g_Sea_bridges r0 s) ≤ x2 then ((rb x1).bind fun b1 => some b1) else (if x1 = 0 then (f_Sea_isWhole_L96 r0 k61 x2 s) else ((f_Sea_ofBridge r0 x2 (Int32.ofInt 0) s).bind fun q2 => ((f_Sea_ofBridge r0 x2 (Int32.ofInt 1) s).bind fun q3 => (if (bI (g_Sea_areToldTwo r0 q2 q3 s)) = 0 then (f_Sea_isWhole_L96 r0 k61 x2 s) else (f_Sea_isWhole_L97 r0 k61 x2 (Int32.ofInt 1) s))))))
def f_Sea_isWhole_L61 (r0 : Nat) : Nat → Int32 → Int32 → S2 → Option Bool
  | 0 => fun _ _ _ => none
  | n + 1 => b_Sea_isWhole_L61 r0 (f_Sea_isWhole_L61 r0 n)
def f_Sea_isWhole_L52 (r0 : Nat) (k16 : Int32 → Int32 → S2 → Option Bool) (x2 : Int32) (y0 : Int32) (s : S2) : Option Bool := (k16 y0 (x2 + (Int32.ofInt 1)) s)
def f_Sea_isWhole_L51 (r0 : Nat) (k16 : Int32 → Int32 → S2 → Option Bool) (x2 : Int32) (s : S2) : Option Bool := (f_Sea_isWhole_L52 r0 k16 x2 (Int32.ofInt 0) s)
def b_Sea_isWhole_L16 (r0 : Nat) (k16 : Int32 → Int32 → S2 → Option Bool) (x1 : Int32) (x2 : Int32) (s : S2) : Option Bool := (if (g_Sea_ties r0 s) ≤ x2 then (f_Sea_isWhole_L61 r0 FU x1 (Int32.ofInt 0) s) else (if x1 = 0 then (f_Sea_isWhole_L51 r0 k16 x2 s) else ((f_Sea_ofTie r0 x2 (Int32.ofInt 0) s).bind fun q1 => ((f_Sea_ofTie r0 x2 (Int32.ofInt 1) s).bind fun q2 => (if (bI (g_Sea_areToldTwo r0 q1 q2 s)) = 0 then (f_Sea_isWhole_L51 r0 k16 x2 s) else (f_Sea_isWhole_L52 r0 k16 x2 (Int32.ofInt 1) s))))))
def f_Sea_isWhole_L16 (r0 : Nat) : Nat → Int32 → Int32 → S2 → Option Bool
  | 0 => fun _ _ _ => none
  | n + 1 => b_Sea_isWhole_L16 r0 (f_Sea_isWhole_L16 r0 n)
def f_Sea_isWhole_L13 (r0 : Nat) (y0 : Int32) (s : S2) : Option Bool := (f_Sea_isWhole_L16 r0 FU y0 (Int32.ofInt 0) s)
def f_Sea_isWhole (r0 : Nat) (s : S2) : Option Bool := (if (g_Sea_isles r0 s) < (Int32.ofInt 2) then (f_Sea_isWhole_L13 r0 (Int32.ofInt 0) s) else (f_Sea_isWhole_L13 r0 (Int32.ofInt 1) s))
theorem c_Sea_isWhole_L97 {xs : Nat → Int32} {L d : Nat} {r0 : Nat} {P : MK S2} {Q : S2 → Option MV → Prop} {res : Bool} {s : S2} (hP : MClosed (O3 xs L) (kcall (O3 xs L) (d + 2)) kd_Sea_isWhole 2 Q P) (hQ : Q s (some (mI (bI res)))) {k61 : Int32 → Int32 → S2 → Option Bool} (hk61 : ∀ (x1 : Int32) (x2 : Int32), k61 x1 x2 s = some res → P 61 [some (mR 13 r0), some (mI x1), some (mI x2)] [] s (0, 0)) (x2 : Int32) (y0 : Int32) (x1 : Int32) (h : f_Sea_isWhole_L97 r0 k61 x2 y0 s = some res) : P 97 [some (mR 13 r0), some (mI x1), some (mI x2)] [mI y0] s (0, 0) := by
  refine mgo_from hP [13, 16, 51, 52, 61, 96, 97] 260 ?_
  exact hk61 _ _ h
theorem c_Sea_isWhole_L96 {xs : Nat → Int32} {L d : Nat} {r0 : Nat} {P : MK S2} {Q : S2 → Option MV → Prop} {res : Bool} {s : S2} (hP : MClosed (O3 xs L) (kcall (O3 xs L) (d + 2)) kd_Sea_isWhole 2 Q P) (hQ : Q s (some (mI (bI res)))) {k61 : Int32 → Int32 → S2 → Option Bool} (hk61 : ∀ (x1 : Int32) (x2 : Int32), k61 x1 x2 s = some res → P 61 [some (mR 13 r0), some (mI x1), some (mI x2)] [] s (0, 0)) (x2 : Int32) (x1 : Int32) (h : f_Sea_isWhole_L96 r0 k61 x2 s = some res) : P 96 [some (mR 13 r0), some (mI x1), some (mI x2)] [] s (0, 0) := by
  refine mgo_from hP [13, 16, 51, 52, 61, 96, 97] 260 ?_
  exact c_Sea_isWhole_L97 hP hQ hk61 _ _ _ h
theorem cb_Sea_isWhole_L61 {xs : Nat → Int32} {L d : Nat} {r0 : Nat} {P : MK S2} {Q : S2 → Option MV → Prop} {res : Bool} {s : S2} (hP : MClosed (O3 xs L) (kcall (O3 xs L) (d + 2)) kd_Sea_isWhole 2 Q P) (hQ : Q s (some (mI (bI res)))) {k61 : Int32 → Int32 → S2 → Option Bool} (hk61 : ∀ (x1 : Int32) (x2 : Int32), k61 x1 x2 s = some res → P 61 [some (mR 13 r0), some (mI x1), some (mI x2)] [] s (0, 0)) (x1 : Int32) (x2 : Int32) (h : b_Sea_isWhole_L61 r0 k61 x1 x2 s = some res) : P 61 [some (mR 13 r0), some (mI x1), some (mI x2)] [] s (0, 0) := by
  refine mgo_from hP [13, 16, 51, 52, 61, 96, 97] 260 ?_
  refine go_call (fun _ hw => c_Sea_bridges hw) ?_
  refine go_br (fun hc : (g_Sea_bridges r0 s) ≤ x2 => ?_) (fun hc : ¬ ((g_Sea_bridges r0 s) ≤ x2) => ?_)
  · replace h := (if_pos hc).symm.trans h
    obtain ⟨b1, hb, h⟩ := bnd h
    cases h
    exact ret_z hb hQ
  · replace h := (if_neg hc).symm.trans h
    refine go_br (fun hc : x1 = 0 => ?_) (fun hc : ¬ (x1 = 0) => ?_)
    · replace h := (if_pos hc).symm.trans h
      exact c_Sea_isWhole_L96 hP hQ hk61 _ _ h
    · replace h := (if_neg hc).symm.trans h
      obtain ⟨q2, hq, h⟩ := bnd h
      refine go_call (fun _ hw => c_Sea_ofBridge hq hw) ?_
      obtain ⟨q3, hq, h⟩ := bnd h
      refine go_call (fun _ hw => c_Sea_ofBridge hq hw) ?_
      refine go_call (fun _ hw => c_Sea_areToldTwo hw) ?_
      refine go_br (fun hc : (bI (g_Sea_areToldTwo r0 q2 q3 s)) = 0 => ?_) (fun hc : ¬ ((bI (g_Sea_areToldTwo r0 q2 q3 s)) = 0) => ?_)
      · replace h := (if_pos hc).symm.trans h
        exact c_Sea_isWhole_L96 hP hQ hk61 _ _ h
      · replace h := (if_neg hc).symm.trans h
        exact c_Sea_isWhole_L97 hP hQ hk61 _ _ _ h
theorem c_Sea_isWhole_L61 {xs : Nat → Int32} {L d : Nat} {r0 : Nat} {P : MK S2} {Q : S2 → Option MV → Prop} {res : Bool} {s : S2} (hP : MClosed (O3 xs L) (kcall (O3 xs L) (d + 2)) kd_Sea_isWhole 2 Q P) (hQ : Q s (some (mI (bI res)))) : ∀ (fu : Nat) (x1 : Int32) (x2 : Int32), f_Sea_isWhole_L61 r0 fu x1 x2 s = some res → P 61 [some (mR 13 r0), some (mI x1), some (mI x2)] [] s (0, 0)
  | 0, _, _, h => by cases h
  | fu + 1, x1, x2, h => cb_Sea_isWhole_L61 hP hQ (c_Sea_isWhole_L61 hP hQ fu) x1 x2 h
theorem c_Sea_isWhole_L52 {xs : Nat → Int32} {L d : Nat} {r0 : Nat} {P : MK S2} {Q : S2 → Option MV → Prop} {res : Bool} {s : S2} (hP : MClosed (O3 xs L) (kcall (O3 xs L) (d + 2)) kd_Sea_isWhole 2 Q P) (hQ : Q s (some (mI (bI res)))) {k16 : Int32 → Int32 → S2 → Option Bool} (hk16 : ∀ (x1 : Int32) (x2 : Int32), k16 x1 x2 s = some res → P 16 [some (mR 13 r0), some (mI x1), some (mI x2)] [] s (0, 0)) (x2 : Int32) (y0 : Int32) (x1 : Int32) (h : f_Sea_isWhole_L52 r0 k16 x2 y0 s = some res) : P 52 [some (mR 13 r0), some (mI x1), some (mI x2)] [mI y0] s (0, 0) := by
  refine mgo_from hP [13, 16, 51, 52, 61, 96, 97] 260 ?_
  exact hk16 _ _ h
theorem c_Sea_isWhole_L51 {xs : Nat → Int32} {L d : Nat} {r0 : Nat} {P : MK S2} {Q : S2 → Option MV → Prop} {res : Bool} {s : S2} (hP : MClosed (O3 xs L) (kcall (O3 xs L) (d + 2)) kd_Sea_isWhole 2 Q P) (hQ : Q s (some (mI (bI res)))) {k16 : Int32 → Int32 → S2 → Option Bool} (hk16 : ∀ (x1 : Int32) (x2 : Int32), k16 x1 x2 s = some res → P 16 [some (mR 13 r0), some (mI x1), some (mI x2)] [] s (0, 0)) (x2 : Int32) (x1 : Int32) (h : f_Sea_isWhole_L51 r0 k16 x2 s = some res) : P 51 [some (mR 13 r0), some (mI x1), some (mI x2)] [] s (0, 0) := by
  refine mgo_from hP [13, 16, 51, 52, 61, 96, 97] 260 ?_
  exact c_Sea_isWhole_L52 hP hQ hk16 _ _ _ h
theorem cb_Sea_isWhole_L16 {xs : Nat → Int32} {L d : Nat} {r0 : Nat} {P : MK S2} {Q : S2 → Option MV → Prop} {res : Bool} {s : S2} (hP : MClosed (O3 xs L) (kcall (O3 xs L) (d + 2)) kd_Sea_isWhole 2 Q P) (hQ : Q s (some (mI (bI res)))) {k16 : Int32 → Int32 → S2 → Option Bool} (hk16 : ∀ (x1 : Int32) (x2 : Int32), k16 x1 x2 s = some res → P 16 [some (mR 13 r0), some (mI x1), some (mI x2)] [] s (0, 0)) (x1 : Int32) (x2 : Int32) (h : b_Sea_isWhole_L16 r0 k16 x1 x2 s = some res) : P 16 [some (mR 13 r0), some (mI x1), some (mI x2)] [] s (0, 0) := by
  refine mgo_from hP [13, 16, 51, 52, 61, 96, 97] 260 ?_
  refine go_call (fun _ hw => c_Sea_ties hw) ?_
  refine go_br (fun hc : (g_Sea_ties r0 s) ≤ x2 => ?_) (fun hc : ¬ ((g_Sea_ties r0 s) ≤ x2) => ?_)
  · replace h := (if_pos hc).symm.trans h
    exact c_Sea_isWhole_L61 hP hQ FU _ _ h
  · replace h := (if_neg hc).symm.trans h
    refine go_br (fun hc : x1 = 0 => ?_) (fun hc : ¬ (x1 = 0) => ?_)
    · replace h := (if_pos hc).symm.trans h
      exact c_Sea_isWhole_L51 hP hQ hk16 _ _ h
    · replace h := (if_neg hc).symm.trans h
      obtain ⟨q1, hq, h⟩ := bnd h
      refine go_call (fun _ hw => c_Sea_ofTie hq hw) ?_
      obtain ⟨q2, hq, h⟩ := bnd h
      refine go_call (fun _ hw => c_Sea_ofTie hq hw) ?_
      refine go_call (fun _ hw => c_Sea_areToldTwo hw) ?_
      refine go_br (fun hc : (bI (g_Sea_areToldTwo r0 q1 q2 s)) = 0 => ?_) (fun hc : ¬ ((bI (g_Sea_areToldTwo r0 q1 q2 s)) = 0) => ?_)
      · replace h := (if_pos hc).symm.trans h
        exact c_Sea_isWhole_L51 hP hQ hk16 _ _ h
      · replace h := (if_neg hc).symm.trans h
        exact c_Sea_isWhole_L52 hP hQ hk16 _ _ _ h
theorem c_Sea_isWhole_L16 {xs : Nat → Int32} {L d : Nat} {r0 : Nat} {P : MK S2} {Q : S2 → Option MV → Prop} {res : Bool} {s : S2} (hP : MClosed (O3 xs L) (kcall (O3 xs L) (d + 2)) kd_Sea_isWhole 2 Q P) (hQ : Q s (some (mI (bI res)))) : ∀ (fu : Nat) (x1 : Int32) (x2 : Int32), f_Sea_isWhole_L16 r0 fu x1 x2 s = some res → P 16 [some (mR 13 r0), some (mI x1), some (mI x2)] [] s (0, 0)
  | 0, _, _, h => by cases h
  | fu + 1, x1, x2, h => cb_Sea_isWhole_L16 hP hQ (c_Sea_isWhole_L16 hP hQ fu) x1 x2 h
theorem c_Sea_isWhole_L13 {xs : Nat → Int32} {L d : Nat} {r0 : Nat} {P : MK S2} {Q : S2 → Option MV → Prop} {res : Bool} {s : S2} (hP : MClosed (O3 xs L) (kcall (O3 xs L) (d + 2)) kd_Sea_isWhole 2 Q P) (hQ : Q s (some (mI (bI res)))) (y0 : Int32) (h : f_Sea_isWhole_L13 r0 y0 s = some res) : P 13 [some (mR 13 r0), none, none] [mI y0] s (0, 0) := by
  refine mgo_from hP [13, 16, 51, 52, 61, 96, 97] 260 ?_
  exact c_Sea_isWhole_L16 hP hQ FU _ _ h
theorem c_Sea_isWhole {xs : Nat → Int32} {L d : Nat} {r0 : Nat} {s : S2} {res : Bool} {Q : S2 → Option MV → Prop} (h : f_Sea_isWhole r0 s = some res) (hQ : Q s (some (mI (bI res)))) : kcall (O3 xs L) (d + 3) k_Sea_isWhole [mR 13 r0] s Q := by
  refine kc_of (cd := kd_Sea_isWhole) (mx := 3) (rt := 2) rfl rfl ?_
  intro P hP
  refine mgo_sound hP [13, 16, 51, 52, 61, 96, 97] 260 _ _ _ _ _ ?_
  refine go_call (fun _ hw => c_Sea_isles hw) ?_
  refine go_br (fun hc : (g_Sea_isles r0 s) < (Int32.ofInt 2) => ?_) (fun hc : ¬ ((g_Sea_isles r0 s) < (Int32.ofInt 2)) => ?_)
  · replace h := (if_pos hc).symm.trans h
    exact c_Sea_isWhole_L13 hP hQ _ h
  · replace h := (if_neg hc).symm.trans h
    exact c_Sea_isWhole_L13 hP hQ _ h
/-! Past_clear -/
def f_Past_clear (s : S2) : Option S2 := ((f_Past_forgetStates s).bind fun q1 => ((some (pkS q1 22 0 4 (Int32.ofInt 0))).bind fun s2 => some s2))
theorem c_Past_clear {xs : Nat → Int32} {L d : Nat} {s : S2} {res : S2} {Q : S2 → Option MV → Prop} (h : f_Past_clear s = some res) (hQ : Q res none) : kcall (O3 xs L) (d + 2) k_Past_clear [mR 22 0] s Q := by
  refine kc_of (cd := kd_Past_clear) (mx := 1) (rt := 0) rfl rfl ?_
  intro P hP
  refine mgo_sound hP [] 260 _ _ _ _ _ ?_
  obtain ⟨q1, hq, h⟩ := bnd h
  refine go_call (fun _ hw => c_Past_forgetStates hq hw) ?_
  replace h := bnds h
  cases h
  exact hQ
