/-! M_items -/
def f_M_items_L126 (c2 : Nat) (i2 : Nat) (n2 : Nat) (k41 : Int32 → Int32 → Int32 → Int32 → S2 → Option S2) (x1 : Int32) (x3 : Int32) (x5 : Int32) (y0 : Int32) (s : S2) : Option S2 := (k41 x1 x3 x5 y0 s)
def b_M_items_L41 (c2 : Nat) (i2 : Nat) (n2 : Nat) (k41 : Int32 → Int32 → Int32 → Int32 → S2 → Option S2) (x1 : Int32) (x3 : Int32) (x5 : Int32) (x6 : Int32) (s : S2) : Option S2 := (if (s.1 60 0 4) = (Int32.ofInt (-1)) then (if x6 = (Int32.ofInt (-1)) then some s else (if (bI (g_M_has x5 x6 s)) = 0 then ((some (pkS s 60 0 3 ((s.1 60 0 3) + (Int32.ofInt 1)))).bind fun s1 => ((f_M_number (g_M_lowest x1 x6 s1) (g_M_highest x1 x6 s1) s1).bind fun q2 => ((ix n2 (x3 + x6)).bind fun j4 => (some (pkS q2.1 c2 i2 j4 q2.2)).bind fun s3 => (if (s3.1 60 0 4) = (Int32.ofInt (-1)) then ((f_M_look s3).bind fun q5 => (f_M_items_L126 c2 i2 n2 k41 x1 x3 (x5 ||| ((Int32.ofInt 1) <<< (x6 &&& 31))) (g_M_itemOf x1 q5.2 q5.1) q5.1)) else (f_M_items_L126 c2 i2 n2 k41 x1 x3 (x5 ||| ((Int32.ofInt 1) <<< (x6 &&& 31))) (Int32.ofInt (-1)) s3))))) else some s)) else some s)
def f_M_items_L41 (c2 : Nat) (i2 : Nat) (n2 : Nat) : Nat → Int32 → Int32 → Int32 → Int32 → S2 → Option S2
  | 0 => fun _ _ _ _ _ => none
  | n + 1 => b_M_items_L41 c2 i2 n2 (f_M_items_L41 c2 i2 n2 n)
def b_M_items_L3 (c2 : Nat) (i2 : Nat) (n2 : Nat) (k3 : Int32 → Int32 → Int32 → Int32 → S2 → Option S2) (x1 : Int32) (x3 : Int32) (x4 : Int32) (x5 : Int32) (s : S2) : Option S2 := (if x4 ≤ x5 then ((f_M_look s).bind fun q1 => (f_M_items_L41 c2 i2 n2 FU x1 x3 (Int32.ofInt 0) (g_M_itemOf x1 q1.2 q1.1) q1.1)) else ((ix n2 (x3 + x5)).bind fun j3 => (some (pkS s c2 i2 j3 (g_M_usual x1 x5 s))).bind fun s2 => (k3 x1 x3 x4 (x5 + (Int32.ofInt 1)) s2)))
def f_M_items_L3 (c2 : Nat) (i2 : Nat) (n2 : Nat) : Nat → Int32 → Int32 → Int32 → Int32 → S2 → Option S2
  | 0 => fun _ _ _ _ _ => none
  | n + 1 => b_M_items_L3 c2 i2 n2 (f_M_items_L3 c2 i2 n2 n)
def f_M_items (a1 : Int32) (c2 : Nat) (i2 : Nat) (n2 : Nat) (a3 : Int32) (a4 : Int32) (s : S2) : Option S2 := (f_M_items_L3 c2 i2 n2 FU a1 a3 a4 (Int32.ofInt 0) s)
theorem c_M_items_71_L126 {xs : Nat → Int32} {L d : Nat} {i2 : Nat} {P : MK S2} {Q : S2 → Option MV → Prop} {res : S2} (hP : MClosed (O3 xs L) (kcall (O3 xs L) (d + 3)) kd_M_items 0 Q P) (hQ : Q res none) {k41 : Int32 → Int32 → Int32 → Int32 → S2 → Option S2} (hk41 : ∀ (x1 : Int32) (x3 : Int32) (x5 : Int32) (x6 : Int32) (x4 : Int32) (s : S2), k41 x1 x3 x5 x6 s = some res → P 41 [some (mR 60 0), some (mI x1), some (mR 71 i2), some (mI x3), some (mI x4), some (mI x5), some (mI x6)] [] s (0, 0)) (x1 : Int32) (x3 : Int32) (x5 : Int32) (y0 : Int32) (x4 : Int32) (x6 : Int32) (s : S2) (h : f_M_items_L126 71 i2 4 k41 x1 x3 x5 y0 s = some res) : P 126 [some (mR 60 0), some (mI x1), some (mR 71 i2), some (mI x3), some (mI x4), some (mI x5), some (mI x6)] [mI y0] s (0, 0) := by
  refine mgo_from hP [3, 41, 126] 260 ?_
  exact hk41 _ _ _ _ _ _ h
set_option maxRecDepth 20000 in
set_option maxHeartbeats 4000000 in
theorem cb_M_items_71_L41 {xs : Nat → Int32} {L d : Nat} {i2 : Nat} {P : MK S2} {Q : S2 → Option MV → Prop} {res : S2} (hP : MClosed (O3 xs L) (kcall (O3 xs L) (d + 3)) kd_M_items 0 Q P) (hQ : Q res none) {k41 : Int32 → Int32 → Int32 → Int32 → S2 → Option S2} (hk41 : ∀ (x1 : Int32) (x3 : Int32) (x5 : Int32) (x6 : Int32) (x4 : Int32) (s : S2), k41 x1 x3 x5 x6 s = some res → P 41 [some (mR 60 0), some (mI x1), some (mR 71 i2), some (mI x3), some (mI x4), some (mI x5), some (mI x6)] [] s (0, 0)) (x1 : Int32) (x3 : Int32) (x5 : Int32) (x6 : Int32) (x4 : Int32) (s : S2) (h : b_M_items_L41 71 i2 4 k41 x1 x3 x5 x6 s = some res) : P 41 [some (mR 60 0), some (mI x1), some (mR 71 i2), some (mI x3), some (mI x4), some (mI x5), some (mI x6)] [] s (0, 0) := by
  refine mgo_from hP [3, 41, 126] 260 ?_
  refine go_brn (fun hc : ¬ ((s.1 60 0 4) = (Int32.ofInt (-1))) => ?_) (fun hc : (s.1 60 0 4) = (Int32.ofInt (-1)) => ?_)
  · replace h := (if_neg hc).symm.trans h
    cases h
    exact hQ
  · replace h := (if_pos hc).symm.trans h
    refine go_br (fun hc : x6 = (Int32.ofInt (-1)) => ?_) (fun hc : ¬ (x6 = (Int32.ofInt (-1))) => ?_)
    · replace h := (if_pos hc).symm.trans h
      cases h
      exact hQ
    · replace h := (if_neg hc).symm.trans h
      refine go_call (fun _ hw => c_M_has hw) ?_
      refine go_brn (fun hc : ¬ ((bI (g_M_has x5 x6 s)) = 0) => ?_) (fun hc : (bI (g_M_has x5 x6 s)) = 0 => ?_)
      · replace h := (if_neg hc).symm.trans h
        cases h
        exact hQ
      · replace h := (if_pos hc).symm.trans h
        replace h := bnds h
        refine go_call (fun _ hw => c_M_lowest hw) ?_
        refine go_call (fun _ hw => c_M_highest hw) ?_
        obtain ⟨q2, hq, h⟩ := bnd h
        refine go_call (fun _ hw => c_M_number hq hw) ?_
        obtain ⟨j4, hj, h⟩ := bnd h
        replace h := bnds h
        refine go_ix j4 (ix_lt hj) (ix_eq hj) ?_
        refine go_brn (fun hc => ?_) (fun hc => ?_)
        · replace h := (if_neg hc).symm.trans h
          exact c_M_items_71_L126 hP hQ hk41 _ _ _ _ _ _ _ h
        · replace h := (if_pos hc).symm.trans h
          obtain ⟨q5, hq, h⟩ := bnd h
          refine go_call (fun _ hw => c_M_look hq hw) ?_
          refine go_call (fun _ hw => c_M_itemOf hw) ?_
          exact c_M_items_71_L126 hP hQ hk41 _ _ _ _ _ _ _ h
theorem c_M_items_71_L41 {xs : Nat → Int32} {L d : Nat} {i2 : Nat} {P : MK S2} {Q : S2 → Option MV → Prop} {res : S2} (hP : MClosed (O3 xs L) (kcall (O3 xs L) (d + 3)) kd_M_items 0 Q P) (hQ : Q res none) : ∀ (fu : Nat) (x1 : Int32) (x3 : Int32) (x5 : Int32) (x6 : Int32) (x4 : Int32) (s : S2), f_M_items_L41 71 i2 4 fu x1 x3 x5 x6 s = some res → P 41 [some (mR 60 0), some (mI x1), some (mR 71 i2), some (mI x3), some (mI x4), some (mI x5), some (mI x6)] [] s (0, 0)
  | 0, _, _, _, _, _, _, h => by cases h
  | fu + 1, x1, x3, x5, x6, x4, s, h => cb_M_items_71_L41 hP hQ (c_M_items_71_L41 hP hQ fu) x1 x3 x5 x6 x4 s h
theorem cb_M_items_71_L3 {xs : Nat → Int32} {L d : Nat} {i2 : Nat} {P : MK S2} {Q : S2 → Option MV → Prop} {res : S2} (hP : MClosed (O3 xs L) (kcall (O3 xs L) (d + 3)) kd_M_items 0 Q P) (hQ : Q res none) {k3 : Int32 → Int32 → Int32 → Int32 → S2 → Option S2} (hk3 : ∀ (x1 : Int32) (x3 : Int32) (x4 : Int32) (x5 : Int32) (s : S2), k3 x1 x3 x4 x5 s = some res → P 3 [some (mR 60 0), some (mI x1), some (mR 71 i2), some (mI x3), some (mI x4), some (mI x5), none] [] s (0, 0)) (x1 : Int32) (x3 : Int32) (x4 : Int32) (x5 : Int32) (s : S2) (h : b_M_items_L3 71 i2 4 k3 x1 x3 x4 x5 s = some res) : P 3 [some (mR 60 0), some (mI x1), some (mR 71 i2), some (mI x3), some (mI x4), some (mI x5), none] [] s (0, 0) := by
  refine mgo_from hP [3, 41, 126] 260 ?_
  refine go_br (fun hc : x4 ≤ x5 => ?_) (fun hc : ¬ (x4 ≤ x5) => ?_)
  · replace h := (if_pos hc).symm.trans h
    obtain ⟨q1, hq, h⟩ := bnd h
    refine go_call (fun _ hw => c_M_look hq hw) ?_
    refine go_call (fun _ hw => c_M_itemOf hw) ?_
    exact c_M_items_71_L41 hP hQ FU _ _ _ _ _ _ h
  · replace h := (if_neg hc).symm.trans h
    refine go_call (fun _ hw => c_M_usual hw) ?_
    obtain ⟨j3, hj, h⟩ := bnd h
    replace h := bnds h
    refine go_ix j3 (ix_lt hj) (ix_eq hj) ?_
    exact hk3 _ _ _ _ _ h
theorem c_M_items_71_L3 {xs : Nat → Int32} {L d : Nat} {i2 : Nat} {P : MK S2} {Q : S2 → Option MV → Prop} {res : S2} (hP : MClosed (O3 xs L) (kcall (O3 xs L) (d + 3)) kd_M_items 0 Q P) (hQ : Q res none) : ∀ (fu : Nat) (x1 : Int32) (x3 : Int32) (x4 : Int32) (x5 : Int32) (s : S2), f_M_items_L3 71 i2 4 fu x1 x3 x4 x5 s = some res → P 3 [some (mR 60 0), some (mI x1), some (mR 71 i2), some (mI x3), some (mI x4), some (mI x5), none] [] s (0, 0)
  | 0, _, _, _, _, _, h => by cases h
  | fu + 1, x1, x3, x4, x5, s, h => cb_M_items_71_L3 hP hQ (c_M_items_71_L3 hP hQ fu) x1 x3 x4 x5 s h
theorem c_M_items_71 {xs : Nat → Int32} {L d : Nat} {a1 : Int32} {i2 : Nat} {a3 : Int32} {a4 : Int32} {s : S2} {res : S2} {Q : S2 → Option MV → Prop} (h : f_M_items a1 71 i2 4 a3 a4 s = some res) (hQ : Q res none) : kcall (O3 xs L) (d + 4) k_M_items [mR 60 0, mI a1, mR 71 i2, mI a3, mI a4] s Q := by
  refine kc_of (cd := kd_M_items) (mx := 7) (rt := 0) rfl rfl ?_
  intro P hP
  refine mgo_sound hP [3, 41, 126] 260 _ _ _ _ _ ?_
  exact c_M_items_71_L3 hP hQ FU _ _ _ _ _ h
theorem c_M_items_72_L126 {xs : Nat → Int32} {L d : Nat} {i2 : Nat} {P : MK S2} {Q : S2 → Option MV → Prop} {res : S2} (hP : MClosed (O3 xs L) (kcall (O3 xs L) (d + 3)) kd_M_items 0 Q P) (hQ : Q res none) {k41 : Int32 → Int32 → Int32 → Int32 → S2 → Option S2} (hk41 : ∀ (x1 : Int32) (x3 : Int32) (x5 : Int32) (x6 : Int32) (x4 : Int32) (s : S2), k41 x1 x3 x5 x6 s = some res → P 41 [some (mR 60 0), some (mI x1), some (mR 72 i2), some (mI x3), some (mI x4), some (mI x5), some (mI x6)] [] s (0, 0)) (x1 : Int32) (x3 : Int32) (x5 : Int32) (y0 : Int32) (x4 : Int32) (x6 : Int32) (s : S2) (h : f_M_items_L126 72 i2 48 k41 x1 x3 x5 y0 s = some res) : P 126 [some (mR 60 0), some (mI x1), some (mR 72 i2), some (mI x3), some (mI x4), some (mI x5), some (mI x6)] [mI y0] s (0, 0) := by
  refine mgo_from hP [3, 41, 126] 260 ?_
  exact hk41 _ _ _ _ _ _ h
set_option maxRecDepth 20000 in
set_option maxHeartbeats 4000000 in
theorem cb_M_items_72_L41 {xs : Nat → Int32} {L d : Nat} {i2 : Nat} {P : MK S2} {Q : S2 → Option MV → Prop} {res : S2} (hP : MClosed (O3 xs L) (kcall (O3 xs L) (d + 3)) kd_M_items 0 Q P) (hQ : Q res none) {k41 : Int32 → Int32 → Int32 → Int32 → S2 → Option S2} (hk41 : ∀ (x1 : Int32) (x3 : Int32) (x5 : Int32) (x6 : Int32) (x4 : Int32) (s : S2), k41 x1 x3 x5 x6 s = some res → P 41 [some (mR 60 0), some (mI x1), some (mR 72 i2), some (mI x3), some (mI x4), some (mI x5), some (mI x6)] [] s (0, 0)) (x1 : Int32) (x3 : Int32) (x5 : Int32) (x6 : Int32) (x4 : Int32) (s : S2) (h : b_M_items_L41 72 i2 48 k41 x1 x3 x5 x6 s = some res) : P 41 [some (mR 60 0), some (mI x1), some (mR 72 i2), some (mI x3), some (mI x4), some (mI x5), some (mI x6)] [] s (0, 0) := by
  refine mgo_from hP [3, 41, 126] 260 ?_
  refine go_brn (fun hc : ¬ ((s.1 60 0 4) = (Int32.ofInt (-1))) => ?_) (fun hc : (s.1 60 0 4) = (Int32.ofInt (-1)) => ?_)
  · replace h := (if_neg hc).symm.trans h
    cases h
    exact hQ
  · replace h := (if_pos hc).symm.trans h
    refine go_br (fun hc : x6 = (Int32.ofInt (-1)) => ?_) (fun hc : ¬ (x6 = (Int32.ofInt (-1))) => ?_)
    · replace h := (if_pos hc).symm.trans h
      cases h
      exact hQ
    · replace h := (if_neg hc).symm.trans h
      refine go_call (fun _ hw => c_M_has hw) ?_
      refine go_brn (fun hc : ¬ ((bI (g_M_has x5 x6 s)) = 0) => ?_) (fun hc : (bI (g_M_has x5 x6 s)) = 0 => ?_)
      · replace h := (if_neg hc).symm.trans h
        cases h
        exact hQ
      · replace h := (if_pos hc).symm.trans h
        replace h := bnds h
        refine go_call (fun _ hw => c_M_lowest hw) ?_
        refine go_call (fun _ hw => c_M_highest hw) ?_
        obtain ⟨q2, hq, h⟩ := bnd h
        refine go_call (fun _ hw => c_M_number hq hw) ?_
        obtain ⟨j4, hj, h⟩ := bnd h
        replace h := bnds h
        refine go_ix j4 (ix_lt hj) (ix_eq hj) ?_
        refine go_brn (fun hc => ?_) (fun hc => ?_)
        · replace h := (if_neg hc).symm.trans h
          exact c_M_items_72_L126 hP hQ hk41 _ _ _ _ _ _ _ h
        · replace h := (if_pos hc).symm.trans h
          obtain ⟨q5, hq, h⟩ := bnd h
          refine go_call (fun _ hw => c_M_look hq hw) ?_
          refine go_call (fun _ hw => c_M_itemOf hw) ?_
          exact c_M_items_72_L126 hP hQ hk41 _ _ _ _ _ _ _ h
theorem c_M_items_72_L41 {xs : Nat → Int32} {L d : Nat} {i2 : Nat} {P : MK S2} {Q : S2 → Option MV → Prop} {res : S2} (hP : MClosed (O3 xs L) (kcall (O3 xs L) (d + 3)) kd_M_items 0 Q P) (hQ : Q res none) : ∀ (fu : Nat) (x1 : Int32) (x3 : Int32) (x5 : Int32) (x6 : Int32) (x4 : Int32) (s : S2), f_M_items_L41 72 i2 48 fu x1 x3 x5 x6 s = some res → P 41 [some (mR 60 0), some (mI x1), some (mR 72 i2), some (mI x3), some (mI x4), some (mI x5), some (mI x6)] [] s (0, 0)
  | 0, _, _, _, _, _, _, h => by cases h
  | fu + 1, x1, x3, x5, x6, x4, s, h => cb_M_items_72_L41 hP hQ (c_M_items_72_L41 hP hQ fu) x1 x3 x5 x6 x4 s h
theorem cb_M_items_72_L3 {xs : Nat → Int32} {L d : Nat} {i2 : Nat} {P : MK S2} {Q : S2 → Option MV → Prop} {res : S2} (hP : MClosed (O3 xs L) (kcall (O3 xs L) (d + 3)) kd_M_items 0 Q P) (hQ : Q res none) {k3 : Int32 → Int32 → Int32 → Int32 → S2 → Option S2} (hk3 : ∀ (x1 : Int32) (x3 : Int32) (x4 : Int32) (x5 : Int32) (s : S2), k3 x1 x3 x4 x5 s = some res → P 3 [some (mR 60 0), some (mI x1), some (mR 72 i2), some (mI x3), some (mI x4), some (mI x5), none] [] s (0, 0)) (x1 : Int32) (x3 : Int32) (x4 : Int32) (x5 : Int32) (s : S2) (h : b_M_items_L3 72 i2 48 k3 x1 x3 x4 x5 s = some res) : P 3 [some (mR 60 0), some (mI x1), some (mR 72 i2), some (mI x3), some (mI x4), some (mI x5), none] [] s (0, 0) := by
  refine mgo_from hP [3, 41, 126] 260 ?_
  refine go_br (fun hc : x4 ≤ x5 => ?_) (fun hc : ¬ (x4 ≤ x5) => ?_)
  · replace h := (if_pos hc).symm.trans h
    obtain ⟨q1, hq, h⟩ := bnd h
    refine go_call (fun _ hw => c_M_look hq hw) ?_
    refine go_call (fun _ hw => c_M_itemOf hw) ?_
    exact c_M_items_72_L41 hP hQ FU _ _ _ _ _ _ h
  · replace h := (if_neg hc).symm.trans h
    refine go_call (fun _ hw => c_M_usual hw) ?_
    obtain ⟨j3, hj, h⟩ := bnd h
    replace h := bnds h
    refine go_ix j3 (ix_lt hj) (ix_eq hj) ?_
    exact hk3 _ _ _ _ _ h
theorem c_M_items_72_L3 {xs : Nat → Int32} {L d : Nat} {i2 : Nat} {P : MK S2} {Q : S2 → Option MV → Prop} {res : S2} (hP : MClosed (O3 xs L) (kcall (O3 xs L) (d + 3)) kd_M_items 0 Q P) (hQ : Q res none) : ∀ (fu : Nat) (x1 : Int32) (x3 : Int32) (x4 : Int32) (x5 : Int32) (s : S2), f_M_items_L3 72 i2 48 fu x1 x3 x4 x5 s = some res → P 3 [some (mR 60 0), some (mI x1), some (mR 72 i2), some (mI x3), some (mI x4), some (mI x5), none] [] s (0, 0)
  | 0, _, _, _, _, _, h => by cases h
  | fu + 1, x1, x3, x4, x5, s, h => cb_M_items_72_L3 hP hQ (c_M_items_72_L3 hP hQ fu) x1 x3 x4 x5 s h
theorem c_M_items_72 {xs : Nat → Int32} {L d : Nat} {a1 : Int32} {i2 : Nat} {a3 : Int32} {a4 : Int32} {s : S2} {res : S2} {Q : S2 → Option MV → Prop} (h : f_M_items a1 72 i2 48 a3 a4 s = some res) (hQ : Q res none) : kcall (O3 xs L) (d + 4) k_M_items [mR 60 0, mI a1, mR 72 i2, mI a3, mI a4] s Q := by
  refine kc_of (cd := kd_M_items) (mx := 7) (rt := 0) rfl rfl ?_
  intro P hP
  refine mgo_sound hP [3, 41, 126] 260 _ _ _ _ _ ?_
  exact c_M_items_72_L3 hP hQ FU _ _ _ _ _ h
theorem c_M_items_73_L126 {xs : Nat → Int32} {L d : Nat} {i2 : Nat} {P : MK S2} {Q : S2 → Option MV → Prop} {res : S2} (hP : MClosed (O3 xs L) (kcall (O3 xs L) (d + 3)) kd_M_items 0 Q P) (hQ : Q res none) {k41 : Int32 → Int32 → Int32 → Int32 → S2 → Option S2} (hk41 : ∀ (x1 : Int32) (x3 : Int32) (x5 : Int32) (x6 : Int32) (x4 : Int32) (s : S2), k41 x1 x3 x5 x6 s = some res → P 41 [some (mR 60 0), some (mI x1), some (mR 73 i2), some (mI x3), some (mI x4), some (mI x5), some (mI x6)] [] s (0, 0)) (x1 : Int32) (x3 : Int32) (x5 : Int32) (y0 : Int32) (x4 : Int32) (x6 : Int32) (s : S2) (h : f_M_items_L126 73 i2 32 k41 x1 x3 x5 y0 s = some res) : P 126 [some (mR 60 0), some (mI x1), some (mR 73 i2), some (mI x3), some (mI x4), some (mI x5), some (mI x6)] [mI y0] s (0, 0) := by
  refine mgo_from hP [3, 41, 126] 260 ?_
  exact hk41 _ _ _ _ _ _ h
set_option maxRecDepth 20000 in
set_option maxHeartbeats 4000000 in
theorem cb_M_items_73_L41 {xs : Nat → Int32} {L d : Nat} {i2 : Nat} {P : MK S2} {Q : S2 → Option MV → Prop} {res : S2} (hP : MClosed (O3 xs L) (kcall (O3 xs L) (d + 3)) kd_M_items 0 Q P) (hQ : Q res none) {k41 : Int32 → Int32 → Int32 → Int32 → S2 → Option S2} (hk41 : ∀ (x1 : Int32) (x3 : Int32) (x5 : Int32) (x6 : Int32) (x4 : Int32) (s : S2), k41 x1 x3 x5 x6 s = some res → P 41 [some (mR 60 0), some (mI x1), some (mR 73 i2), some (mI x3), some (mI x4), some (mI x5), some (mI x6)] [] s (0, 0)) (x1 : Int32) (x3 : Int32) (x5 : Int32) (x6 : Int32) (x4 : Int32) (s : S2) (h : b_M_items_L41 73 i2 32 k41 x1 x3 x5 x6 s = some res) : P 41 [some (mR 60 0), some (mI x1), some (mR 73 i2), some (mI x3), some (mI x4), some (mI x5), some (mI x6)] [] s (0, 0) := by
  refine mgo_from hP [3, 41, 126] 260 ?_
  refine go_brn (fun hc : ¬ ((s.1 60 0 4) = (Int32.ofInt (-1))) => ?_) (fun hc : (s.1 60 0 4) = (Int32.ofInt (-1)) => ?_)
  · replace h := (if_neg hc).symm.trans h
    cases h
    exact hQ
  · replace h := (if_pos hc).symm.trans h
    refine go_br (fun hc : x6 = (Int32.ofInt (-1)) => ?_) (fun hc : ¬ (x6 = (Int32.ofInt (-1))) => ?_)
    · replace h := (if_pos hc).symm.trans h
      cases h
      exact hQ
    · replace h := (if_neg hc).symm.trans h
      refine go_call (fun _ hw => c_M_has hw) ?_
      refine go_brn (fun hc : ¬ ((bI (g_M_has x5 x6 s)) = 0) => ?_) (fun hc : (bI (g_M_has x5 x6 s)) = 0 => ?_)
      · replace h := (if_neg hc).symm.trans h
        cases h
        exact hQ
      · replace h := (if_pos hc).symm.trans h
        replace h := bnds h
        refine go_call (fun _ hw => c_M_lowest hw) ?_
        refine go_call (fun _ hw => c_M_highest hw) ?_
        obtain ⟨q2, hq, h⟩ := bnd h
        refine go_call (fun _ hw => c_M_number hq hw) ?_
        obtain ⟨j4, hj, h⟩ := bnd h
        replace h := bnds h
        refine go_ix j4 (ix_lt hj) (ix_eq hj) ?_
        refine go_brn (fun hc => ?_) (fun hc => ?_)
        · replace h := (if_neg hc).symm.trans h
          exact c_M_items_73_L126 hP hQ hk41 _ _ _ _ _ _ _ h
        · replace h := (if_pos hc).symm.trans h
          obtain ⟨q5, hq, h⟩ := bnd h
          refine go_call (fun _ hw => c_M_look hq hw) ?_
          refine go_call (fun _ hw => c_M_itemOf hw) ?_
          exact c_M_items_73_L126 hP hQ hk41 _ _ _ _ _ _ _ h
theorem c_M_items_73_L41 {xs : Nat → Int32} {L d : Nat} {i2 : Nat} {P : MK S2} {Q : S2 → Option MV → Prop} {res : S2} (hP : MClosed (O3 xs L) (kcall (O3 xs L) (d + 3)) kd_M_items 0 Q P) (hQ : Q res none) : ∀ (fu : Nat) (x1 : Int32) (x3 : Int32) (x5 : Int32) (x6 : Int32) (x4 : Int32) (s : S2), f_M_items_L41 73 i2 32 fu x1 x3 x5 x6 s = some res → P 41 [some (mR 60 0), some (mI x1), some (mR 73 i2), some (mI x3), some (mI x4), some (mI x5), some (mI x6)] [] s (0, 0)
  | 0, _, _, _, _, _, _, h => by cases h
  | fu + 1, x1, x3, x5, x6, x4, s, h => cb_M_items_73_L41 hP hQ (c_M_items_73_L41 hP hQ fu) x1 x3 x5 x6 x4 s h
theorem cb_M_items_73_L3 {xs : Nat → Int32} {L d : Nat} {i2 : Nat} {P : MK S2} {Q : S2 → Option MV → Prop} {res : S2} (hP : MClosed (O3 xs L) (kcall (O3 xs L) (d + 3)) kd_M_items 0 Q P) (hQ : Q res none) {k3 : Int32 → Int32 → Int32 → Int32 → S2 → Option S2} (hk3 : ∀ (x1 : Int32) (x3 : Int32) (x4 : Int32) (x5 : Int32) (s : S2), k3 x1 x3 x4 x5 s = some res → P 3 [some (mR 60 0), some (mI x1), some (mR 73 i2), some (mI x3), some (mI x4), some (mI x5), none] [] s (0, 0)) (x1 : Int32) (x3 : Int32) (x4 : Int32) (x5 : Int32) (s : S2) (h : b_M_items_L3 73 i2 32 k3 x1 x3 x4 x5 s = some res) : P 3 [some (mR 60 0), some (mI x1), some (mR 73 i2), some (mI x3), some (mI x4), some (mI x5), none] [] s (0, 0) := by
  refine mgo_from hP [3, 41, 126] 260 ?_
  refine go_br (fun hc : x4 ≤ x5 => ?_) (fun hc : ¬ (x4 ≤ x5) => ?_)
  · replace h := (if_pos hc).symm.trans h
    obtain ⟨q1, hq, h⟩ := bnd h
    refine go_call (fun _ hw => c_M_look hq hw) ?_
    refine go_call (fun _ hw => c_M_itemOf hw) ?_
    exact c_M_items_73_L41 hP hQ FU _ _ _ _ _ _ h
  · replace h := (if_neg hc).symm.trans h
    refine go_call (fun _ hw => c_M_usual hw) ?_
    obtain ⟨j3, hj, h⟩ := bnd h
    replace h := bnds h
    refine go_ix j3 (ix_lt hj) (ix_eq hj) ?_
    exact hk3 _ _ _ _ _ h
theorem c_M_items_73_L3 {xs : Nat → Int32} {L d : Nat} {i2 : Nat} {P : MK S2} {Q : S2 → Option MV → Prop} {res : S2} (hP : MClosed (O3 xs L) (kcall (O3 xs L) (d + 3)) kd_M_items 0 Q P) (hQ : Q res none) : ∀ (fu : Nat) (x1 : Int32) (x3 : Int32) (x4 : Int32) (x5 : Int32) (s : S2), f_M_items_L3 73 i2 32 fu x1 x3 x4 x5 s = some res → P 3 [some (mR 60 0), some (mI x1), some (mR 73 i2), some (mI x3), some (mI x4), some (mI x5), none] [] s (0, 0)
  | 0, _, _, _, _, _, h => by cases h
  | fu + 1, x1, x3, x4, x5, s, h => cb_M_items_73_L3 hP hQ (c_M_items_73_L3 hP hQ fu) x1 x3 x4 x5 s h
theorem c_M_items_73 {xs : Nat → Int32} {L d : Nat} {a1 : Int32} {i2 : Nat} {a3 : Int32} {a4 : Int32} {s : S2} {res : S2} {Q : S2 → Option MV → Prop} (h : f_M_items a1 73 i2 32 a3 a4 s = some res) (hQ : Q res none) : kcall (O3 xs L) (d + 4) k_M_items [mR 60 0, mI a1, mR 73 i2, mI a3, mI a4] s Q := by
  refine kc_of (cd := kd_M_items) (mx := 7) (rt := 0) rfl rfl ?_
  intro P hP
  refine mgo_sound hP [3, 41, 126] 260 _ _ _ _ _ ?_
  exact c_M_items_73_L3 hP hQ FU _ _ _ _ _ h
theorem c_M_items_74_L126 {xs : Nat → Int32} {L d : Nat} {i2 : Nat} {P : MK S2} {Q : S2 → Option MV → Prop} {res : S2} (hP : MClosed (O3 xs L) (kcall (O3 xs L) (d + 3)) kd_M_items 0 Q P) (hQ : Q res none) {k41 : Int32 → Int32 → Int32 → Int32 → S2 → Option S2} (hk41 : ∀ (x1 : Int32) (x3 : Int32) (x5 : Int32) (x6 : Int32) (x4 : Int32) (s : S2), k41 x1 x3 x5 x6 s = some res → P 41 [some (mR 60 0), some (mI x1), some (mR 74 i2), some (mI x3), some (mI x4), some (mI x5), some (mI x6)] [] s (0, 0)) (x1 : Int32) (x3 : Int32) (x5 : Int32) (y0 : Int32) (x4 : Int32) (x6 : Int32) (s : S2) (h : f_M_items_L126 74 i2 12 k41 x1 x3 x5 y0 s = some res) : P 126 [some (mR 60 0), some (mI x1), some (mR 74 i2), some (mI x3), some (mI x4), some (mI x5), some (mI x6)] [mI y0] s (0, 0) := by
  refine mgo_from hP [3, 41, 126] 260 ?_
  exact hk41 _ _ _ _ _ _ h
set_option maxRecDepth 20000 in
set_option maxHeartbeats 4000000 in
theorem cb_M_items_74_L41 {xs : Nat → Int32} {L d : Nat} {i2 : Nat} {P : MK S2} {Q : S2 → Option MV → Prop} {res : S2} (hP : MClosed (O3 xs L) (kcall (O3 xs L) (d + 3)) kd_M_items 0 Q P) (hQ : Q res none) {k41 : Int32 → Int32 → Int32 → Int32 → S2 → Option S2} (hk41 : ∀ (x1 : Int32) (x3 : Int32) (x5 : Int32) (x6 : Int32) (x4 : Int32) (s : S2), k41 x1 x3 x5 x6 s = some res → P 41 [some (mR 60 0), some (mI x1), some (mR 74 i2), some (mI x3), some (mI x4), some (mI x5), some (mI x6)] [] s (0, 0)) (x1 : Int32) (x3 : Int32) (x5 : Int32) (x6 : Int32) (x4 : Int32) (s : S2) (h : b_M_items_L41 74 i2 12 k41 x1 x3 x5 x6 s = some res) : P 41 [some (mR 60 0), some (mI x1), some (mR 74 i2), some (mI x3), some (mI x4), some (mI x5), some (mI x6)] [] s (0, 0) := by
  refine mgo_from hP [3, 41, 126] 260 ?_
  refine go_brn (fun hc : ¬ ((s.1 60 0 4) = (Int32.ofInt (-1))) => ?_) (fun hc : (s.1 60 0 4) = (Int32.ofInt (-1)) => ?_)
  · replace h := (if_neg hc).symm.trans h
    cases h
    exact hQ
  · replace h := (if_pos hc).symm.trans h
    refine go_br (fun hc : x6 = (Int32.ofInt (-1)) => ?_) (fun hc : ¬ (x6 = (Int32.ofInt (-1))) => ?_)
    · replace h := (if_pos hc).symm.trans h
      cases h
      exact hQ
    · replace h := (if_neg hc).symm.trans h
      refine go_call (fun _ hw => c_M_has hw) ?_
      refine go_brn (fun hc : ¬ ((bI (g_M_has x5 x6 s)) = 0) => ?_) (fun hc : (bI (g_M_has x5 x6 s)) = 0 => ?_)
      · replace h := (if_neg hc).symm.trans h
        cases h
        exact hQ
      · replace h := (if_pos hc).symm.trans h
        replace h := bnds h
        refine go_call (fun _ hw => c_M_lowest hw) ?_
        refine go_call (fun _ hw => c_M_highest hw) ?_
        obtain ⟨q2, hq, h⟩ := bnd h
        refine go_call (fun _ hw => c_M_number hq hw) ?_
        obtain ⟨j4, hj, h⟩ := bnd h
        replace h := bnds h
        refine go_ix j4 (ix_lt hj) (ix_eq hj) ?_
        refine go_brn (fun hc => ?_) (fun hc => ?_)
        · replace h := (if_neg hc).symm.trans h
          exact c_M_items_74_L126 hP hQ hk41 _ _ _ _ _ _ _ h
        · replace h := (if_pos hc).symm.trans h
          obtain ⟨q5, hq, h⟩ := bnd h
          refine go_call (fun _ hw => c_M_look hq hw) ?_
          refine go_call (fun _ hw => c_M_itemOf hw) ?_
          exact c_M_items_74_L126 hP hQ hk41 _ _ _ _ _ _ _ h
theorem c_M_items_74_L41 {xs : Nat → Int32} {L d : Nat} {i2 : Nat} {P : MK S2} {Q : S2 → Option MV → Prop} {res : S2} (hP : MClosed (O3 xs L) (kcall (O3 xs L) (d + 3)) kd_M_items 0 Q P) (hQ : Q res none) : ∀ (fu : Nat) (x1 : Int32) (x3 : Int32) (x5 : Int32) (x6 : Int32) (x4 : Int32) (s : S2), f_M_items_L41 74 i2 12 fu x1 x3 x5 x6 s = some res → P 41 [some (mR 60 0), some (mI x1), some (mR 74 i2), some (mI x3), some (mI x4), some (mI x5), some (mI x6)] [] s (0, 0)
  | 0, _, _, _, _, _, _, h => by cases h
  | fu + 1, x1, x3, x5, x6, x4, s, h => cb_M_items_74_L41 hP hQ (c_M_items_74_L41 hP hQ fu) x1 x3 x5 x6 x4 s h
theorem cb_M_items_74_L3 {xs : Nat → Int32} {L d : Nat} {i2 : Nat} {P : MK S2} {Q : S2 → Option MV → Prop} {res : S2} (hP : MClosed (O3 xs L) (kcall (O3 xs L) (d + 3)) kd_M_items 0 Q P) (hQ : Q res none) {k3 : Int32 → Int32 → Int32 → Int32 → S2 → Option S2} (hk3 : ∀ (x1 : Int32) (x3 : Int32) (x4 : Int32) (x5 : Int32) (s : S2), k3 x1 x3 x4 x5 s = some res → P 3 [some (mR 60 0), some (mI x1), some (mR 74 i2), some (mI x3), some (mI x4), some (mI x5), none] [] s (0, 0)) (x1 : Int32) (x3 : Int32) (x4 : Int32) (x5 : Int32) (s : S2) (h : b_M_items_L3 74 i2 12 k3 x1 x3 x4 x5 s = some res) : P 3 [some (mR 60 0), some (mI x1), some (mR 74 i2), some (mI x3), some (mI x4), some (mI x5), none] [] s (0, 0) := by
  refine mgo_from hP [3, 41, 126] 260 ?_
  refine go_br (fun hc : x4 ≤ x5 => ?_) (fun hc : ¬ (x4 ≤ x5) => ?_)
  · replace h := (if_pos hc).symm.trans h
    obtain ⟨q1, hq, h⟩ := bnd h
    refine go_call (fun _ hw => c_M_look hq hw) ?_
    refine go_call (fun _ hw => c_M_itemOf hw) ?_
    exact c_M_items_74_L41 hP hQ FU _ _ _ _ _ _ h
  · replace h := (if_neg hc).symm.trans h
    refine go_call (fun _ hw => c_M_usual hw) ?_
    obtain ⟨j3, hj, h⟩ := bnd h
    replace h := bnds h
    refine go_ix j3 (ix_lt hj) (ix_eq hj) ?_
    exact hk3 _ _ _ _ _ h
theorem c_M_items_74_L3 {xs : Nat → Int32} {L d : Nat} {i2 : Nat} {P : MK S2} {Q : S2 → Option MV → Prop} {res : S2} (hP : MClosed (O3 xs L) (kcall (O3 xs L) (d + 3)) kd_M_items 0 Q P) (hQ : Q res none) : ∀ (fu : Nat) (x1 : Int32) (x3 : Int32) (x4 : Int32) (x5 : Int32) (s : S2), f_M_items_L3 74 i2 12 fu x1 x3 x4 x5 s = some res → P 3 [some (mR 60 0), some (mI x1), some (mR 74 i2), some (mI x3), some (mI x4), some (mI x5), none] [] s (0, 0)
  | 0, _, _, _, _, _, h => by cases h
  | fu + 1, x1, x3, x4, x5, s, h => cb_M_items_74_L3 hP hQ (c_M_items_74_L3 hP hQ fu) x1 x3 x4 x5 s h
theorem c_M_items_74 {xs : Nat → Int32} {L d : Nat} {a1 : Int32} {i2 : Nat} {a3 : Int32} {a4 : Int32} {s : S2} {res : S2} {Q : S2 → Option MV → Prop} (h : f_M_items a1 74 i2 12 a3 a4 s = some res) (hQ : Q res none) : kcall (O3 xs L) (d + 4) k_M_items [mR 60 0, mI a1, mR 74 i2, mI a3, mI a4] s Q := by
  refine kc_of (cd := kd_M_items) (mx := 7) (rt := 0) rfl rfl ?_
  intro P hP
  refine mgo_sound hP [3, 41, 126] 260 _ _ _ _ _ ?_
  exact c_M_items_74_L3 hP hQ FU _ _ _ _ _ h
/-! M_clause -/
def f_M_clause_L251 (x1 : Int32) (s : S2) : Option S2 := ((ix 5 (s.1 60 0 14)).bind fun j1 => ((ix 700 x1).bind fun j3 => (some (pkS s 68 0 j3 (s.1 64 0 j1))).bind fun s2 => ((ix 5 (s2.1 60 0 14)).bind fun j4 => ((ix 5 (s2.1 60 0 14)).bind fun j6 => (some (pkS s2 65 0 j6 ((s2.1 65 0 j4) + (Int32.ofInt 1)))).bind fun s5 => some s5))))
def f_M_clause_L184 (x1 : Int32) (x2 : Int32) (s : S2) : Option S2 := ((ix 700 x1).bind fun j1 => ((ix 700 x1).bind fun j3 => (some (pkS s 67 0 j3 (s.1 66 0 j1))).bind fun s2 => (if x2 = 0 then (f_M_clause_L251 x1 s2) else (if (s2.1 60 0 4) = (Int32.ofInt (-1)) then ((f_M_look s2).bind fun q4 => (if q4.2 = (Int32.ofInt 63) then ((some (pkS q4.1 60 0 3 ((q4.1.1 60 0 3) + (Int32.ofInt 1)))).bind fun s5 => ((ix 5 (s5.1 60 0 14)).bind fun j6 => ((ix 700 x1).bind fun j8 => (some (pkS s5 67 0 j8 (s5.1 64 0 j6))).bind fun s7 => ((f_M_sum 9 s7).bind fun q9 => (f_M_clause_L251 x1 q9))))) else ((f_M_bad q4.1).bind fun q10 => some q10))) else (f_M_clause_L251 x1 s2)))))
def f_M_clause_L167 (x1 : Int32) (y0 : Int32) (s : S2) : Option S2 := (if y0 = 0 then (f_M_clause_L184 x1 y0 s) else ((f_M_compare s).bind fun q1 => ((f_M_goOnAnd (f_M_unit 9) q1).bind fun q2 => ((f_M_goOnOr (f_M_unit 9) q2).bind fun q3 => (f_M_clause_L184 x1 y0 q3)))))
def f_M_clause_L166 (x1 : Int32) (s : S2) : Option S2 := (f_M_clause_L167 x1 (Int32.ofInt 0) s)
def f_M_clause_L128 (x1 : Int32) (y0 : Int32) (s : S2) : Option S2 := (if y0 = 0 then ((f_M_sum 9 s).bind fun q1 => (if (q1.1 60 0 4) = (Int32.ofInt (-1)) then ((f_M_look q1).bind fun q2 => (if (bI (g_M_isSign q2.2 q2.1)) = 0 then (f_M_clause_L166 x1 q2.1) else (f_M_clause_L167 x1 (Int32.ofInt 1) q2.1))) else (f_M_clause_L166 x1 q1))) else ((f_M_condition (f_M_unit 9) s).bind fun q3 => (f_M_clause_L184 x1 y0 q3)))
def f_M_clause_L123 (x1 : Int32) (s : S2) : Option S2 := (f_M_clause_L128 x1 (Int32.ofInt 1) s)
def f_M_clause_L71 (x1 : Int32) (s : S2) : Option S2 := ((some (pkS s 60 0 3 ((s.1 60 0 3) + (Int32.ofInt 1)))).bind fun s1 => (if (s1.1 60 0 4) = (Int32.ofInt (-1)) then ((ix 5 (s1.1 60 0 14)).bind fun j2 => ((ix 700 x1).bind fun j4 => (some (pkS s1 66 0 j4 (s1.1 64 0 j2))).bind fun s3 => ((f_M_look s3).bind fun q5 => (if q5.2 = (Int32.ofInt 33) then (f_M_clause_L123 x1 q5.1) else ((f_M_look q5.1).bind fun q6 => (if q6.2 = (Int32.ofInt 40) then (f_M_clause_L123 x1 q6.1) else (f_M_clause_L128 x1 (Int32.ofInt 0) q6.1))))))) else some s1))
def f_M_clause_L40 (x1 : Int32) (s : S2) : Option S2 := ((some (pkS s 60 0 3 ((s.1 60 0 3) + (Int32.ofInt 1)))).bind fun s1 => (if (s1.1 60 0 4) = (Int32.ofInt (-1)) then ((f_M_look s1).bind fun q2 => (if q2.2 = (Int32.ofInt 58) then (f_M_clause_L71 x1 q2.1) else ((f_M_bad q2.1).bind fun q3 => (f_M_clause_L71 x1 q3)))) else (f_M_clause_L71 x1 s1)))
def f_M_clause (s : S2) : Option S2 := ((ix 5 (s.1 60 0 14)).bind fun j1 => (if (s.1 60 0 4) = (Int32.ofInt (-1)) then ((f_M_look s).bind fun q2 => (if q2.2 = (Int32.ofInt 121) then (f_M_clause_L40 (((Int32.ofInt 140) * (s.1 60 0 14)) + (s.1 65 0 j1)) q2.1) else ((f_M_bad q2.1).bind fun q3 => (f_M_clause_L40 (((Int32.ofInt 140) * (s.1 60 0 14)) + (s.1 65 0 j1)) q3)))) else (f_M_clause_L40 (((Int32.ofInt 140) * (s.1 60 0 14)) + (s.1 65 0 j1)) s)))
theorem c_M_clause_L251 {xs : Nat → Int32} {L d : Nat} {P : MK S2} {Q : S2 → Option MV → Prop} {res : S2} (hP : MClosed (O3 xs L) (kcall (O3 xs L) (d + 392)) kd_M_clause 0 Q P) (hQ : Q res none) (x1 : Int32) (x2 : Int32) (s : S2) (h : f_M_clause_L251 x1 s = some res) : P 251 [some (mR 60 0), some (mI x1), some (mI x2)] [] s (0, 0) := by
  refine mgo_from hP [40, 71, 123, 128, 166, 167, 184, 251] 260 ?_
  obtain ⟨j1, hj, h⟩ := bnd h
  refine go_ix j1 (ix_lt hj) (ix_eq hj) ?_
  obtain ⟨j3, hj, h⟩ := bnd h
  replace h := bnds h
  refine go_ix j3 (ix_lt hj) (ix_eq hj) ?_
  obtain ⟨j4, hj, h⟩ := bnd h
  refine go_ix j4 (ix_lt hj) (ix_eq hj) ?_
  obtain ⟨j6, hj, h⟩ := bnd h
  replace h := bnds h
  refine go_ix j6 (ix_lt hj) (ix_eq hj) ?_
  cases h
  exact hQ
set_option maxRecDepth 20000 in
set_option maxHeartbeats 4000000 in
theorem c_M_clause_L184 {xs : Nat → Int32} {L d : Nat} {P : MK S2} {Q : S2 → Option MV → Prop} {res : S2} (hP : MClosed (O3 xs L) (kcall (O3 xs L) (d + 392)) kd_M_clause 0 Q P) (hQ : Q res none) (x1 : Int32) (x2 : Int32) (s : S2) (h : f_M_clause_L184 x1 x2 s = some res) : P 184 [some (mR 60 0), some (mI x1), some (mI x2)] [] s (0, 0) := by
  refine mgo_from hP [40, 71, 123, 128, 166, 167, 184, 251] 260 ?_
  obtain ⟨j1, hj, h⟩ := bnd h
  refine go_ix j1 (ix_lt hj) (ix_eq hj) ?_
  obtain ⟨j3, hj, h⟩ := bnd h
  replace h := bnds h
  refine go_ix j3 (ix_lt hj) (ix_eq hj) ?_
  refine go_br (fun hc : x2 = 0 => ?_) (fun hc : ¬ (x2 = 0) => ?_)
  · replace h := (if_pos hc).symm.trans h
    exact c_M_clause_L251 hP hQ _ _ _ h
  · replace h := (if_neg hc).symm.trans h
    refine go_brn (fun hc => ?_) (fun hc => ?_)
    · replace h := (if_neg hc).symm.trans h
      exact c_M_clause_L251 hP hQ _ _ _ h
    · replace h := (if_pos hc).symm.trans h
      obtain ⟨q4, hq, h⟩ := bnd h
      refine go_call (fun _ hw => c_M_look hq hw) ?_
      refine go_br (fun hc : q4.2 = (Int32.ofInt 63) => ?_) (fun hc : ¬ (q4.2 = (Int32.ofInt 63)) => ?_)
      · replace h := (if_pos hc).symm.trans h
        replace h := bnds h
        obtain ⟨j6, hj, h⟩ := bnd h
        refine go_ix j6 (ix_lt hj) (ix_eq hj) ?_
        obtain ⟨j8, hj, h⟩ := bnd h
        replace h := bnds h
        refine go_ix j8 (ix_lt hj) (ix_eq hj) ?_
        obtain ⟨q9, hq, h⟩ := bnd h
        refine go_call (fun _ hw => c_M_sum hq hw) ?_
        exact c_M_clause_L251 hP hQ _ _ _ h
      · replace h := (if_neg hc).symm.trans h
        obtain ⟨q10, hq, h⟩ := bnd h
        refine go_call (fun _ hw => c_M_bad hq hw) ?_
        cases h
        exact hQ
theorem c_M_clause_L167 {xs : Nat → Int32} {L d : Nat} {P : MK S2} {Q : S2 → Option MV → Prop} {res : S2} (hP : MClosed (O3 xs L) (kcall (O3 xs L) (d + 392)) kd_M_clause 0 Q P) (hQ : Q res none) (x1 : Int32) (y0 : Int32) (x2 : Int32) (s : S2) (h : f_M_clause_L167 x1 y0 s = some res) : P 167 [some (mR 60 0), some (mI x1), some (mI x2)] [mI y0] s (0, 0) := by
  refine mgo_from hP [40, 71, 123, 128, 166, 167, 184, 251] 260 ?_
  refine go_br (fun hc : y0 = 0 => ?_) (fun hc : ¬ (y0 = 0) => ?_)
  · replace h := (if_pos hc).symm.trans h
    exact c_M_clause_L184 hP hQ _ _ _ h
  · replace h := (if_neg hc).symm.trans h
    obtain ⟨q1, hq, h⟩ := bnd h
    refine go_call (fun _ hw => c_M_compare hq hw) ?_
    obtain ⟨q2, hq, h⟩ := bnd h
    refine go_call (fun _ hw => c_M_goOnAnd (fun {e} he => cn_M_unit 9 (by omega)) hq hw) ?_
    obtain ⟨q3, hq, h⟩ := bnd h
    refine go_call (fun _ hw => c_M_goOnOr (fun {e} he => cn_M_unit 9 (by omega)) hq hw) ?_
    exact c_M_clause_L184 hP hQ _ _ _ h
theorem c_M_clause_L166 {xs : Nat → Int32} {L d : Nat} {P : MK S2} {Q : S2 → Option MV → Prop} {res : S2} (hP : MClosed (O3 xs L) (kcall (O3 xs L) (d + 392)) kd_M_clause 0 Q P) (hQ : Q res none) (x1 : Int32) (x2 : Int32) (s : S2) (h : f_M_clause_L166 x1 s = some res) : P 166 [some (mR 60 0), some (mI x1), some (mI x2)] [] s (0, 0) := by
  refine mgo_from hP [40, 71, 123, 128, 166, 167, 184, 251] 260 ?_
  exact c_M_clause_L167 hP hQ _ _ _ _ h
theorem c_M_clause_L128 {xs : Nat → Int32} {L d : Nat} {P : MK S2} {Q : S2 → Option MV → Prop} {res : S2} (hP : MClosed (O3 xs L) (kcall (O3 xs L) (d + 392)) kd_M_clause 0 Q P) (hQ : Q res none) (x1 : Int32) (y0 : Int32) (s : S2) (h : f_M_clause_L128 x1 y0 s = some res) : P 128 [some (mR 60 0), some (mI x1), none] [mI y0] s (0, 0) := by
  refine mgo_from hP [40, 71, 123, 128, 166, 167, 184, 251] 260 ?_
  refine go_br (fun hc : y0 = 0 => ?_) (fun hc : ¬ (y0 = 0) => ?_)
  · replace h := (if_pos hc).symm.trans h
    obtain ⟨q1, hq, h⟩ := bnd h
    refine go_call (fun _ hw => c_M_sum hq hw) ?_
    refine go_brn (fun hc : ¬ ((q1.1 60 0 4) = (Int32.ofInt (-1))) => ?_) (fun hc : (q1.1 60 0 4) = (Int32.ofInt (-1)) => ?_)
    · replace h := (if_neg hc).symm.trans h
      exact c_M_clause_L166 hP hQ _ _ _ h
    · replace h := (if_pos hc).symm.trans h
      obtain ⟨q2, hq, h⟩ := bnd h
      refine go_call (fun _ hw => c_M_look hq hw) ?_
      refine go_call (fun _ hw => c_M_isSign hw) ?_
      refine go_br (fun hc : (bI (g_M_isSign q2.2 q2.1)) = 0 => ?_) (fun hc : ¬ ((bI (g_M_isSign q2.2 q2.1)) = 0) => ?_)
      · replace h := (if_pos hc).symm.trans h
        exact c_M_clause_L166 hP hQ _ _ _ h
      · replace h := (if_neg hc).symm.trans h
        exact c_M_clause_L167 hP hQ _ _ _ _ h
  · replace h := (if_neg hc).symm.trans h
    obtain ⟨q3, hq, h⟩ := bnd h
    refine go_call (fun _ hw => c_M_condition (fun {e} he => cn_M_unit 9 (by omega)) hq hw) ?_
    exact c_M_clause_L184 hP hQ _ _ _ h
theorem c_M_clause_L123 {xs : Nat → Int32} {L d : Nat} {P : MK S2} {Q : S2 → Option MV → Prop} {res : S2} (hP : MClosed (O3 xs L) (kcall (O3 xs L) (d + 392)) kd_M_clause 0 Q P) (hQ : Q res none) (x1 : Int32) (s : S2) (h : f_M_clause_L123 x1 s = some res) : P 123 [some (mR 60 0), some (mI x1), none] [] s (0, 0) := by
  refine mgo_from hP [40, 71, 123, 128, 166, 167, 184, 251] 260 ?_
  exact c_M_clause_L128 hP hQ _ _ _ h
theorem c_M_clause_L71 {xs : Nat → Int32} {L d : Nat} {P : MK S2} {Q : S2 → Option MV → Prop} {res : S2} (hP : MClosed (O3 xs L) (kcall (O3 xs L) (d + 392)) kd_M_clause 0 Q P) (hQ : Q res none) (x1 : Int32) (s : S2) (h : f_M_clause_L71 x1 s = some res) : P 71 [some (mR 60 0), some (mI x1), none] [] s (0, 0) := by
  refine mgo_from hP [40, 71, 123, 128, 166, 167, 184, 251] 260 ?_
  replace h := bnds h
  refine go_br (fun hc => ?_) (fun hc => ?_)
  · replace h := (if_pos hc).symm.trans h
    obtain ⟨j2, hj, h⟩ := bnd h
    refine go_ix j2 (ix_lt hj) (ix_eq hj) ?_
    obtain ⟨j4, hj, h⟩ := bnd h
    replace h := bnds h
    refine go_ix j4 (ix_lt hj) (ix_eq hj) ?_
    obtain ⟨q5, hq, h⟩ := bnd h
    refine go_call (fun _ hw => c_M_look hq hw) ?_
    refine go_br (fun hc : q5.2 = (Int32.ofInt 33) => ?_) (fun hc : ¬ (q5.2 = (Int32.ofInt 33)) => ?_)
    · replace h := (if_pos hc).symm.trans h
      exact c_M_clause_L123 hP hQ _ _ h
    · replace h := (if_neg hc).symm.trans h
      obtain ⟨q6, hq, h⟩ := bnd h
      refine go_call (fun _ hw => c_M_look hq hw) ?_
      refine go_brn (fun hc : ¬ (q6.2 = (Int32.ofInt 40)) => ?_) (fun hc : q6.2 = (Int32.ofInt 40) => ?_)
      · replace h := (if_neg hc).symm.trans h
        exact c_M_clause_L128 hP hQ _ _ _ h
      · replace h := (if_pos hc).symm.trans h
        exact c_M_clause_L123 hP hQ _ _ h
  · replace h := (if_neg hc).symm.trans h
    cases h
    exact hQ
theorem c_M_clause_L40 {xs : Nat → Int32} {L d : Nat} {P : MK S2} {Q : S2 → Option MV → Prop} {res : S2} (hP : MClosed (O3 xs L) (kcall (O3 xs L) (d + 392)) kd_M_clause 0 Q P) (hQ : Q res none) (x1 : Int32) (s : S2) (h : f_M_clause_L40 x1 s = some res) : P 40 [some (mR 60 0), some (mI x1), none] [] s (0, 0) := by
  refine mgo_from hP [40, 71, 123, 128, 166, 167, 184, 251] 260 ?_
  replace h := bnds h
  refine go_brn (fun hc => ?_) (fun hc => ?_)
  · replace h := (if_neg hc).symm.trans h
    exact c_M_clause_L71 hP hQ _ _ h
  · replace h := (if_pos hc).symm.trans h
    obtain ⟨q2, hq, h⟩ := bnd h
    refine go_call (fun _ hw => c_M_look hq hw) ?_
    refine go_br (fun hc : q2.2 = (Int32.ofInt 58) => ?_) (fun hc : ¬ (q2.2 = (Int32.ofInt 58)) => ?_)
    · replace h := (if_pos hc).symm.trans h
      exact c_M_clause_L71 hP hQ _ _ h
    · replace h := (if_neg hc).symm.trans h
      obtain ⟨q3, hq, h⟩ := bnd h
      refine go_call (fun _ hw => c_M_bad hq hw) ?_
      exact c_M_clause_L71 hP hQ _ _ h
theorem c_M_clause {xs : Nat → Int32} {L d : Nat} {s : S2} {res : S2} {Q : S2 → Option MV → Prop} (h : f_M_clause s = some res) (hQ : Q res none) : kcall (O3 xs L) (d + 393) k_M_clause [mR 60 0] s Q := by
  refine kc_of (cd := kd_M_clause) (mx := 3) (rt := 0) rfl rfl ?_
  intro P hP
  refine mgo_sound hP [40, 71, 123, 128, 166, 167, 184, 251] 260 _ _ _ _ _ ?_
  obtain ⟨j1, hj, h⟩ := bnd h
  refine go_ix j1 (ix_lt hj) (ix_eq hj) ?_
  refine go_brn (fun hc : ¬ ((s.1 60 0 4) = (Int32.ofInt (-1))) => ?_) (fun hc : (s.1 60 0 4) = (Int32.ofInt (-1)) => ?_)
  · replace h := (if_neg hc).symm.trans h
    exact c_M_clause_L40 hP hQ _ _ h
  · replace h := (if_pos hc).symm.trans h
    obtain ⟨q2, hq, h⟩ := bnd h
    refine go_call (fun _ hw => c_M_look hq hw) ?_
    refine go_br (fun hc : q2.2 = (Int32.ofInt 121) => ?_) (fun hc : ¬ (q2.2 = (Int32.ofInt 121)) => ?_)
    · replace h := (if_pos hc).symm.trans h
      exact c_M_clause_L40 hP hQ _ _ h
    · replace h := (if_neg hc).symm.trans h
      obtain ⟨q3, hq, h⟩ := bnd h
      refine go_call (fun _ hw => c_M_bad hq hw) ?_
      exact c_M_clause_L40 hP hQ _ _ h
/-! M_workOut -/
def f_M_workOut_L165 (k12 : Int32 → Int32 → Int32 → Int32 → S2 → Option (S2 × Int32)) (x1 : Int32) (x3 : Int32) (x4 : Int32) (x5 : Int32) (s : S2) : Option (S2 × Int32) := (k12 x1 x3 x4 (x5 + (Int32.ofInt 1)) s)
def f_M_workOut_L83 (k12 : Int32 → Int32 → Int32 → Int32 → S2 → Option (S2 × Int32)) (x1 : Int32) (x3 : Int32) (x4 : Int32) (x5 : Int32) (y1 : Int32) (y2 : Int32) (s : S2) : Option (S2 × Int32) := ((ix 80 y1).bind fun j2 => (some (pkS s 70 0 j2 y2)).bind fun s1 => (f_M_workOut_L165 k12 x1 x3 (x4 + (Int32.ofInt 1)) x5 s1))
def f_M_workOut_L45 (k12 : Int32 → Int32 → Int32 → Int32 → S2 → Option (S2 × Int32)) (x1 : Int32) (x3 : Int32) (x4 : Int32) (x5 : Int32) (s : S2) : Option (S2 × Int32) := ((ix 2600 x5).bind fun j1 => (if (s.1 62 0 j1) = 0 then ((ix 2600 x5).bind fun j4 => (f_M_workOut_L83 k12 x1 x3 x4 x5 x4 (s.1 63 0 j4) s)) else ((ix 2600 x5).bind fun j2 => ((ix 6 (s.1 63 0 j2)).bind fun j3 => (f_M_workOut_L83 k12 x1 x3 x4 x5 x4 (s.1 69 0 j3) s)))))
def b_M_workOut_L12 (k12 : Int32 → Int32 → Int32 → Int32 → S2 → Option (S2 × Int32)) (x1 : Int32) (x3 : Int32) (x4 : Int32) (x5 : Int32) (s : S2) : Option (S2 × Int32) := (if (((Int32.ofInt 520) * x1) + x3) ≤ x5 then some (s, (s.1 70 0 0)) else ((ix 2600 x5).bind fun j1 => (if (s.1 62 0 j1) = 0 then (f_M_workOut_L45 k12 x1 x3 x4 x5 s) else ((ix 2600 x5).bind fun j2 => (if (s.1 62 0 j2) = (Int32.ofInt 1) then (f_M_workOut_L45 k12 x1 x3 x4 x5 s) else ((ix 2600 x5).bind fun j3 => (if (s.1 62 0 j3) = (Int32.ofInt 9) then ((ix 80 (x4 - (Int32.ofInt 1))).bind fun j10 => ((ix 80 (x4 - (Int32.ofInt 1))).bind fun j12 => (some (pkS s 70 0 j12 ((Int32.ofInt 1) - (s.1 70 0 j10)))).bind fun s11 => (f_M_workOut_L165 k12 x1 x3 x4 x5 s11))) else ((ix 2600 x5).bind fun j4 => ((ix 80 ((x4 + (Int32.ofInt (-1))) - (Int32.ofInt 1))).bind fun j5 => ((ix 80 (x4 + (Int32.ofInt (-1)))).bind fun j6 => ((f_M_worked (s.1 62 0 j4) (Int32.toInt64 (s.1 70 0 j5)) (Int32.toInt64 (s.1 70 0 j6)) s).bind fun q7 => ((ix 80 ((x4 + (Int32.ofInt (-1))) - (Int32.ofInt 1))).bind fun j9 => (some (pkS s 70 0 j9 q7)).bind fun s8 => (f_M_workOut_L165 k12 x1 x3 (x4 + (Int32.ofInt (-1))) x5 s8)))))))))))))
def f_M_workOut_L12 : Nat → Int32 → Int32 → Int32 → Int32 → S2 → Option (S2 × Int32)
  | 0 => fun _ _ _ _ _ => none
  | n + 1 => b_M_workOut_L12 (f_M_workOut_L12 n)
def f_M_workOut (a1 : Int32) (a2 : Int32) (a3 : Int32) (s : S2) : Option (S2 × Int32) := (f_M_workOut_L12 FU a1 a3 (Int32.ofInt 0) (((Int32.ofInt 520) * a1) + a2) s)
theorem c_M_workOut_L165 {xs : Nat → Int32} {L d : Nat} {P : MK S2} {Q : S2 → Option MV → Prop} {res : S2 × Int32} (hP : MClosed (O3 xs L) (kcall (O3 xs L) (d + 2)) kd_M_workOut 1 Q P) (hQ : Q res.1 (some (mI res.2))) {k12 : Int32 → Int32 → Int32 → Int32 → S2 → Option (S2 × Int32)} (hk12 : ∀ (x1 : Int32) (x3 : Int32) (x4 : Int32) (x5 : Int32) (x2 : Int32) (s : S2), k12 x1 x3 x4 x5 s = some res → P 12 [some (mR 60 0), some (mI x1), some (mI x2), some (mI x3), some (mI x4), some (mI x5)] [] s (0, 0)) (x1 : Int32) (x3 : Int32) (x4 : Int32) (x5 : Int32) (x2 : Int32) (s : S2) (h : f_M_workOut_L165 k12 x1 x3 x4 x5 s = some res) : P 165 [some (mR 60 0), some (mI x1), some (mI x2), some (mI x3), some (mI x4), some (mI x5)] [] s (0, 0) := by
  refine mgo_from hP [12, 45, 83, 165] 260 ?_
  exact hk12 _ _ _ _ _ _ h
theorem c_M_workOut_L83 {xs : Nat → Int32} {L d : Nat} {P : MK S2} {Q : S2 → Option MV → Prop} {res : S2 × Int32} (hP : MClosed (O3 xs L) (kcall (O3 xs L) (d + 2)) kd_M_workOut 1 Q P) (hQ : Q res.1 (some (mI res.2))) {k12 : Int32 → Int32 → Int32 → Int32 → S2 → Option (S2 × Int32)} (hk12 : ∀ (x1 : Int32) (x3 : Int32) (x4 : Int32) (x5 : Int32) (x2 : Int32) (s : S2), k12 x1 x3 x4 x5 s = some res → P 12 [some (mR 60 0), some (mI x1), some (mI x2), some (mI x3), some (mI x4), some (mI x5)] [] s (0, 0)) (x1 : Int32) (x3 : Int32) (x4 : Int32) (x5 : Int32) (y1 : Int32) (y2 : Int32) (x2 : Int32) (s : S2) (h : f_M_workOut_L83 k12 x1 x3 x4 x5 y1 y2 s = some res) : P 83 [some (mR 60 0), some (mI x1), some (mI x2), some (mI x3), some (mI x4), some (mI x5)] [mI y2, mI y1, mR 70 0] s (0, 0) := by
  refine mgo_from hP [12, 45, 83, 165] 260 ?_
  obtain ⟨j2, hj, h⟩ := bnd h
  replace h := bnds h
  refine go_ix j2 (ix_lt hj) (ix_eq hj) ?_
  exact c_M_workOut_L165 hP hQ hk12 _ _ _ _ _ _ h
theorem c_M_workOut_L45 {xs : Nat → Int32} {L d : Nat} {P : MK S2} {Q : S2 → Option MV → Prop} {res : S2 × Int32} (hP : MClosed (O3 xs L) (kcall (O3 xs L) (d + 2)) kd_M_workOut 1 Q P) (hQ : Q res.1 (some (mI res.2))) {k12 : Int32 → Int32 → Int32 → Int32 → S2 → Option (S2 × Int32)} (hk12 : ∀ (x1 : Int32) (x3 : Int32) (x4 : Int32) (x5 : Int32) (x2 : Int32) (s : S2), k12 x1 x3 x4 x5 s = some res → P 12 [some (mR 60 0), some (mI x1), some (mI x2), some (mI x3), some (mI x4), some (mI x5)] [] s (0, 0)) (x1 : Int32) (x3 : Int32) (x4 : Int32) (x5 : Int32) (x2 : Int32) (s : S2) (h : f_M_workOut_L45 k12 x1 x3 x4 x5 s = some res) : P 45 [some (mR 60 0), some (mI x1), some (mI x2), some (mI x3), some (mI x4), some (mI x5)] [] s (0, 0) := by
  refine mgo_from hP [12, 45, 83, 165] 260 ?_
  obtain ⟨j1, hj, h⟩ := bnd h
  refine go_ix j1 (ix_lt hj) (ix_eq hj) ?_
  refine go_brn (fun hc : ¬ ((s.1 62 0 j1) = 0) => ?_) (fun hc : (s.1 62 0 j1) = 0 => ?_)
  · replace h := (if_neg hc).symm.trans h
    obtain ⟨j2, hj, h⟩ := bnd h
    refine go_ix j2 (ix_lt hj) (ix_eq hj) ?_
    obtain ⟨j3, hj, h⟩ := bnd h
    refine go_ix j3 (ix_lt hj) (ix_eq hj) ?_
    exact c_M_workOut_L83 hP hQ hk12 _ _ _ _ _ _ _ _ h
  · replace h := (if_pos hc).symm.trans h
    obtain ⟨j4, hj, h⟩ := bnd h
    refine go_ix j4 (ix_lt hj) (ix_eq hj) ?_
    exact c_M_workOut_L83 hP hQ hk12 _ _ _ _ _ _ _ _ h
set_option maxRecDepth 20000 in
set_option maxHeartbeats 4000000 in
theorem cb_M_workOut_L12 {xs : Nat → Int32} {L d : Nat} {P : MK S2} {Q : S2 → Option MV → Prop} {res : S2 × Int32} (hP : MClosed (O3 xs L) (kcall (O3 xs L) (d + 2)) kd_M_workOut 1 Q P) (hQ : Q res.1 (some (mI res.2))) {k12 : Int32 → Int32 → Int32 → Int32 → S2 → Option (S2 × Int32)} (hk12 : ∀ (x1 : Int32) (x3 : Int32) (x4 : Int32) (x5 : Int32) (x2 : Int32) (s : S2), k12 x1 x3 x4 x5 s = some res → P 12 [some (mR 60 0), some (mI x1), some (mI x2), some (mI x3), some (mI x4), some (mI x5)] [] s (0, 0)) (x1 : Int32) (x3 : Int32) (x4 : Int32) (x5 : Int32) (x2 : Int32) (s : S2) (h : b_M_workOut_L12 k12 x1 x3 x4 x5 s = some res) : P 12 [some (mR 60 0), some (mI x1), some (mI x2), some (mI x3), some (mI x4), some (mI x5)] [] s (0, 0) := by
  refine mgo_from hP [12, 45, 83, 165] 260 ?_
  refine go_br (fun hc : (((Int32.ofInt 520) * x1) + x3) ≤ x5 => ?_) (fun hc : ¬ ((((Int32.ofInt 520) * x1) + x3) ≤ x5) => ?_)
  · replace h := (if_pos hc).symm.trans h
    refine go_ix 0 (Nat.le_of_ble_eq_true rfl) rfl ?_
    cases h
    exact hQ
  · replace h := (if_neg hc).symm.trans h
    obtain ⟨j1, hj, h⟩ := bnd h
    refine go_ix j1 (ix_lt hj) (ix_eq hj) ?_
    refine go_br (fun hc : (s.1 62 0 j1) = 0 => ?_) (fun hc : ¬ ((s.1 62 0 j1) = 0) => ?_)
    · replace h := (if_pos hc).symm.trans h
      exact c_M_workOut_L45 hP hQ hk12 _ _ _ _ _ _ h
    · replace h := (if_neg hc).symm.trans h
      obtain ⟨j2, hj, h⟩ := bnd h
      refine go_ix j2 (ix_lt hj) (ix_eq hj) ?_
      refine go_brn (fun hc : ¬ ((s.1 62 0 j2) = (Int32.ofInt 1)) => ?_) (fun hc : (s.1 62 0 j2) = (Int32.ofInt 1) => ?_)
      · replace h := (if_neg hc).symm.trans h
        obtain ⟨j3, hj, h⟩ := bnd h
        refine go_ix j3 (ix_lt hj) (ix_eq hj) ?_
        refine go_brn (fun hc : ¬ ((s.1 62 0 j3) = (Int32.ofInt 9)) => ?_) (fun hc : (s.1 62 0 j3) = (Int32.ofInt 9) => ?_)
        · replace h := (if_neg hc).symm.trans h
          obtain ⟨j4, hj, h⟩ := bnd h
          refine go_ix j4 (ix_lt hj) (ix_eq hj) ?_
          obtain ⟨j5, hj, h⟩ := bnd h
          refine go_ix j5 (ix_lt hj) (ix_eq hj) ?_
          obtain ⟨j6, hj, h⟩ := bnd h
          refine go_ix j6 (ix_lt hj) (ix_eq hj) ?_
          obtain ⟨q7, hq, h⟩ := bnd h
          refine go_call (fun _ hw => c_M_worked hq hw) ?_
          obtain ⟨j9, hj, h⟩ := bnd h
          replace h := bnds h
          refine go_ix j9 (ix_lt hj) (ix_eq hj) ?_
          exact c_M_workOut_L165 hP hQ hk12 _ _ _ _ _ _ h
        · replace h := (if_pos hc).symm.trans h
          obtain ⟨j10, hj, h⟩ := bnd h
          refine go_ix j10 (ix_lt hj) (ix_eq hj) ?_
          obtain ⟨j12, hj, h⟩ := bnd h
          replace h := bnds h
          refine go_ix j12 (ix_lt hj) (ix_eq hj) ?_
          exact c_M_workOut_L165 hP hQ hk12 _ _ _ _ _ _ h
      · replace h := (if_pos hc).symm.trans h
        exact c_M_workOut_L45 hP hQ hk12 _ _ _ _ _ _ h
theorem c_M_workOut_L12 {xs : Nat → Int32} {L d : Nat} {P : MK S2} {Q : S2 → Option MV → Prop} {res : S2 × Int32} (hP : MClosed (O3 xs L) (kcall (O3 xs L) (d + 2)) kd_M_workOut 1 Q P) (hQ : Q res.1 (some (mI res.2))) : ∀ (fu : Nat) (x1 : Int32) (x3 : Int32) (x4 : Int32) (x5 : Int32) (x2 : Int32) (s : S2), f_M_workOut_L12 fu x1 x3 x4 x5 s = some res → P 12 [some (mR 60 0), some (mI x1), some (mI x2), some (mI x3), some (mI x4), some (mI x5)] [] s (0, 0)
  | 0, _, _, _, _, _, _, h => by cases h
  | fu + 1, x1, x3, x4, x5, x2, s, h => cb_M_workOut_L12 hP hQ (c_M_workOut_L12 hP hQ fu) x1 x3 x4 x5 x2 s h
theorem c_M_workOut {xs : Nat → Int32} {L d : Nat} {a1 : Int32} {a2 : Int32} {a3 : Int32} {s : S2} {res : S2 × Int32} {Q : S2 → Option MV → Prop} (h : f_M_workOut a1 a2 a3 s = some res) (hQ : Q res.1 (some (mI res.2))) : kcall (O3 xs L) (d + 3) k_M_workOut [mR 60 0, mI a1, mI a2, mI a3] s Q := by
  refine kc_of (cd := kd_M_workOut) (mx := 6) (rt := 1) rfl rfl ?_
  intro P hP
  refine mgo_sound hP [12, 45, 83, 165] 260 _ _ _ _ _ ?_
  exact c_M_workOut_L12 hP hQ FU _ _ _ _ _ _ h
/-! M_trade -/
def f_M_trade_L187 (k86 : Int32 → S2 → Option S2) (k113 : Int32 → Int32 → S2 → Option S2) (x1 : Int32) (y0 : Int32) (s : S2) : Option S2 := (k113 x1 y0 s)
def b_M_trade_L113 (k86 : Int32 → S2 → Option S2) (k113 : Int32 → Int32 → S2 → Option S2) (x1 : Int32) (x2 : Int32) (s : S2) : Option S2 := (if x2 = (Int32.ofInt (-1)) then (k86 (x1 + (Int32.ofInt 1)) s) else ((ix 6 x1).bind fun j1 => ((ix 6 x2).bind fun j2 => ((ix 36 (((Int32.ofInt 6) * x1) + x2)).bind fun j3 => ((ix 36 (((Int32.ofInt 6) * x1) + x2)).bind fun j5 => (some (pkS s 84 0 j5 ((s.1 84 0 j3) + (jmin (s.1 85 0 j1) (s.1 86 0 j2))))).bind fun s4 => ((ix 6 x1).bind fun j6 => ((ix 6 x1).bind fun j8 => (some (pkS s4 85 0 j8 ((s4.1 85 0 j6) - (jmin (s.1 85 0 j1) (s.1 86 0 j2))))).bind fun s7 => ((ix 6 x2).bind fun j9 => ((ix 6 x2).bind fun j11 => (some (pkS s7 86 0 j11 ((s7.1 86 0 j9) - (jmin (s.1 85 0 j1) (s.1 86 0 j2))))).bind fun s10 => ((ix 6 x1).bind fun j12 => (if (s10.1 85 0 j12) ≤ 0 then (f_M_trade_L187 k86 k113 x1 (Int32.ofInt (-1)) s10) else ((f_M_cheapestFor x1 s10).bind fun q13 => (f_M_trade_L187 k86 k113 x1 q13 s10)))))))))))))
def f_M_trade_L113 (k86 : Int32 → S2 → Option S2) : Nat → Int32 → Int32 → S2 → Option S2
  | 0 => fun _ _ _ => none
  | n + 1 => b_M_trade_L113 k86 (f_M_trade_L113 k86 n)
def f_M_trade_L112 (k86 : Int32 → S2 → Option S2) (x1 : Int32) (y0 : Int32) (s : S2) : Option S2 := (f_M_trade_L113 k86 FU x1 y0 s)
def b_M_trade_L86 (k86 : Int32 → S2 → Option S2) (x1 : Int32) (s : S2) : Option S2 := (if (s.1 60 0 28) ≤ x1 then some s else ((ix 6 x1).bind fun j1 => (if (s.1 85 0 j1) ≤ 0 then (f_M_trade_L112 k86 x1 (Int32.ofInt (-1)) s) else ((f_M_cheapestFor x1 s).bind fun q2 => (f_M_trade_L112 k86 x1 q2 s)))))
def f_M_trade_L86 : Nat → Int32 → S2 → Option S2
  | 0 => fun _ _ => none
  | n + 1 => b_M_trade_L86 (f_M_trade_L86 n)
def f_M_trade_L77 (k23 : Int32 → S2 → Option S2) (x1 : Int32) (y1 : Int32) (y2 : Int32) (s : S2) : Option S2 := ((ix 6 y1).bind fun j2 => (some (pkS s 85 0 j2 y2)).bind fun s1 => (k23 (x1 + (Int32.ofInt 1)) s1))
def f_M_trade_L76 (k23 : Int32 → S2 → Option S2) (x1 : Int32) (y1 : Int32) (s : S2) : Option S2 := (f_M_trade_L77 k23 x1 y1 (Int32.ofInt 0) s)
def b_M_trade_L23 (k23 : Int32 → S2 → Option S2) (x1 : Int32) (s : S2) : Option S2 := (if (s.1 60 0 28) ≤ x1 then (f_M_trade_L86 FU (Int32.ofInt 0) s) else ((f_M_of x1 (Int32.ofInt 6) s).bind fun q1 => ((ix 6 x1).bind fun j3 => (some (pkS s 86 0 j3 q1)).bind fun s2 => ((f_M_isHead x1 s2).bind fun q4 => (if (bI q4) = 0 then (f_M_trade_L76 k23 x1 x1 s2) else ((f_M_of x1 (Int32.ofInt 4) s2).bind fun q5 => (if q5 = (Int32.ofInt 4) then (f_M_trade_L76 k23 x1 x1 s2) else ((f_M_of x1 (Int32.ofInt 5) s2).bind fun q6 => (f_M_trade_L77 k23 x1 x1 q6 s2)))))))))
def f_M_trade_L23 : Nat → Int32 → S2 → Option S2
  | 0 => fun _ _ => none
  | n + 1 => b_M_trade_L23 (f_M_trade_L23 n)
def b_M_trade_L2 (k2 : Int32 → S2 → Option S2) (x1 : Int32) (s : S2) : Option S2 := (if (Int32.ofInt 36) ≤ x1 then (f_M_trade_L23 FU (Int32.ofInt 0) s) else ((ix 36 x1).bind fun j2 => (some (pkS s 84 0 j2 (Int32.ofInt 0))).bind fun s1 => (k2 (x1 + (Int32.ofInt 1)) s1)))
def f_M_trade_L2 : Nat → Int32 → S2 → Option S2
  | 0 => fun _ _ => none
  | n + 1 => b_M_trade_L2 (f_M_trade_L2 n)
def f_M_trade (s : S2) : Option S2 := (f_M_trade_L2 FU (Int32.ofInt 0) s)
theorem c_M_trade_L187 {xs : Nat → Int32} {L d : Nat} {P : MK S2} {Q : S2 → Option MV → Prop} {res : S2} (hP : MClosed (O3 xs L) (kcall (O3 xs L) (d + 4)) kd_M_trade 0 Q P) (hQ : Q res none) {k86 : Int32 → S2 → Option S2} {k113 : Int32 → Int32 → S2 → Option S2} (hk86 : ∀ (x1 : Int32) (x2 : Option Int32) (x3 : Option Int32) (s : S2), k86 x1 s = some res → P 86 [some (mR 60 0), some (mI x1), oI x2, oI x3] [] s (0, 0)) (hk113 : ∀ (x1 : Int32) (x2 : Int32) (x3 : Option Int32) (s : S2), k113 x1 x2 s = some res → P 113 [some (mR 60 0), some (mI x1), some (mI x2), oI x3] [] s (0, 0)) (x1 : Int32) (y0 : Int32) (x2 : Int32) (x3 : Int32) (s : S2) (h : f_M_trade_L187 k86 k113 x1 y0 s = some res) : P 187 [some (mR 60 0), some (mI x1), some (mI x2), some (mI x3)] [mI y0] s (0, 0) := by
  refine mgo_from hP [2, 23, 76, 77, 86, 112, 113, 187] 260 ?_
  exact hk113 _ _ (some x3) _ h
set_option maxRecDepth 20000 in
set_option maxHeartbeats 4000000 in
theorem cb_M_trade_L113 {xs : Nat → Int32} {L d : Nat} {P : MK S2} {Q : S2 → Option MV → Prop} {res : S2} (hP : MClosed (O3 xs L) (kcall (O3 xs L) (d + 4)) kd_M_trade 0 Q P) (hQ : Q res none) {k86 : Int32 → S2 → Option S2} (hk86 : ∀ (x1 : Int32) (x2 : Option Int32) (x3 : Option Int32) (s : S2), k86 x1 s = some res → P 86 [some (mR 60 0), some (mI x1), oI x2, oI x3] [] s (0, 0)) {k113 : Int32 → Int32 → S2 → Option S2} (hk113 : ∀ (x1 : Int32) (x2 : Int32) (x3 : Option Int32) (s : S2), k113 x1 x2 s = some res → P 113 [some (mR 60 0), some (mI x1), some (mI x2), oI x3] [] s (0, 0)) (x1 : Int32) (x2 : Int32) (x3 : Option Int32) (s : S2) (h : b_M_trade_L113 k86 k113 x1 x2 s = some res) : P 113 [some (mR 60 0), some (mI x1), some (mI x2), oI x3] [] s (0, 0) := by
  refine mgo_from hP [2, 23, 76, 77, 86, 112, 113, 187] 260 ?_
  refine go_br (fun hc : x2 = (Int32.ofInt (-1)) => ?_) (fun hc : ¬ (x2 = (Int32.ofInt (-1))) => ?_)
  · replace h := (if_pos hc).symm.trans h
    exact hk86 _ (some x2) x3 _ h
  · replace h := (if_neg hc).symm.trans h
    obtain ⟨j1, hj, h⟩ := bnd h
    refine go_ix j1 (ix_lt hj) (ix_eq hj) ?_
    obtain ⟨j2, hj, h⟩ := bnd h
    refine go_ix j2 (ix_lt hj) (ix_eq hj) ?_
    obtain ⟨j3, hj, h⟩ := bnd h
    refine go_ix j3 (ix_lt hj) (ix_eq hj) ?_
    obtain ⟨j5, hj, h⟩ := bnd h
    replace h := bnds h
    refine go_ix j5 (ix_lt hj) (ix_eq hj) ?_
    obtain ⟨j6, hj, h⟩ := bnd h
    refine go_ix j6 (ix_lt hj) (ix_eq hj) ?_
    obtain ⟨j8, hj, h⟩ := bnd h
    replace h := bnds h
    refine go_ix j8 (ix_lt hj) (ix_eq hj) ?_
    obtain ⟨j9, hj, h⟩ := bnd h
    refine go_ix j9 (ix_lt hj) (ix_eq hj) ?_
    obtain ⟨j11, hj, h⟩ := bnd h
    replace h := bnds h
    refine go_ix j11 (ix_lt hj) (ix_eq hj) ?_
    obtain ⟨j12, hj, h⟩ := bnd h
    refine go_ix j12 (ix_lt hj) (ix_eq hj) ?_
    refine go_br (fun hc => ?_) (fun hc => ?_)
    · replace h := (if_pos hc).symm.trans h
      exact c_M_trade_L187 hP hQ hk86 hk113 _ _ _ _ _ h
    · replace h := (if_neg hc).symm.trans h
      obtain ⟨q13, hq, h⟩ := bnd h
      refine go_call (fun _ hw => c_M_cheapestFor hq hw) ?_
      exact c_M_trade_L187 hP hQ hk86 hk113 _ _ _ _ _ h
theorem c_M_trade_L113 {xs : Nat → Int32} {L d : Nat} {P : MK S2} {Q : S2 → Option MV → Prop} {res : S2} (hP : MClosed (O3 xs L) (kcall (O3 xs L) (d + 4)) kd_M_trade 0 Q P) (hQ : Q res none) {k86 : Int32 → S2 → Option S2} (hk86 : ∀ (x1 : Int32) (x2 : Option Int32) (x3 : Option Int32) (s : S2), k86 x1 s = some res → P 86 [some (mR 60 0), some (mI x1), oI x2, oI x3] [] s (0, 0)) : ∀ (fu : Nat) (x1 : Int32) (x2 : Int32) (x3 : Option Int32) (s : S2), f_M_trade_L113 k86 fu x1 x2 s = some res → P 113 [some (mR 60 0), some (mI x1), some (mI x2), oI x3] [] s (0, 0)
  | 0, _, _, _, _, h => by cases h
  | fu + 1, x1, x2, x3, s, h => cb_M_trade_L113 hP hQ hk86 (c_M_trade_L113 hP hQ hk86 fu) x1 x2 x3 s h
theorem c_M_trade_L112 {xs : Nat → Int32} {L d : Nat} {P : MK S2} {Q : S2 → Option MV → Prop} {res : S2} (hP : MClosed (O3 xs L) (kcall (O3 xs L) (d + 4)) kd_M_trade 0 Q P) (hQ : Q res none) {k86 : Int32 → S2 → Option S2} (hk86 : ∀ (x1 : Int32) (x2 : Option Int32) (x3 : Option Int32) (s : S2), k86 x1 s = some res → P 86 [some (mR 60 0), some (mI x1), oI x2, oI x3] [] s (0, 0)) (x1 : Int32) (y0 : Int32) (x2 : Option Int32) (x3 : Option Int32) (s : S2) (h : f_M_trade_L112 k86 x1 y0 s = some res) : P 112 [some (mR 60 0), some (mI x1), oI x2, oI x3] [mI y0] s (0, 0) := by
  refine mgo_from hP [2, 23, 76, 77, 86, 112, 113, 187] 260 ?_
  exact c_M_trade_L113 hP hQ hk86 FU _ _ x3 _ h
theorem cb_M_trade_L86 {xs : Nat → Int32} {L d : Nat} {P : MK S2} {Q : S2 → Option MV → Prop} {res : S2} (hP : MClosed (O3 xs L) (kcall (O3 xs L) (d + 4)) kd_M_trade 0 Q P) (hQ : Q res none) {k86 : Int32 → S2 → Option S2} (hk86 : ∀ (x1 : Int32) (x2 : Option Int32) (x3 : Option Int32) (s : S2), k86 x1 s = some res → P 86 [some (mR 60 0), some (mI x1), oI x2, oI x3] [] s (0, 0)) (x1 : Int32) (x2 : Option Int32) (x3 : Option Int32) (s : S2) (h : b_M_trade_L86 k86 x1 s = some res) : P 86 [some (mR 60 0), some (mI x1), oI x2, oI x3] [] s (0, 0) := by
  refine mgo_from hP [2, 23, 76, 77, 86, 112, 113, 187] 260 ?_
  refine go_br (fun hc : (s.1 60 0 28) ≤ x1 => ?_) (fun hc : ¬ ((s.1 60 0 28) ≤ x1) => ?_)
  · replace h := (if_pos hc).symm.trans h
    cases h
    exact hQ
  · replace h := (if_neg hc).symm.trans h
    obtain ⟨j1, hj, h⟩ := bnd h
    refine go_ix j1 (ix_lt hj) (ix_eq hj) ?_
    refine go_br (fun hc : (s.1 85 0 j1) ≤ 0 => ?_) (fun hc : ¬ ((s.1 85 0 j1) ≤ 0) => ?_)
    · replace h := (if_pos hc).symm.trans h
      exact c_M_trade_L112 hP hQ hk86 _ _ x2 x3 _ h
    · replace h := (if_neg hc).symm.trans h
      obtain ⟨q2, hq, h⟩ := bnd h
      refine go_call (fun _ hw => c_M_cheapestFor hq hw) ?_
      exact c_M_trade_L112 hP hQ hk86 _ _ x2 x3 _ h
theorem c_M_trade_L86 {xs : Nat → Int32} {L d : Nat} {P : MK S2} {Q : S2 → Option MV → Prop} {res : S2} (hP : MClosed (O3 xs L) (kcall (O3 xs L) (d + 4)) kd_M_trade 0 Q P) (hQ : Q res none) : ∀ (fu : Nat) (x1 : Int32) (x2 : Option Int32) (x3 : Option Int32) (s : S2), f_M_trade_L86 fu x1 s = some res → P 86 [some (mR 60 0), some (mI x1), oI x2, oI x3] [] s (0, 0)
  | 0, _, _, _, _, h => by cases h
  | fu + 1, x1, x2, x3, s, h => cb_M_trade_L86 hP hQ (c_M_trade_L86 hP hQ fu) x1 x2 x3 s h
theorem c_M_trade_L77 {xs : Nat → Int32} {L d : Nat} {P : MK S2} {Q : S2 → Option MV → Prop} {res : S2} (hP : MClosed (O3 xs L) (kcall (O3 xs L) (d + 4)) kd_M_trade 0 Q P) (hQ : Q res none) {k23 : Int32 → S2 → Option S2} (hk23 : ∀ (x1 : Int32) (s : S2), k23 x1 s = some res → P 23 [some (mR 60 0), some (mI x1), none, none] [] s (0, 0)) (x1 : Int32) (y1 : Int32) (y2 : Int32) (s : S2) (h : f_M_trade_L77 k23 x1 y1 y2 s = some res) : P 77 [some (mR 60 0), some (mI x1), none, none] [mI y2, mI y1, mR 85 0] s (0, 0) := by
  refine mgo_from hP [2, 23, 76, 77, 86, 112, 113, 187] 260 ?_
  obtain ⟨j2, hj, h⟩ := bnd h
  replace h := bnds h
  refine go_ix j2 (ix_lt hj) (ix_eq hj) ?_
  exact hk23 _ _ h
theorem c_M_trade_L76 {xs : Nat → Int32} {L d : Nat} {P : MK S2} {Q : S2 → Option MV → Prop} {res : S2} (hP : MClosed (O3 xs L) (kcall (O3 xs L) (d + 4)) kd_M_trade 0 Q P) (hQ : Q res none) {k23 : Int32 → S2 → Option S2} (hk23 : ∀ (x1 : Int32) (s : S2), k23 x1 s = some res → P 23 [some (mR 60 0), some (mI x1), none, none] [] s (0, 0)) (x1 : Int32) (y1 : Int32) (s : S2) (h : f_M_trade_L76 k23 x1 y1 s = some res) : P 76 [some (mR 60 0), some (mI x1), none, none] [mI y1, mR 85 0] s (0, 0) := by
  refine mgo_from hP [2, 23, 76, 77, 86, 112, 113, 187] 260 ?_
  exact c_M_trade_L77 hP hQ hk23 _ _ _ _ h
theorem cb_M_trade_L23 {xs : Nat → Int32} {L d : Nat} {P : MK S2} {Q : S2 → Option MV → Prop} {res : S2} (hP : MClosed (O3 xs L) (kcall (O3 xs L) (d + 4)) kd_M_trade 0 Q P) (hQ : Q res none) {k23 : Int32 → S2 → Option S2} (hk23 : ∀ (x1 : Int32) (s : S2), k23 x1 s = some res → P 23 [some (mR 60 0), some (mI x1), none, none] [] s (0, 0)) (x1 : Int32) (s : S2) (h : b_M_trade_L23 k23 x1 s = some res) : P 23 [some (mR 60 0), some (mI x1), none, none] [] s (0, 0) := by
  refine mgo_from hP [2, 23, 76, 77, 86, 112, 113, 187] 260 ?_
  refine go_br (fun hc : (s.1 60 0 28) ≤ x1 => ?_) (fun hc : ¬ ((s.1 60 0 28) ≤ x1) => ?_)
  · replace h := (if_pos hc).symm.trans h
    exact c_M_trade_L86 hP hQ FU _ none none _ h
  · replace h := (if_neg hc).symm.trans h
    obtain ⟨q1, hq, h⟩ := bnd h
    refine go_call (fun _ hw => c_M_of hq hw) ?_
    obtain ⟨j3, hj, h⟩ := bnd h
    replace h := bnds h
    refine go_ix j3 (ix_lt hj) (ix_eq hj) ?_
    obtain ⟨q4, hq, h⟩ := bnd h
    refine go_call (fun _ hw => c_M_isHead hq hw) ?_
    refine go_br (fun hc : (bI q4) = 0 => ?_) (fun hc : ¬ ((bI q4) = 0) => ?_)
    · replace h := (if_pos hc).symm.trans h
      exact c_M_trade_L76 hP hQ hk23 _ _ _ h
    · replace h := (if_neg hc).symm.trans h
      obtain ⟨q5, hq, h⟩ := bnd h
      refine go_call (fun _ hw => c_M_of hq hw) ?_
      refine go_br (fun hc : q5 = (Int32.ofInt 4) => ?_) (fun hc : ¬ (q5 = (Int32.ofInt 4)) => ?_)
      · replace h := (if_pos hc).symm.trans h
        exact c_M_trade_L76 hP hQ hk23 _ _ _ h
      · replace h := (if_neg hc).symm.trans h
        obtain ⟨q6, hq, h⟩ := bnd h
        refine go_call (fun _ hw => c_M_of hq hw) ?_
        exact c_M_trade_L77 hP hQ hk23 _ _ _ _ h
theorem c_M_trade_L23 {xs : Nat → Int32} {L d : Nat} {P : MK S2} {Q : S2 → Option MV → Prop} {res : S2} (hP : MClosed (O3 xs L) (kcall (O3 xs L) (d + 4)) kd_M_trade 0 Q P) (hQ : Q res none) : ∀ (fu : Nat) (x1 : Int32) (s : S2), f_M_trade_L23 fu x1 s = some res → P 23 [some (mR 60 0), some (mI x1), none, none] [] s (0, 0)
  | 0, _, _, h => by cases h
  | fu + 1, x1, s, h => cb_M_trade_L23 hP hQ (c_M_trade_L23 hP hQ fu) x1 s h
theorem cb_M_trade_L2 {xs : Nat → Int32} {L d : Nat} {P : MK S2} {Q : S2 → Option MV → Prop} {res : S2} (hP : MClosed (O3 xs L) (kcall (O3 xs L) (d + 4)) kd_M_trade 0 Q P) (hQ : Q res none) {k2 : Int32 → S2 → Option S2} (hk2 : ∀ (x1 : Int32) (s : S2), k2 x1 s = some res → P 2 [some (mR 60 0), some (mI x1), none, none] [] s (0, 0)) (x1 : Int32) (s : S2) (h : b_M_trade_L2 k2 x1 s = some res) : P 2 [some (mR 60 0), some (mI x1), none, none] [] s (0, 0) := by
  refine mgo_from hP [2, 23, 76, 77, 86, 112, 113, 187] 260 ?_
  refine go_br (fun hc : (Int32.ofInt 36) ≤ x1 => ?_) (fun hc : ¬ ((Int32.ofInt 36) ≤ x1) => ?_)
  · replace h := (if_pos hc).symm.trans h
    exact c_M_trade_L23 hP hQ FU _ _ h
  · replace h := (if_neg hc).symm.trans h
    obtain ⟨j2, hj, h⟩ := bnd h
    replace h := bnds h
    refine go_ix j2 (ix_lt hj) (ix_eq hj) ?_
    exact hk2 _ _ h
theorem c_M_trade_L2 {xs : Nat → Int32} {L d : Nat} {P : MK S2} {Q : S2 → Option MV → Prop} {res : S2} (hP : MClosed (O3 xs L) (kcall (O3 xs L) (d + 4)) kd_M_trade 0 Q P) (hQ : Q res none) : ∀ (fu : Nat) (x1 : Int32) (s : S2), f_M_trade_L2 fu x1 s = some res → P 2 [some (mR 60 0), some (mI x1), none, none] [] s (0, 0)
  | 0, _, _, h => by cases h
  | fu + 1, x1, s, h => cb_M_trade_L2 hP hQ (c_M_trade_L2 hP hQ fu) x1 s h
theorem c_M_trade {xs : Nat → Int32} {L d : Nat} {s : S2} {res : S2} {Q : S2 → Option MV → Prop} (h : f_M_trade s = some res) (hQ : Q res none) : kcall (O3 xs L) (d + 5) k_M_trade [mR 60 0] s Q := by
  refine kc_of (cd := kd_M_trade) (mx := 4) (rt := 0) rfl rfl ?_
  intro P hP
  refine mgo_sound hP [2, 23, 76, 77, 86, 112, 113, 187] 260 _ _ _ _ _ ?_
  exact c_M_trade_L2 hP hQ FU _ _ h
/-! M_buys -/
def f_M_buys (a1 : Int32) (a2 : Int32) (s : S2) : Option (S2 × Int32) := (if (bI (g_M_areTwo a1 a2 s)) = 0 then some (s, (Int32.ofInt (-1))) else ((f_M_trade s).bind fun q1 => ((ix 36 (((Int32.ofInt 6) * a1) + a2)).bind fun j2 => some (q1, (q1.1 84 0 j2)))))
theorem c_M_buys {xs : Nat → Int32} {L d : Nat} {a1 : Int32} {a2 : Int32} {s : S2} {res : S2 × Int32} {Q : S2 → Option MV → Prop} (h : f_M_buys a1 a2 s = some res) (hQ : Q res.1 (some (mI res.2))) : kcall (O3 xs L) (d + 6) k_M_buys [mR 60 0, mI a1, mI a2] s Q := by
  refine kc_of (cd := kd_M_buys) (mx := 3) (rt := 1) rfl rfl ?_
  intro P hP
  refine mgo_sound hP [] 260 _ _ _ _ _ ?_
  refine go_call (fun _ hw => c_M_areTwo hw) ?_
  refine go_brn (fun hc : ¬ ((bI (g_M_areTwo a1 a2 s)) = 0) => ?_) (fun hc : (bI (g_M_areTwo a1 a2 s)) = 0 => ?_)
  · replace h := (if_neg hc).symm.trans h
    obtain ⟨q1, hq, h⟩ := bnd h
    refine go_call (fun _ hw => c_M_trade hq hw) ?_
    obtain ⟨j2, hj, h⟩ := bnd h
    refine go_ix j2 (ix_lt hj) (ix_eq hj) ?_
    cases h
    exact hQ
  · replace h := (if_pos hc).symm.trans h
    cases h
    exact hQ
/-! M_pays -/
def f_M_pays_L63 (k18 : Int32 → Int32 → Int32 → S2 → Option (S2 × Int32)) (x1 : Int32) (x3 : Int32) (y0 : Int32) (y1 : Int32) (s : S2) : Option (S2 × Int32) := (k18 x1 (y0 + y1) (x3 + (Int32.ofInt 1)) s)
def b_M_pays_L18 (k18 : Int32 → Int32 → Int32 → S2 → Option (S2 × Int32)) (x1 : Int32) (x2 : Int32) (x3 : Int32) (s : S2) : Option (S2 × Int32) := (if (s.1 60 0 28) ≤ x3 then some (s, x2) else ((ix 36 (((Int32.ofInt 6) * x1) + x3)).bind fun j1 => (if (s.1 84 0 j1) ≤ 0 then (f_M_pays_L63 k18 x1 x3 x2 (Int32.ofInt 0) s) else ((ix 36 (((Int32.ofInt 6) * x1) + x3)).bind fun j2 => ((f_M_costOf x1 x3 s).bind fun q3 => (f_M_pays_L63 k18 x1 x3 x2 ((s.1 84 0 j2) * q3) s))))))
def f_M_pays_L18 : Nat → Int32 → Int32 → Int32 → S2 → Option (S2 × Int32)
  | 0 => fun _ _ _ _ => none
  | n + 1 => b_M_pays_L18 (f_M_pays_L18 n)
def f_M_pays (a1 : Int32) (s : S2) : Option (S2 × Int32) := (if (bI (g_M_isIsle a1 s)) = 0 then some (s, (Int32.ofInt (-1))) else ((f_M_trade s).bind fun q1 => (f_M_pays_L18 FU a1 (Int32.ofInt 0) (Int32.ofInt 0) q1)))
theorem c_M_pays_L63 {xs : Nat → Int32} {L d : Nat} {P : MK S2} {Q : S2 → Option MV → Prop} {res : S2 × Int32} (hP : MClosed (O3 xs L) (kcall (O3 xs L) (d + 5)) kd_M_pays 1 Q P) (hQ : Q res.1 (some (mI res.2))) {k18 : Int32 → Int32 → Int32 → S2 → Option (S2 × Int32)} (hk18 : ∀ (x1 : Int32) (x2 : Int32) (x3 : Int32) (s : S2), k18 x1 x2 x3 s = some res → P 18 [some (mR 60 0), some (mI x1), some (mI x2), some (mI x3)] [] s (0, 0)) (x1 : Int32) (x3 : Int32) (y0 : Int32) (y1 : Int32) (x2 : Int32) (s : S2) (h : f_M_pays_L63 k18 x1 x3 y0 y1 s = some res) : P 63 [some (mR 60 0), some (mI x1), some (mI x2), some (mI x3)] [mI y1, mI y0] s (0, 0) := by
  refine mgo_from hP [18, 63] 260 ?_
  exact hk18 _ _ _ _ h
theorem cb_M_pays_L18 {xs : Nat → Int32} {L d : Nat} {P : MK S2} {Q : S2 → Option MV → Prop} {res : S2 × Int32} (hP : MClosed (O3 xs L) (kcall (O3 xs L) (d + 5)) kd_M_pays 1 Q P) (hQ : Q res.1 (some (mI res.2))) {k18 : Int32 → Int32 → Int32 → S2 → Option (S2 × Int32)} (hk18 : ∀ (x1 : Int32) (x2 : Int32) (x3 : Int32) (s : S2), k18 x1 x2 x3 s = some res → P 18 [some (mR 60 0), some (mI x1), some (mI x2), some (mI x3)] [] s (0, 0)) (x1 : Int32) (x2 : Int32) (x3 : Int32) (s : S2) (h : b_M_pays_L18 k18 x1 x2 x3 s = some res) : P 18 [some (mR 60 0), some (mI x1), some (mI x2), some (mI x3)] [] s (0, 0) := by
  refine mgo_from hP [18, 63] 260 ?_
  refine go_br (fun hc : (s.1 60 0 28) ≤ x3 => ?_) (fun hc : ¬ ((s.1 60 0 28) ≤ x3) => ?_)
  · replace h := (if_pos hc).symm.trans h
    cases h
    exact hQ
  · replace h := (if_neg hc).symm.trans h
    obtain ⟨j1, hj, h⟩ := bnd h
    refine go_ix j1 (ix_lt hj) (ix_eq hj) ?_
    refine go_br (fun hc : (s.1 84 0 j1) ≤ 0 => ?_) (fun hc : ¬ ((s.1 84 0 j1) ≤ 0) => ?_)
    · replace h := (if_pos hc).symm.trans h
      exact c_M_pays_L63 hP hQ hk18 _ _ _ _ _ _ h
    · replace h := (if_neg hc).symm.trans h
      obtain ⟨j2, hj, h⟩ := bnd h
      refine go_ix j2 (ix_lt hj) (ix_eq hj) ?_
      obtain ⟨q3, hq, h⟩ := bnd h
      refine go_call (fun _ hw => c_M_costOf hq hw) ?_
      exact c_M_pays_L63 hP hQ hk18 _ _ _ _ _ _ h
theorem c_M_pays_L18 {xs : Nat → Int32} {L d : Nat} {P : MK S2} {Q : S2 → Option MV → Prop} {res : S2 × Int32} (hP : MClosed (O3 xs L) (kcall (O3 xs L) (d + 5)) kd_M_pays 1 Q P) (hQ : Q res.1 (some (mI res.2))) : ∀ (fu : Nat) (x1 : Int32) (x2 : Int32) (x3 : Int32) (s : S2), f_M_pays_L18 fu x1 x2 x3 s = some res → P 18 [some (mR 60 0), some (mI x1), some (mI x2), some (mI x3)] [] s (0, 0)
  | 0, _, _, _, _, h => by cases h
  | fu + 1, x1, x2, x3, s, h => cb_M_pays_L18 hP hQ (c_M_pays_L18 hP hQ fu) x1 x2 x3 s h
theorem c_M_pays {xs : Nat → Int32} {L d : Nat} {a1 : Int32} {s : S2} {res : S2 × Int32} {Q : S2 → Option MV → Prop} (h : f_M_pays a1 s = some res) (hQ : Q res.1 (some (mI res.2))) : kcall (O3 xs L) (d + 6) k_M_pays [mR 60 0, mI a1] s Q := by
  refine kc_of (cd := kd_M_pays) (mx := 4) (rt := 1) rfl rfl ?_
  intro P hP
  refine mgo_sound hP [18, 63] 260 _ _ _ _ _ ?_
  refine go_call (fun _ hw => c_M_isIsle hw) ?_
  refine go_brn (fun hc : ¬ ((bI (g_M_isIsle a1 s)) = 0) => ?_) (fun hc : (bI (g_M_isIsle a1 s)) = 0 => ?_)
  · replace h := (if_neg hc).symm.trans h
    obtain ⟨q1, hq, h⟩ := bnd h
    refine go_call (fun _ hw => c_M_trade hq hw) ?_
    exact c_M_pays_L18 hP hQ FU _ _ _ _ h
  · replace h := (if_pos hc).symm.trans h
    cases h
    exact hQ
/-! M_lacks -/
def f_M_lacks (a1 : Int32) (s : S2) : Option (S2 × Int32) := (if (bI (g_M_isIsle a1 s)) = 0 then some (s, (Int32.ofInt (-1))) else ((f_M_trade s).bind fun q1 => ((ix 6 a1).bind fun j2 => some (q1, (q1.1 85 0 j2)))))
theorem c_M_lacks {xs : Nat → Int32} {L d : Nat} {a1 : Int32} {s : S2} {res : S2 × Int32} {Q : S2 → Option MV → Prop} (h : f_M_lacks a1 s = some res) (hQ : Q res.1 (some (mI res.2))) : kcall (O3 xs L) (d + 6) k_M_lacks [mR 60 0, mI a1] s Q := by
  refine kc_of (cd := kd_M_lacks) (mx := 2) (rt := 1) rfl rfl ?_
  intro P hP
  refine mgo_sound hP [] 260 _ _ _ _ _ ?_
  refine go_call (fun _ hw => c_M_isIsle hw) ?_
  refine go_brn (fun hc : ¬ ((bI (g_M_isIsle a1 s)) = 0) => ?_) (fun hc : (bI (g_M_isIsle a1 s)) = 0 => ?_)
  · replace h := (if_neg hc).symm.trans h
    obtain ⟨q1, hq, h⟩ := bnd h
    refine go_call (fun _ hw => c_M_trade hq hw) ?_
    obtain ⟨j2, hj, h⟩ := bnd h
    refine go_ix j2 (ix_lt hj) (ix_eq hj) ?_
    cases h
    exact hQ
  · replace h := (if_pos hc).symm.trans h
    cases h
    exact hQ
/-! M_monopoly -/
def f_M_monopoly_L116 (k39 : Int32 → Int32 → Int32 → Int32 → Int32 → S2 → Option (S2 × Int32)) (x1 : Int32) (x2 : Int32) (x3 : Int32) (x4 : Int32) (x5 : Int32) (s : S2) : Option (S2 × Int32) := (k39 x1 x2 x3 x4 (x5 + (Int32.ofInt 1)) s)
def f_M_monopoly_L93 (k39 : Int32 → Int32 → Int32 → Int32 → Int32 → S2 → Option (S2 × Int32)) (k54 : Int32 → Int32 → Int32 → Int32 → Int32 → Int32 → Int32 → S2 → Option (S2 × Int32)) (x1 : Int32) (x2 : Int32) (x3 : Int32) (x4 : Int32) (x5 : Int32) (x7 : Int32) (y0 : Int32) (y1 : Int32) (s : S2) : Option (S2 × Int32) := (k54 x1 x2 x3 x4 x5 (y0 + y1) (x7 + (Int32.ofInt 1)) s)
def b_M_monopoly_L54 (k39 : Int32 → Int32 → Int32 → Int32 → Int32 → S2 → Option (S2 × Int32)) (k54 : Int32 → Int32 → Int32 → Int32 → Int32 → Int32 → Int32 → S2 → Option (S2 × Int32)) (x1 : Int32) (x2 : Int32) (x3 : Int32) (x4 : Int32) (x5 : Int32) (x6 : Int32) (x7 : Int32) (s : S2) : Option (S2 × Int32) := (if (s.1 60 0 28) ≤ x7 then (if x6 ≤ x4 then (f_M_monopoly_L116 k39 x1 x2 x3 x4 x5 s) else (f_M_monopoly_L116 k39 x1 x2 x5 x6 x5 s)) else ((f_M_of x5 (Int32.ofInt 3) s).bind fun q1 => (if q1 = x1 then ((ix 36 (((Int32.ofInt 6) * x7) + x5)).bind fun j2 => (f_M_monopoly_L93 k39 k54 x1 x2 x3 x4 x5 x7 x6 (s.1 84 0 j2) s)) else (f_M_monopoly_L93 k39 k54 x1 x2 x3 x4 x5 x7 x6 (Int32.ofInt 0) s))))
def f_M_monopoly_L54 (k39 : Int32 → Int32 → Int32 → Int32 → Int32 → S2 → Option (S2 × Int32)) : Nat → Int32 → Int32 → Int32 → Int32 → Int32 → Int32 → Int32 → S2 → Option (S2 × Int32)
  | 0 => fun _ _ _ _ _ _ _ _ => none
  | n + 1 => b_M_monopoly_L54 k39 (f_M_monopoly_L54 k39 n)
def b_M_monopoly_L39 (k39 : Int32 → Int32 → Int32 → Int32 → Int32 → S2 → Option (S2 × Int32)) (x1 : Int32) (x2 : Int32) (x3 : Int32) (x4 : Int32) (x5 : Int32) (s : S2) : Option (S2 × Int32) := (if (s.1 60 0 28) ≤ x5 then (if x3 = (Int32.ofInt (-1)) then some (s, x3) else (if x2 = 0 then some (s, x3) else some (s, x4))) else (f_M_monopoly_L54 k39 FU x1 x2 x3 x4 x5 (Int32.ofInt 0) (Int32.ofInt 0) s))
def f_M_monopoly_L39 : Nat → Int32 → Int32 → Int32 → Int32 → Int32 → S2 → Option (S2 × Int32)
  | 0 => fun _ _ _ _ _ _ => none
  | n + 1 => b_M_monopoly_L39 (f_M_monopoly_L39 n)
def f_M_monopoly (a1 : Int32) (a2 : Int32) (s : S2) : Option (S2 × Int32) := (if (s.1 60 0 28) = 0 then some (s, (Int32.ofInt (-1))) else (if (bI (g_M_in a1 (Int32.ofInt 0) (Int32.ofInt 3) s)) = 0 then some (s, (Int32.ofInt (-1))) else (if (bI (g_M_in a2 (Int32.ofInt 0) (Int32.ofInt 1) s)) = 0 then some (s, (Int32.ofInt (-1))) else ((f_M_trade s).bind fun q1 => (f_M_monopoly_L39 FU a1 a2 (Int32.ofInt (-1)) (Int32.ofInt 0) (Int32.ofInt 0) q1)))))
theorem c_M_monopoly_L116 {xs : Nat → Int32} {L d : Nat} {P : MK S2} {Q : S2 → Option MV → Prop} {res : S2 × Int32} (hP : MClosed (O3 xs L) (kcall (O3 xs L) (d + 5)) kd_M_monopoly 1 Q P) (hQ : Q res.1 (some (mI res.2))) {k39 : Int32 → Int32 → Int32 → Int32 → Int32 → S2 → Option (S2 × Int32)} (hk39 : ∀ (x1 : Int32) (x2 : Int32) (x3 : Int32) (x4 : Int32) (x5 : Int32) (x6 : Option Int32) (x7 : Option Int32) (s : S2), k39 x1 x2 x3 x4 x5 s = some res → P 39 [some (mR 60 0), some (mI x1), some (mI x2), some (mI x3), some (mI x4), some (mI x5), oI x6, oI x7] [] s (0, 0)) (x1 : Int32) (x2 : Int32) (x3 : Int32) (x4 : Int32) (x5 : Int32) (x6 : Int32) (x7 : Int32) (s : S2) (h : f_M_monopoly_L116 k39 x1 x2 x3 x4 x5 s = some res) : P 116 [some (mR 60 0), some (mI x1), some (mI x2), some (mI x3), some (mI x4), some (mI x5), some (mI x6), some (mI x7)] [] s (0, 0) := by
  refine mgo_from hP [39, 54, 93, 116] 260 ?_
  exact hk39 _ _ _ _ _ (some x6) (some x7) _ h
theorem c_M_monopoly_L93 {xs : Nat → Int32} {L d : Nat} {P : MK S2} {Q : S2 → Option MV → Prop} {res : S2 × Int32} (hP : MClosed (O3 xs L) (kcall (O3 xs L) (d + 5)) kd_M_monopoly 1 Q P) (hQ : Q res.1 (some (mI res.2))) {k39 : Int32 → Int32 → Int32 → Int32 → Int32 → S2 → Option (S2 × Int32)} {k54 : Int32 → Int32 → Int32 → Int32 → Int32 → Int32 → Int32 → S2 → Option (S2 × Int32)} (hk39 : ∀ (x1 : Int32) (x2 : Int32) (x3 : Int32) (x4 : Int32) (x5 : Int32) (x6 : Option Int32) (x7 : Option Int32) (s : S2), k39 x1 x2 x3 x4 x5 s = some res → P 39 [some (mR 60 0), some (mI x1), some (mI x2), some (mI x3), some (mI x4), some (mI x5), oI x6, oI x7] [] s (0, 0)) (hk54 : ∀ (x1 : Int32) (x2 : Int32) (x3 : Int32) (x4 : Int32) (x5 : Int32) (x6 : Int32) (x7 : Int32) (s : S2), k54 x1 x2 x3 x4 x5 x6 x7 s = some res → P 54 [some (mR 60 0), some (mI x1), some (mI x2), some (mI x3), some (mI x4), some (mI x5), some (mI x6), some (mI x7)] [] s (0, 0)) (x1 : Int32) (x2 : Int32) (x3 : Int32) (x4 : Int32) (x5 : Int32) (x7 : Int32) (y0 : Int32) (y1 : Int32) (x6 : Int32) (s : S2) (h : f_M_monopoly_L93 k39 k54 x1 x2 x3 x4 x5 x7 y0 y1 s = some res) : P 93 [some (mR 60 0), some (mI x1), some (mI x2), some (mI x3), some (mI x4), some (mI x5), some (mI x6), some (mI x7)] [mI y1, mI y0] s (0, 0) := by
  refine mgo_from hP [39, 54, 93, 116] 260 ?_
  exact hk54 _ _ _ _ _ _ _ _ h
theorem cb_M_monopoly_L54 {xs : Nat → Int32} {L d : Nat} {P : MK S2} {Q : S2 → Option MV → Prop} {res : S2 × Int32} (hP : MClosed (O3 xs L) (kcall (O3 xs L) (d + 5)) kd_M_monopoly 1 Q P) (hQ : Q res.1 (some (mI res.2))) {k39 : Int32 → Int32 → Int32 → Int32 → Int32 → S2 → Option (S2 × Int32)} (hk39 : ∀ (x1 : Int32) (x2 : Int32) (x3 : Int32) (x4 : Int32) (x5 : Int32) (x6 : Option Int32) (x7 : Option Int32) (s : S2), k39 x1 x2 x3 x4 x5 s = some res → P 39 [some (mR 60 0), some (mI x1), some (mI x2), some (mI x3), some (mI x4), some (mI x5), oI x6, oI x7] [] s (0, 0)) {k54 : Int32 → Int32 → Int32 → Int32 → Int32 → Int32 → Int32 → S2 → Option (S2 × Int32)} (hk54 : ∀ (x1 : Int32) (x2 : Int32) (x3 : Int32) (x4 : Int32) (x5 : Int32) (x6 : Int32) (x7 : Int32) (s : S2), k54 x1 x2 x3 x4 x5 x6 x7 s = some res → P 54 [some (mR 60 0), some (mI x1), some (mI x2), some (mI x3), some (mI x4), some (mI x5), some (mI x6), some (mI x7)] [] s (0, 0)) (x1 : Int32) (x2 : Int32) (x3 : Int32) (x4 : Int32) (x5 : Int32) (x6 : Int32) (x7 : Int32) (s : S2) (h : b_M_monopoly_L54 k39 k54 x1 x2 x3 x4 x5 x6 x7 s = some res) : P 54 [some (mR 60 0), some (mI x1), some (mI x2), some (mI x3), some (mI x4), some (mI x5), some (mI x6), some (mI x7)] [] s (0, 0) := by
  refine mgo_from hP [39, 54, 93, 116] 260 ?_
  refine go_br (fun hc : (s.1 60 0 28) ≤ x7 => ?_) (fun hc : ¬ ((s.1 60 0 28) ≤ x7) => ?_)
  · replace h := (if_pos hc).symm.trans h
    refine go_br (fun hc : x6 ≤ x4 => ?_) (fun hc : ¬ (x6 ≤ x4) => ?_)
    · replace h := (if_pos hc).symm.trans h
      exact c_M_monopoly_L116 hP hQ hk39 _ _ _ _ _ _ _ _ h
    · replace h := (if_neg hc).symm.trans h
      exact c_M_monopoly_L116 hP hQ hk39 _ _ _ _ _ _ _ _ h
  · replace h := (if_neg hc).symm.trans h
    obtain ⟨q1, hq, h⟩ := bnd h
    refine go_call (fun _ hw => c_M_of hq hw) ?_
    refine go_brn (fun hc : ¬ (q1 = x1) => ?_) (fun hc : q1 = x1 => ?_)
    · replace h := (if_neg hc).symm.trans h
      exact c_M_monopoly_L93 hP hQ hk39 hk54 _ _ _ _ _ _ _ _ _ _ h
    · replace h := (if_pos hc).symm.trans h
      obtain ⟨j2, hj, h⟩ := bnd h
      refine go_ix j2 (ix_lt hj) (ix_eq hj) ?_
      exact c_M_monopoly_L93 hP hQ hk39 hk54 _ _ _ _ _ _ _ _ _ _ h
theorem c_M_monopoly_L54 {xs : Nat → Int32} {L d : Nat} {P : MK S2} {Q : S2 → Option MV → Prop} {res : S2 × Int32} (hP : MClosed (O3 xs L) (kcall (O3 xs L) (d + 5)) kd_M_monopoly 1 Q P) (hQ : Q res.1 (some (mI res.2))) {k39 : Int32 → Int32 → Int32 → Int32 → Int32 → S2 → Option (S2 × Int32)} (hk39 : ∀ (x1 : Int32) (x2 : Int32) (x3 : Int32) (x4 : Int32) (x5 : Int32) (x6 : Option Int32) (x7 : Option Int32) (s : S2), k39 x1 x2 x3 x4 x5 s = some res → P 39 [some (mR 60 0), some (mI x1), some (mI x2), some (mI x3), some (mI x4), some (mI x5), oI x6, oI x7] [] s (0, 0)) : ∀ (fu : Nat) (x1 : Int32) (x2 : Int32) (x3 : Int32) (x4 : Int32) (x5 : Int32) (x6 : Int32) (x7 : Int32) (s : S2), f_M_monopoly_L54 k39 fu x1 x2 x3 x4 x5 x6 x7 s = some res → P 54 [some (mR 60 0), some (mI x1), some (mI x2), some (mI x3), some (mI x4), some (mI x5), some (mI x6), some (mI x7)] [] s (0, 0)
  | 0, _, _, _, _, _, _, _, _, h => by cases h
  | fu + 1, x1, x2, x3, x4, x5, x6, x7, s, h => cb_M_monopoly_L54 hP hQ hk39 (c_M_monopoly_L54 hP hQ hk39 fu) x1 x2 x3 x4 x5 x6 x7 s h
theorem cb_M_monopoly_L39 {xs : Nat → Int32} {L d : Nat} {P : MK S2} {Q : S2 → Option MV → Prop} {res : S2 × Int32} (hP : MClosed (O3 xs L) (kcall (O3 xs L) (d + 5)) kd_M_monopoly 1 Q P) (hQ : Q res.1 (some (mI res.2))) {k39 : Int32 → Int32 → Int32 → Int32 → Int32 → S2 → Option (S2 × Int32)} (hk39 : ∀ (x1 : Int32) (x2 : Int32) (x3 : Int32) (x4 : Int32) (x5 : Int32) (x6 : Option Int32) (x7 : Option Int32) (s : S2), k39 x1 x2 x3 x4 x5 s = some res → P 39 [some (mR 60 0), some (mI x1), some (mI x2), some (mI x3), some (mI x4), some (mI x5), oI x6, oI x7] [] s (0, 0)) (x1 : Int32) (x2 : Int32) (x3 : Int32) (x4 : Int32) (x5 : Int32) (x6 : Option Int32) (x7 : Option Int32) (s : S2) (h : b_M_monopoly_L39 k39 x1 x2 x3 x4 x5 s = some res) : P 39 [some (mR 60 0), some (mI x1), some (mI x2), some (mI x3), some (mI x4), some (mI x5), oI x6, oI x7] [] s (0, 0) := by
  refine mgo_from hP [39, 54, 93, 116] 260 ?_
  refine go_br (fun hc : (s.1 60 0 28) ≤ x5 => ?_) (fun hc : ¬ ((s.1 60 0 28) ≤ x5) => ?_)
  · replace h := (if_pos hc).symm.trans h
    refine go_br (fun hc : x3 = (Int32.ofInt (-1)) => ?_) (fun hc : ¬ (x3 = (Int32.ofInt (-1))) => ?_)
    · replace h := (if_pos hc).symm.trans h
      cases h
      exact hQ
    · replace h := (if_neg hc).symm.trans h
      refine go_brn (fun hc : ¬ (x2 = 0) => ?_) (fun hc : x2 = 0 => ?_)
      · replace h := (if_neg hc).symm.trans h
        cases h
        exact hQ
      · replace h := (if_pos hc).symm.trans h
        cases h
        exact hQ
  · replace h := (if_neg hc).symm.trans h
    exact c_M_monopoly_L54 hP hQ hk39 FU _ _ _ _ _ _ _ _ h
theorem c_M_monopoly_L39 {xs : Nat → Int32} {L d : Nat} {P : MK S2} {Q : S2 → Option MV → Prop} {res : S2 × Int32} (hP : MClosed (O3 xs L) (kcall (O3 xs L) (d + 5)) kd_M_monopoly 1 Q P) (hQ : Q res.1 (some (mI res.2))) : ∀ (fu : Nat) (x1 : Int32) (x2 : Int32) (x3 : Int32) (x4 : Int32) (x5 : Int32) (x6 : Option Int32) (x7 : Option Int32) (s : S2), f_M_monopoly_L39 fu x1 x2 x3 x4 x5 s = some res → P 39 [some (mR 60 0), some (mI x1), some (mI x2), some (mI x3), some (mI x4), some (mI x5), oI x6, oI x7] [] s (0, 0)
  | 0, _, _, _, _, _, _, _, _, h => by cases h
  | fu + 1, x1, x2, x3, x4, x5, x6, x7, s, h => cb_M_monopoly_L39 hP hQ (c_M_monopoly_L39 hP hQ fu) x1 x2 x3 x4 x5 x6 x7 s h
theorem c_M_monopoly {xs : Nat → Int32} {L d : Nat} {a1 : Int32} {a2 : Int32} {s : S2} {res : S2 × Int32} {Q : S2 → Option MV → Prop} (h : f_M_monopoly a1 a2 s = some res) (hQ : Q res.1 (some (mI res.2))) : kcall (O3 xs L) (d + 6) k_M_monopoly [mR 60 0, mI a1, mI a2] s Q := by
  refine kc_of (cd := kd_M_monopoly) (mx := 8) (rt := 1) rfl rfl ?_
  intro P hP
  refine mgo_sound hP [39, 54, 93, 116] 260 _ _ _ _ _ ?_
  refine go_br (fun hc : (s.1 60 0 28) = 0 => ?_) (fun hc : ¬ ((s.1 60 0 28) = 0) => ?_)
  · replace h := (if_pos hc).symm.trans h
    cases h
    exact hQ
  · replace h := (if_neg hc).symm.trans h
    refine go_call (fun _ hw => c_M_in hw) ?_
    refine go_br (fun hc : (bI (g_M_in a1 (Int32.ofInt 0) (Int32.ofInt 3) s)) = 0 => ?_) (fun hc : ¬ ((bI (g_M_in a1 (Int32.ofInt 0) (Int32.ofInt 3) s)) = 0) => ?_)
    · replace h := (if_pos hc).symm.trans h
      cases h
      exact hQ
    · replace h := (if_neg hc).symm.trans h
      refine go_call (fun _ hw => c_M_in hw) ?_
      refine go_brn (fun hc : ¬ ((bI (g_M_in a2 (Int32.ofInt 0) (Int32.ofInt 1) s)) = 0) => ?_) (fun hc : (bI (g_M_in a2 (Int32.ofInt 0) (Int32.ofInt 1) s)) = 0 => ?_)
      · replace h := (if_neg hc).symm.trans h
        obtain ⟨q1, hq, h⟩ := bnd h
        refine go_call (fun _ hw => c_M_trade hq hw) ?_
        exact c_M_monopoly_L39 hP hQ FU _ _ _ _ _ none none _ h
      · replace h := (if_pos hc).symm.trans h
        cases h
        exact hQ
/-! M_undercut -/
def f_M_undercut_L84 (x1 : Int32) (x3 : Int32) (x4 : Int32) (s : S2) : Option (S2 × Int32) := ((ix 48 (((Int32.ofInt 8) * x1) + (Int32.ofInt 7))).bind fun j2 => (some (pkS s 76 0 j2 x3)).bind fun s1 => some (s1, x4))
def f_M_undercut_L76 (k25 : Int32 → Int32 → Int32 → Int32 → Int32 → S2 → Option (S2 × Int32)) (x1 : Int32) (x2 : Int32) (x3 : Int32) (x5 : Int32) (y0 : Int32) (s : S2) : Option (S2 × Int32) := (k25 x1 x2 x3 y0 (x5 + (Int32.ofInt (-1))) s)
def b_M_undercut_L25 (k25 : Int32 → Int32 → Int32 → Int32 → Int32 → S2 → Option (S2 × Int32)) (x1 : Int32) (x2 : Int32) (x3 : Int32) (x4 : Int32) (x5 : Int32) (s : S2) : Option (S2 × Int32) := (if x5 < 0 then (f_M_undercut_L84 x1 x3 x4 s) else (if x4 = (Int32.ofInt (-1)) then ((ix 48 (((Int32.ofInt 8) * x1) + (Int32.ofInt 7))).bind fun j2 => (some (pkS s 76 0 j2 x5)).bind fun s1 => ((f_M_trade s1).bind fun q3 => ((ix 36 (((Int32.ofInt 6) * x2) + x1)).bind fun j4 => (if (q3.1 84 0 j4) ≤ 0 then (f_M_undercut_L76 k25 x1 x2 x3 x5 (Int32.ofInt (-1)) q3) else (f_M_undercut_L76 k25 x1 x2 x3 x5 (x3 - x5) q3))))) else (f_M_undercut_L84 x1 x3 x4 s)))
def f_M_undercut_L25 : Nat → Int32 → Int32 → Int32 → Int32 → Int32 → S2 → Option (S2 × Int32)
  | 0 => fun _ _ _ _ _ _ => none
  | n + 1 => b_M_undercut_L25 (f_M_undercut_L25 n)
def f_M_undercut (a1 : Int32) (a2 : Int32) (s : S2) : Option (S2 × Int32) := (if (bI (g_M_areTwo a1 a2 s)) = 0 then some (s, (Int32.ofInt (-1))) else ((f_M_of a1 (Int32.ofInt 7) s).bind fun q1 => (f_M_undercut_L25 FU a1 a2 q1 (Int32.ofInt (-1)) q1 s)))
theorem c_M_undercut_L84 {xs : Nat → Int32} {L d : Nat} {P : MK S2} {Q : S2 → Option MV → Prop} {res : S2 × Int32} (hP : MClosed (O3 xs L) (kcall (O3 xs L) (d + 5)) kd_M_undercut 1 Q P) (hQ : Q res.1 (some (mI res.2))) (x1 : Int32) (x3 : Int32) (x4 : Int32) (x2 : Int32) (x5 : Int32) (s : S2) (h : f_M_undercut_L84 x1 x3 x4 s = some res) : P 84 [some (mR 60 0), some (mI x1), some (mI x2), some (mI x3), some (mI x4), some (mI x5)] [] s (0, 0) := by
  refine mgo_from hP [25, 76, 84] 260 ?_
  obtain ⟨j2, hj, h⟩ := bnd h
  replace h := bnds h
  refine go_ix j2 (ix_lt hj) (ix_eq hj) ?_
  cases h
  exact hQ
theorem c_M_undercut_L76 {xs : Nat → Int32} {L d : Nat} {P : MK S2} {Q : S2 → Option MV → Prop} {res : S2 × Int32} (hP : MClosed (O3 xs L) (kcall (O3 xs L) (d + 5)) kd_M_undercut 1 Q P) (hQ : Q res.1 (some (mI res.2))) {k25 : Int32 → Int32 → Int32 → Int32 → Int32 → S2 → Option (S2 × Int32)} (hk25 : ∀ (x1 : Int32) (x2 : Int32) (x3 : Int32) (x4 : Int32) (x5 : Int32) (s : S2), k25 x1 x2 x3 x4 x5 s = some res → P 25 [some (mR 60 0), some (mI x1), some (mI x2), some (mI x3), some (mI x4), some (mI x5)] [] s (0, 0)) (x1 : Int32) (x2 : Int32) (x3 : Int32) (x5 : Int32) (y0 : Int32) (x4 : Int32) (s : S2) (h : f_M_undercut_L76 k25 x1 x2 x3 x5 y0 s = some res) : P 76 [some (mR 60 0), some (mI x1), some (mI x2), some (mI x3), some (mI x4), some (mI x5)] [mI y0] s (0, 0) := by
  refine mgo_from hP [25, 76, 84] 260 ?_
  exact hk25 _ _ _ _ _ _ h
theorem cb_M_undercut_L25 {xs : Nat → Int32} {L d : Nat} {P : MK S2} {Q : S2 → Option MV → Prop} {res : S2 × Int32} (hP : MClosed (O3 xs L) (kcall (O3 xs L) (d + 5)) kd_M_undercut 1 Q P) (hQ : Q res.1 (some (mI res.2))) {k25 : Int32 → Int32 → Int32 → Int32 → Int32 → S2 → Option (S2 × Int32)} (hk25 : ∀ (x1 : Int32) (x2 : Int32) (x3 : Int32) (x4 : Int32) (x5 : Int32) (s : S2), k25 x1 x2 x3 x4 x5 s = some res → P 25 [some (mR 60 0), some (mI x1), some (mI x2), some (mI x3), some (mI x4), some (mI x5)] [] s (0, 0)) (x1 : Int32) (x2 : Int32) (x3 : Int32) (x4 : Int32) (x5 : Int32) (s : S2) (h : b_M_undercut_L25 k25 x1 x2 x3 x4 x5 s = some res) : P 25 [some (mR 60 0), some (mI x1), some (mI x2), some (mI x3), some (mI x4), some (mI x5)] [] s (0, 0) := by
  refine mgo_from hP [25, 76, 84] 260 ?_
  refine go_br (fun hc : x5 < 0 => ?_) (fun hc : ¬ (x5 < 0) => ?_)
  · replace h := (if_pos hc).symm.trans h
    exact c_M_undercut_L84 hP hQ _ _ _ _ _ _ h
  · replace h := (if_neg hc).symm.trans h
    refine go_brn (fun hc : ¬ (x4 = (Int32.ofInt (-1))) => ?_) (fun hc : x4 = (Int32.ofInt (-1)) => ?_)
    · replace h := (if_neg hc).symm.trans h
      exact c_M_undercut_L84 hP hQ _ _ _ _ _ _ h
    · replace h := (if_pos hc).symm.trans h
      obtain ⟨j2, hj, h⟩ := bnd h
      replace h := bnds h
      refine go_ix j2 (ix_lt hj) (ix_eq hj) ?_
      obtain ⟨q3, hq, h⟩ := bnd h
      refine go_call (fun _ hw => c_M_trade hq hw) ?_
      obtain ⟨j4, hj, h⟩ := bnd h
      refine go_ix j4 (ix_lt hj) (ix_eq hj) ?_
      refine go_br (fun hc : (q3.1 84 0 j4) ≤ 0 => ?_) (fun hc : ¬ ((q3.1 84 0 j4) ≤ 0) => ?_)
      · replace h := (if_pos hc).symm.trans h
        exact c_M_undercut_L76 hP hQ hk25 _ _ _ _ _ _ _ h
      · replace h := (if_neg hc).symm.trans h
        exact c_M_undercut_L76 hP hQ hk25 _ _ _ _ _ _ _ h
theorem c_M_undercut_L25 {xs : Nat → Int32} {L d : Nat} {P : MK S2} {Q : S2 → Option MV → Prop} {res : S2 × Int32} (hP : MClosed (O3 xs L) (kcall (O3 xs L) (d + 5)) kd_M_undercut 1 Q P) (hQ : Q res.1 (some (mI res.2))) : ∀ (fu : Nat) (x1 : Int32) (x2 : Int32) (x3 : Int32) (x4 : Int32) (x5 : Int32) (s : S2), f_M_undercut_L25 fu x1 x2 x3 x4 x5 s = some res → P 25 [some (mR 60 0), some (mI x1), some (mI x2), some (mI x3), some (mI x4), some (mI x5)] [] s (0, 0)
  | 0, _, _, _, _, _, _, h => by cases h
  | fu + 1, x1, x2, x3, x4, x5, s, h => cb_M_undercut_L25 hP hQ (c_M_undercut_L25 hP hQ fu) x1 x2 x3 x4 x5 s h
theorem c_M_undercut {xs : Nat → Int32} {L d : Nat} {a1 : Int32} {a2 : Int32} {s : S2} {res : S2 × Int32} {Q : S2 → Option MV → Prop} (h : f_M_undercut a1 a2 s = some res) (hQ : Q res.1 (some (mI res.2))) : kcall (O3 xs L) (d + 6) k_M_undercut [mR 60 0, mI a1, mI a2] s Q := by
  refine kc_of (cd := kd_M_undercut) (mx := 6) (rt := 1) rfl rfl ?_
  intro P hP
  refine mgo_sound hP [25, 76, 84] 260 _ _ _ _ _ ?_
  refine go_call (fun _ hw => c_M_areTwo hw) ?_
  refine go_brn (fun hc : ¬ ((bI (g_M_areTwo a1 a2 s)) = 0) => ?_) (fun hc : (bI (g_M_areTwo a1 a2 s)) = 0 => ?_)
  · replace h := (if_neg hc).symm.trans h
    obtain ⟨q1, hq, h⟩ := bnd h
    refine go_call (fun _ hw => c_M_of hq hw) ?_
    exact c_M_undercut_L25 hP hQ FU _ _ _ _ _ _ h
  · replace h := (if_pos hc).symm.trans h
    cases h
    exact hQ
/-! String_charAt -/
def f_String_charAt (r0 : Nat) (a1 : Int32) (s : S2) : Option (S2 × Int32) := (if (bI (g_String_isLatin1 r0 s)) = 0 then none else ((f_Latin_charAt r0 a1 s).bind fun q1 => ((rc q1.2).bind fun b2 => some (q1.1, b2))))
theorem c_String_charAt {xs : Nat → Int32} {L d : Nat} {r0 : Nat} {a1 : Int32} {s : S2} {res : S2 × Int32} {Q : S2 → Option MV → Prop} (h : f_String_charAt r0 a1 s = some res) (hQ : Q res.1 (some (mI res.2))) : kcall (O3 xs L) (d + 4) k_String_charAt [mR 2 r0, mI a1] s Q := by
  refine kc_of (cd := kd_String_charAt) (mx := 2) (rt := 3) rfl rfl ?_
  intro P hP
  refine mgo_sound hP [] 260 _ _ _ _ _ ?_
  refine go_call (fun _ hw => c_String_isLatin1 hw) ?_
  refine go_br (fun hc : (bI (g_String_isLatin1 r0 s)) = 0 => ?_) (fun hc : ¬ ((bI (g_String_isLatin1 r0 s)) = 0) => ?_)
  · replace h := (if_pos hc).symm.trans h
    cases h
  · replace h := (if_neg hc).symm.trans h
    obtain ⟨q1, hq, h⟩ := bnd h
    refine go_call (fun _ hw => c_Latin_charAt hq hw) ?_
    obtain ⟨b2, hb, h⟩ := bnd h
    cases h
    exact ret_c hb hQ
/-! String_indexOf2 -/
def f_String_indexOf2 (r0 : Nat) (a1 : Int32) (a2 : Int32) (s : S2) : Option Int32 := (if (bI (g_String_isLatin1 r0 s)) = 0 then ((f_String_length r0 s).bind fun q1 => none) else ((f_String_length r0 s).bind fun q2 => ((f_Latin_indexOf r0 a1 a2 q2 s).bind fun q3 => some q3)))
theorem c_String_indexOf2 {xs : Nat → Int32} {L d : Nat} {r0 : Nat} {a1 : Int32} {a2 : Int32} {s : S2} {res : Int32} {Q : S2 → Option MV → Prop} (h : f_String_indexOf2 r0 a1 a2 s = some res) (hQ : Q s (some (mI res))) : kcall (O3 xs L) (d + 3) k_String_indexOf2 [mR 2 r0, mI a1, mI a2] s Q := by
  refine kc_of (cd := kd_String_indexOf2) (mx := 3) (rt := 1) rfl rfl ?_
  intro P hP
  refine mgo_sound hP [] 260 _ _ _ _ _ ?_
  refine go_call (fun _ hw => c_String_isLatin1 hw) ?_
  refine go_br (fun hc : (bI (g_String_isLatin1 r0 s)) = 0 => ?_) (fun hc : ¬ ((bI (g_String_isLatin1 r0 s)) = 0) => ?_)
  · replace h := (if_pos hc).symm.trans h
    obtain ⟨q1, hq, h⟩ := bnd h
    refine go_call (fun _ hw => c_String_length hq hw) ?_
    cases h
  · replace h := (if_neg hc).symm.trans h
    obtain ⟨q2, hq, h⟩ := bnd h
    refine go_call (fun _ hw => c_String_length hq hw) ?_
    obtain ⟨q3, hq, h⟩ := bnd h
    refine go_call (fun _ hw => c_Latin_indexOf hq hw) ?_
    cases h
    exact hQ
/-! Sea_itemOf -/
def b_Sea_itemOf_L2 (k2 : Int32 → Int32 → Int32 → S2 → Option (S2 × Int32)) (x0 : Int32) (x1 : Int32) (x2 : Int32) (s : S2) : Option (S2 × Int32) := (if (Int32.ofInt 8) ≤ x2 then some (s, (Int32.ofInt (-1))) else ((f_String_charAt 1 ((x0 * (Int32.ofInt 8)) + x2) s).bind fun q1 => (if q1.2 = x1 then some (q1.1, x2) else (k2 x0 x1 (x2 + (Int32.ofInt 1)) q1.1))))
def f_Sea_itemOf_L2 : Nat → Int32 → Int32 → Int32 → S2 → Option (S2 × Int32)
  | 0 => fun _ _ _ _ => none
  | n + 1 => b_Sea_itemOf_L2 (f_Sea_itemOf_L2 n)
def f_Sea_itemOf (a0 : Int32) (a1 : Int32) (s : S2) : Option (S2 × Int32) := (f_Sea_itemOf_L2 FU a0 a1 (Int32.ofInt 0) s)
theorem cb_Sea_itemOf_L2 {xs : Nat → Int32} {L d : Nat} {P : MK S2} {Q : S2 → Option MV → Prop} {res : S2 × Int32} (hP : MClosed (O3 xs L) (kcall (O3 xs L) (d + 4)) kd_Sea_itemOf 1 Q P) (hQ : Q res.1 (some (mI res.2))) {k2 : Int32 → Int32 → Int32 → S2 → Option (S2 × Int32)} (hk2 : ∀ (x0 : Int32) (x1 : Int32) (x2 : Int32) (s : S2), k2 x0 x1 x2 s = some res → P 2 [some (mI x0), some (mI x1), some (mI x2)] [] s (0, 0)) (x0 : Int32) (x1 : Int32) (x2 : Int32) (s : S2) (h : b_Sea_itemOf_L2 k2 x0 x1 x2 s = some res) : P 2 [some (mI x0), some (mI x1), some (mI x2)] [] s (0, 0) := by
  refine mgo_from hP [2] 260 ?_
  refine go_br (fun hc : (Int32.ofInt 8) ≤ x2 => ?_) (fun hc : ¬ ((Int32.ofInt 8) ≤ x2) => ?_)
  · replace h := (if_pos hc).symm.trans h
    cases h
    exact hQ
  · replace h := (if_neg hc).symm.trans h
    obtain ⟨q1, hq, h⟩ := bnd h
    refine go_call (fun _ hw => c_String_charAt hq hw) ?_
    refine go_brn (fun hc : ¬ (q1.2 = x1) => ?_) (fun hc : q1.2 = x1 => ?_)
    · replace h := (if_neg hc).symm.trans h
      exact hk2 _ _ _ _ h
    · replace h := (if_pos hc).symm.trans h
      cases h
      exact hQ
theorem c_Sea_itemOf_L2 {xs : Nat → Int32} {L d : Nat} {P : MK S2} {Q : S2 → Option MV → Prop} {res : S2 × Int32} (hP : MClosed (O3 xs L) (kcall (O3 xs L) (d + 4)) kd_Sea_itemOf 1 Q P) (hQ : Q res.1 (some (mI res.2))) : ∀ (fu : Nat) (x0 : Int32) (x1 : Int32) (x2 : Int32) (s : S2), f_Sea_itemOf_L2 fu x0 x1 x2 s = some res → P 2 [some (mI x0), some (mI x1), some (mI x2)] [] s (0, 0)
  | 0, _, _, _, _, h => by cases h
  | fu + 1, x0, x1, x2, s, h => cb_Sea_itemOf_L2 hP hQ (c_Sea_itemOf_L2 hP hQ fu) x0 x1 x2 s h
theorem c_Sea_itemOf {xs : Nat → Int32} {L d : Nat} {a0 : Int32} {a1 : Int32} {s : S2} {res : S2 × Int32} {Q : S2 → Option MV → Prop} (h : f_Sea_itemOf a0 a1 s = some res) (hQ : Q res.1 (some (mI res.2))) : kcall (O3 xs L) (d + 5) k_Sea_itemOf [mI a0, mI a1] s Q := by
  refine kc_of (cd := kd_Sea_itemOf) (mx := 3) (rt := 1) rfl rfl ?_
  intro P hP
  refine mgo_sound hP [2] 260 _ _ _ _ _ ?_
  exact c_Sea_itemOf_L2 hP hQ FU _ _ _ _ h
/-! Course_pullOfTold -/
def f_Course_pullOfTold (r1 : Nat) (a2 : Int32) (s : S2) : Option (S2 × Int32) := ((f_Sea_ofTie 0 a2 (Int32.ofInt 0) s).bind fun q1 => ((f_Sea_ofTie 0 a2 (Int32.ofInt 1) s).bind fun q2 => ((f_State_kindOf r1 a2 s).bind fun q3 => ((f_Sea_ofTie 0 a2 (Int32.ofInt 3) s).bind fun q4 => ((f_Course_pullOf r1 q1 q2 q3 q4 s).bind fun q5 => some (q5.1, q5.2))))))
theorem c_Course_pullOfTold {xs : Nat → Int32} {L d : Nat} {r1 : Nat} {a2 : Int32} {s : S2} {res : S2 × Int32} {Q : S2 → Option MV → Prop} (h : f_Course_pullOfTold r1 a2 s = some res) (hQ : Q res.1 (some (mI res.2))) : kcall (O3 xs L) (d + 4) k_Course_pullOfTold [mR 31 0, mR 20 r1, mI a2] s Q := by
  refine kc_of (cd := kd_Course_pullOfTold) (mx := 3) (rt := 1) rfl rfl ?_
  intro P hP
  refine mgo_sound hP [] 260 _ _ _ _ _ ?_
  obtain ⟨q1, hq, h⟩ := bnd h
  refine go_call (fun _ hw => c_Sea_ofTie hq hw) ?_
  obtain ⟨q2, hq, h⟩ := bnd h
  refine go_call (fun _ hw => c_Sea_ofTie hq hw) ?_
  obtain ⟨q3, hq, h⟩ := bnd h
  refine go_call (fun _ hw => c_State_kindOf hq hw) ?_
  obtain ⟨q4, hq, h⟩ := bnd h
  refine go_call (fun _ hw => c_Sea_ofTie hq hw) ?_
  obtain ⟨q5, hq, h⟩ := bnd h
  refine go_call (fun _ hw => c_Course_pullOf hq hw) ?_
  cases h
  exact hQ
/-! Course_pass -/
def f_Course_pass_L71 (r1 : Nat) (s : S2) : Option S2 := ((f_Course_snapBridges r1 s).bind fun q1 => ((f_State_nextSeason r1 q1).bind fun q2 => some q2))
def b_Course_pass_L41 (r1 : Nat) (k41 : Int32 → S2 → Option S2) (x2 : Int32) (s : S2) : Option S2 := (if (Int32.ofInt 6) ≤ x2 then (f_Course_pass_L71 r1 s) else ((f_Course_joinFirstPair r1 s).bind fun q1 => (if (bI q1.2) = 0 then (f_Course_pass_L71 r1 q1.1) else ((some (pkS q1.1 31 0 14 ((q1.1.1 31 0 14) + (Int32.ofInt 1)))).bind fun s2 => (k41 (x2 + (Int32.ofInt 1)) s2)))))
def f_Course_pass_L41 (r1 : Nat) : Nat → Int32 → S2 → Option S2
  | 0 => fun _ _ => none
  | n + 1 => b_Course_pass_L41 r1 (f_Course_pass_L41 r1 n)
def f_Course_pass_L29 (r1 : Nat) (s : S2) : Option S2 := ((f_Course_moveAll r1 s).bind fun q1 => ((some (pkS q1 31 0 14 (Int32.ofInt 0))).bind fun s2 => (f_Course_pass_L41 r1 FU (Int32.ofInt 0) s2)))
def f_Course_pass (r1 : Nat) (s : S2) : Option S2 := ((f_Course_drawByTies r1 s).bind fun q1 => ((f_Course_doesTradePull q1).bind fun q2 => (if (bI q2) = 0 then (f_Course_pass_L29 r1 q1) else ((f_Trade_run 1 0 r1 q1).bind fun q3 => ((f_Course_drawByTrade r1 q3).bind fun q4 => (f_Course_pass_L29 r1 q4))))))
theorem c_Course_pass_L71 {xs : Nat → Int32} {L d : Nat} {r1 : Nat} {P : MK S2} {Q : S2 → Option MV → Prop} {res : S2} (hP : MClosed (O3 xs L) (kcall (O3 xs L) (d + 4)) kd_Course_pass 0 Q P) (hQ : Q res none) (x2 : Int32) (s : S2) (h : f_Course_pass_L71 r1 s = some res) : P 71 [some (mR 31 0), some (mR 20 r1), some (mI x2)] [] s (0, 0) := by
  refine mgo_from hP [29, 41, 71] 260 ?_
  obtain ⟨q1, hq, h⟩ := bnd h
  refine go_call (fun _ hw => c_Course_snapBridges hq hw) ?_
  obtain ⟨q2, hq, h⟩ := bnd h
  refine go_call (fun _ hw => c_State_nextSeason hq hw) ?_
  cases h
  exact hQ
theorem cb_Course_pass_L41 {xs : Nat → Int32} {L d : Nat} {r1 : Nat} {P : MK S2} {Q : S2 → Option MV → Prop} {res : S2} (hP : MClosed (O3 xs L) (kcall (O3 xs L) (d + 4)) kd_Course_pass 0 Q P) (hQ : Q res none) {k41 : Int32 → S2 → Option S2} (hk41 : ∀ (x2 : Int32) (s : S2), k41 x2 s = some res → P 41 [some (mR 31 0), some (mR 20 r1), some (mI x2)] [] s (0, 0)) (x2 : Int32) (s : S2) (h : b_Course_pass_L41 r1 k41 x2 s = some res) : P 41 [some (mR 31 0), some (mR 20 r1), some (mI x2)] [] s (0, 0) := by
  refine mgo_from hP [29, 41, 71] 260 ?_
  refine go_br (fun hc : (Int32.ofInt 6) ≤ x2 => ?_) (fun hc : ¬ ((Int32.ofInt 6) ≤ x2) => ?_)
  · replace h := (if_pos hc).symm.trans h
    exact c_Course_pass_L71 hP hQ _ _ h
  · replace h := (if_neg hc).symm.trans h
    obtain ⟨q1, hq, h⟩ := bnd h
    refine go_call (fun _ hw => c_Course_joinFirstPair hq hw) ?_
    refine go_br (fun hc : (bI q1.2) = 0 => ?_) (fun hc : ¬ ((bI q1.2) = 0) => ?_)
    · replace h := (if_pos hc).symm.trans h
      exact c_Course_pass_L71 hP hQ _ _ h
    · replace h := (if_neg hc).symm.trans h
      replace h := bnds h
      exact hk41 _ _ h
theorem c_Course_pass_L41 {xs : Nat → Int32} {L d : Nat} {r1 : Nat} {P : MK S2} {Q : S2 → Option MV → Prop} {res : S2} (hP : MClosed (O3 xs L) (kcall (O3 xs L) (d + 4)) kd_Course_pass 0 Q P) (hQ : Q res none) : ∀ (fu : Nat) (x2 : Int32) (s : S2), f_Course_pass_L41 r1 fu x2 s = some res → P 41 [some (mR 31 0), some (mR 20 r1), some (mI x2)] [] s (0, 0)
  | 0, _, _, h => by cases h
  | fu + 1, x2, s, h => cb_Course_pass_L41 hP hQ (c_Course_pass_L41 hP hQ fu) x2 s h
theorem c_Course_pass_L29 {xs : Nat → Int32} {L d : Nat} {r1 : Nat} {P : MK S2} {Q : S2 → Option MV → Prop} {res : S2} (hP : MClosed (O3 xs L) (kcall (O3 xs L) (d + 4)) kd_Course_pass 0 Q P) (hQ : Q res none) (s : S2) (h : f_Course_pass_L29 r1 s = some res) : P 29 [some (mR 31 0), some (mR 20 r1), none] [] s (0, 0) := by
  refine mgo_from hP [29, 41, 71] 260 ?_
  obtain ⟨q1, hq, h⟩ := bnd h
  refine go_call (fun _ hw => c_Course_moveAll hq hw) ?_
  replace h := bnds h
  exact c_Course_pass_L41 hP hQ FU _ _ h
theorem c_Course_pass {xs : Nat → Int32} {L d : Nat} {r1 : Nat} {s : S2} {res : S2} {Q : S2 → Option MV → Prop} (h : f_Course_pass r1 s = some res) (hQ : Q res none) : kcall (O3 xs L) (d + 5) k_Course_pass [mR 31 0, mR 20 r1] s Q := by
  refine kc_of (cd := kd_Course_pass) (mx := 3) (rt := 0) rfl rfl ?_
  intro P hP
  refine mgo_sound hP [29, 41, 71] 260 _ _ _ _ _ ?_
  obtain ⟨q1, hq, h⟩ := bnd h
  refine go_call (fun _ hw => c_Course_drawByTies hq hw) ?_
  obtain ⟨q2, hq, h⟩ := bnd h
  refine go_call (fun _ hw => c_Course_doesTradePull hq hw) ?_
  refine go_br (fun hc : (bI q2) = 0 => ?_) (fun hc : ¬ ((bI q2) = 0) => ?_)
  · replace h := (if_pos hc).symm.trans h
    exact c_Course_pass_L29 hP hQ _ h
  · replace h := (if_neg hc).symm.trans h
    obtain ⟨q3, hq, h⟩ := bnd h
    refine go_call (fun _ hw => c_Trade_run hq hw) ?_
    obtain ⟨q4, hq, h⟩ := bnd h
    refine go_call (fun _ hw => c_Course_drawByTrade hq hw) ?_
    exact c_Course_pass_L29 hP hQ _ h
/-! Course_ledByTold -/
def f_Course_ledByTold_L73 (r1 : Nat) (x2 : Int32) (x3 : Int32) (x5 : Int32) (x6 : Int32) (x7 : Int32) (y0 : Int32) (s : S2) : Option (S2 × Int32) := ((f_Course_pullOfTold r1 x3 s).bind fun q1 => (if x7 = 0 then none else ((f_State_headOf r1 x2 q1.1).bind fun q2 => ((f_State_headOf r1 x5 q1.1).bind fun q3 => (if q2 = q3 then some (q1.1, ((q1.2 * y0) / x7)) else ((f_State_headOf r1 x6 q1.1).bind fun q4 => (if q2 = q4 then some (q1.1, (-((q1.2 * y0) / x7))) else some (q1.1, (Int32.ofInt 0)))))))))
def f_Course_ledByTold (r1 : Nat) (a2 : Int32) (a3 : Int32) (a4 : Int32) (s : S2) : Option (S2 × Int32) := ((f_Sea_ofTie 0 a3 (Int32.ofInt 0) s).bind fun q1 => ((f_Sea_ofTie 0 a3 (Int32.ofInt 1) s).bind fun q2 => ((f_State_apart r1 q1 q2 s).bind fun q3 => (if q3 = 0 then some (s, (Int32.ofInt 0)) else (if a4 = 0 then ((f_State_xOf r1 q2 s).bind fun q6 => ((f_State_xOf r1 q1 s).bind fun q7 => (f_Course_ledByTold_L73 r1 a2 a3 q1 q2 q3 (q6 - q7) s))) else ((f_State_yOf r1 q2 s).bind fun q4 => ((f_State_yOf r1 q1 s).bind fun q5 => (f_Course_ledByTold_L73 r1 a2 a3 q1 q2 q3 (q4 - q5) s))))))))
theorem c_Course_ledByTold_L73 {xs : Nat → Int32} {L d : Nat} {r1 : Nat} {P : MK S2} {Q : S2 → Option MV → Prop} {res : S2 × Int32} (hP : MClosed (O3 xs L) (kcall (O3 xs L) (d + 4)) kd_Course_ledByTold 1 Q P) (hQ : Q res.1 (some (mI res.2))) (x2 : Int32) (x3 : Int32) (x5 : Int32) (x6 : Int32) (x7 : Int32) (y0 : Int32) (x4 : Int32) (s : S2) (h : f_Course_ledByTold_L73 r1 x2 x3 x5 x6 x7 y0 s = some res) : P 73 [some (mR 31 0), some (mR 20 r1), some (mI x2), some (mI x3), some (mI x4), some (mI x5), some (mI x6), some (mI x7), none, none, none] [mI y0] s (0, 0) := by
  refine mgo_from hP [73] 260 ?_
  obtain ⟨q1, hq, h⟩ := bnd h
  refine go_call (fun _ hw => c_Course_pullOfTold hq hw) ?_
  obtain ⟨hz, h⟩ := nif h
  refine go_and hz ?_
  obtain ⟨q2, hq, h⟩ := bnd h
  refine go_call (fun _ hw => c_State_headOf hq hw) ?_
  obtain ⟨q3, hq, h⟩ := bnd h
  refine go_call (fun _ hw => c_State_headOf hq hw) ?_
  refine go_brn (fun hc : ¬ (q2 = q3) => ?_) (fun hc : q2 = q3 => ?_)
  · replace h := (if_neg hc).symm.trans h
    obtain ⟨q4, hq, h⟩ := bnd h
    refine go_call (fun _ hw => c_State_headOf hq hw) ?_
    refine go_brn (fun hc : ¬ (q2 = q4) => ?_) (fun hc : q2 = q4 => ?_)
    · replace h := (if_neg hc).symm.trans h
      cases h
      exact hQ
    · replace h := (if_pos hc).symm.trans h
      cases h
      exact hQ
  · replace h := (if_pos hc).symm.trans h
    cases h
    exact hQ
set_option maxRecDepth 20000 in
set_option maxHeartbeats 4000000 in
theorem c_Course_ledByTold {xs : Nat → Int32} {L d : Nat} {r1 : Nat} {a2 : Int32} {a3 : Int32} {a4 : Int32} {s : S2} {res : S2 × Int32} {Q : S2 → Option MV → Prop} (h : f_Course_ledByTold r1 a2 a3 a4 s = some res) (hQ : Q res.1 (some (mI res.2))) : kcall (O3 xs L) (d + 5) k_Course_ledByTold [mR 31 0, mR 20 r1, mI a2, mI a3, mI a4] s Q := by
  refine kc_of (cd := kd_Course_ledByTold) (mx := 11) (rt := 1) rfl rfl ?_
  intro P hP
  refine mgo_sound hP [73] 260 _ _ _ _ _ ?_
  obtain ⟨q1, hq, h⟩ := bnd h
  refine go_call (fun _ hw => c_Sea_ofTie hq hw) ?_
  obtain ⟨q2, hq, h⟩ := bnd h
  refine go_call (fun _ hw => c_Sea_ofTie hq hw) ?_
  obtain ⟨q3, hq, h⟩ := bnd h
  refine go_call (fun _ hw => c_State_apart hq hw) ?_
  refine go_brn (fun hc : ¬ (q3 = 0) => ?_) (fun hc : q3 = 0 => ?_)
  · replace h := (if_neg hc).symm.trans h
    refine go_brn (fun hc : ¬ (a4 = 0) => ?_) (fun hc : a4 = 0 => ?_)
    · replace h := (if_neg hc).symm.trans h
      obtain ⟨q4, hq, h⟩ := bnd h
      refine go_call (fun _ hw => c_State_yOf hq hw) ?_
      obtain ⟨q5, hq, h⟩ := bnd h
      refine go_call (fun _ hw => c_State_yOf hq hw) ?_
      exact c_Course_ledByTold_L73 hP hQ _ _ _ _ _ _ _ _ h
    · replace h := (if_pos hc).symm.trans h
      obtain ⟨q6, hq, h⟩ := bnd h
      refine go_call (fun _ hw => c_State_xOf hq hw) ?_
      obtain ⟨q7, hq, h⟩ := bnd h
      refine go_call (fun _ hw => c_State_xOf hq hw) ?_
      exact c_Course_ledByTold_L73 hP hQ _ _ _ _ _ _ _ _ h
  · replace h := (if_pos hc).symm.trans h
    cases h
    exact hQ
/-! D_drift -/
def f_D_drift (a1 : Int32) (a2 : Int32) (s : S2) : Option (S2 × Int32) := (if (bI (g_D_isIsle a1 s)) = 0 then some (s, (Int32.ofInt (-1000000))) else (if (bI (g_D_isWithin a2 (Int32.ofInt 0) (Int32.ofInt 1) s)) = 0 then some (s, (Int32.ofInt (-1000000))) else ((f_Course_drawByTold s).bind fun q1 => ((f_Course_goesBy 0 a1 a2 q1).bind fun q2 => some (q2.1, q2.2)))))
theorem c_D_drift {xs : Nat → Int32} {L d : Nat} {a1 : Int32} {a2 : Int32} {s : S2} {res : S2 × Int32} {Q : S2 → Option MV → Prop} (h : f_D_drift a1 a2 s = some res) (hQ : Q res.1 (some (mI res.2))) : kcall (O3 xs L) (d + 6) k_D_drift [mR 10 0, mI a1, mI a2] s Q := by
  refine kc_of (cd := kd_D_drift) (mx := 3) (rt := 1) rfl rfl ?_
  intro P hP
  refine mgo_sound hP [] 260 _ _ _ _ _ ?_
  refine go_call (fun _ hw => c_D_isIsle hw) ?_
  refine go_br (fun hc : (bI (g_D_isIsle a1 s)) = 0 => ?_) (fun hc : ¬ ((bI (g_D_isIsle a1 s)) = 0) => ?_)
  · replace h := (if_pos hc).symm.trans h
    cases h
    exact hQ
  · replace h := (if_neg hc).symm.trans h
    refine go_call (fun _ hw => c_D_isWithin hw) ?_
    refine go_brn (fun hc : ¬ ((bI (g_D_isWithin a2 (Int32.ofInt 0) (Int32.ofInt 1) s)) = 0) => ?_) (fun hc : (bI (g_D_isWithin a2 (Int32.ofInt 0) (Int32.ofInt 1) s)) = 0 => ?_)
    · replace h := (if_neg hc).symm.trans h
      obtain ⟨q1, hq, h⟩ := bnd h
      refine go_call (fun _ hw => c_Course_drawByTold hq hw) ?_
      obtain ⟨q2, hq, h⟩ := bnd h
      refine go_call (fun _ hw => c_Course_goesBy hq hw) ?_
      cases h
      exact hQ
    · replace h := (if_pos hc).symm.trans h
      cases h
      exact hQ
/-! D_undercut -/
def f_D_undercut (a1 : Int32) (a2 : Int32) (s : S2) : Option (S2 × Int32) := (if (bI (g_D_areTwo a1 a2 s)) = 0 then some (s, (Int32.ofInt (-1))) else ((f_Forecast_leastCut 0 a1 a2 s).bind fun q1 => some (q1.1, q1.2)))
theorem c_D_undercut {xs : Nat → Int32} {L d : Nat} {a1 : Int32} {a2 : Int32} {s : S2} {res : S2 × Int32} {Q : S2 → Option MV → Prop} (h : f_D_undercut a1 a2 s = some res) (hQ : Q res.1 (some (mI res.2))) : kcall (O3 xs L) (d + 6) k_D_undercut [mR 10 0, mI a1, mI a2] s Q := by
  refine kc_of (cd := kd_D_undercut) (mx := 3) (rt := 1) rfl rfl ?_
  intro P hP
  refine mgo_sound hP [] 260 _ _ _ _ _ ?_
  refine go_call (fun _ hw => c_D_areTwo hw) ?_
  refine go_br (fun hc : (bI (g_D_areTwo a1 a2 s)) = 0 => ?_) (fun hc : ¬ ((bI (g_D_areTwo a1 a2 s)) = 0) => ?_)
  · replace h := (if_pos hc).symm.trans h
    cases h
    exact hQ
  · replace h := (if_neg hc).symm.trans h
    obtain ⟨q1, hq, h⟩ := bnd h
    refine go_call (fun _ hw => c_Forecast_leastCut hq hw) ?_
    cases h
    exact hQ
/-! Forecast_placeBehind -/
def b_Forecast_placeBehind_L7 (k7 : Int32 → Int32 → Int32 → Int32 → S2 → Option (S2 × Int32)) (x1 : Int32) (x2 : Int32) (x3 : Int32) (x4 : Int32) (s : S2) : Option (S2 × Int32) := (if x2 < x4 then (if x3 = (Int32.ofInt 0) then ((f_State_xOf 2 x1 s).bind fun q1 => some (s, q1)) else (if x3 = (Int32.ofInt 1) then ((f_State_yOf 2 x1 s).bind fun q2 => some (s, q2)) else ((f_State_headOf 2 x1 s).bind fun q3 => some (s, q3)))) else ((f_Course_pass 2 s).bind fun q4 => (k7 x1 x2 x3 (x4 + (Int32.ofInt 1)) q4)))
def f_Forecast_placeBehind_L7 : Nat → Int32 → Int32 → Int32 → Int32 → S2 → Option (S2 × Int32)
  | 0 => fun _ _ _ _ _ => none
  | n + 1 => b_Forecast_placeBehind_L7 (f_Forecast_placeBehind_L7 n)
def f_Forecast_placeBehind (a1 : Int32) (a2 : Int32) (a3 : Int32) (s : S2) : Option (S2 × Int32) := ((f_Forecast_begin s).bind fun q1 => (f_Forecast_placeBehind_L7 FU a1 a2 a3 (Int32.ofInt 1) q1))
theorem cb_Forecast_placeBehind_L7 {xs : Nat → Int32} {L d : Nat} {P : MK S2} {Q : S2 → Option MV → Prop} {res : S2 × Int32} (hP : MClosed (O3 xs L) (kcall (O3 xs L) (d + 5)) kd_Forecast_placeBehind 1 Q P) (hQ : Q res.1 (some (mI res.2))) {k7 : Int32 → Int32 → Int32 → Int32 → S2 → Option (S2 × Int32)} (hk7 : ∀ (x1 : Int32) (x2 : Int32) (x3 : Int32) (x4 : Int32) (s : S2), k7 x1 x2 x3 x4 s = some res → P 7 [some (mR 41 0), some (mI x1), some (mI x2), some (mI x3), some (mI x4)] [] s (0, 0)) (x1 : Int32) (x2 : Int32) (x3 : Int32) (x4 : Int32) (s : S2) (h : b_Forecast_placeBehind_L7 k7 x1 x2 x3 x4 s = some res) : P 7 [some (mR 41 0), some (mI x1), some (mI x2), some (mI x3), some (mI x4)] [] s (0, 0) := by
  refine mgo_from hP [7] 260 ?_
  refine go_br (fun hc : x2 < x4 => ?_) (fun hc : ¬ (x2 < x4) => ?_)
  · replace h := (if_pos hc).symm.trans h
    refine go_br (fun hc : x3 = (Int32.ofInt 0) => ?_) (fun hc : ¬ (x3 = (Int32.ofInt 0)) => ?_)
    · replace h := (if_pos hc).symm.trans h
      obtain ⟨q1, hq, h⟩ := bnd h
      refine go_call (fun _ hw => c_State_xOf hq hw) ?_
      cases h
      exact hQ
    · replace h := (if_neg hc).symm.trans h
      refine go_br (fun hc : x3 = (Int32.ofInt 1) => ?_) (fun hc : ¬ (x3 = (Int32.ofInt 1)) => ?_)
      · replace h := (if_pos hc).symm.trans h
        obtain ⟨q2, hq, h⟩ := bnd h
        refine go_call (fun _ hw => c_State_yOf hq hw) ?_
        cases h
        exact hQ
      · replace h := (if_neg hc).symm.trans h
        obtain ⟨q3, hq, h⟩ := bnd h
        refine go_call (fun _ hw => c_State_headOf hq hw) ?_
        cases h
        exact hQ
  · replace h := (if_neg hc).symm.trans h
    obtain ⟨q4, hq, h⟩ := bnd h
    refine go_call (fun _ hw => c_Course_pass hq hw) ?_
    exact hk7 _ _ _ _ _ h
theorem c_Forecast_placeBehind_L7 {xs : Nat → Int32} {L d : Nat} {P : MK S2} {Q : S2 → Option MV → Prop} {res : S2 × Int32} (hP : MClosed (O3 xs L) (kcall (O3 xs L) (d + 5)) kd_Forecast_placeBehind 1 Q P) (hQ : Q res.1 (some (mI res.2))) : ∀ (fu : Nat) (x1 : Int32) (x2 : Int32) (x3 : Int32) (x4 : Int32) (s : S2), f_Forecast_placeBehind_L7 fu x1 x2 x3 x4 s = some res → P 7 [some (mR 41 0), some (mI x1), some (mI x2), some (mI x3), some (mI x4)] [] s (0, 0)
  | 0, _, _, _, _, _, h => by cases h
  | fu + 1, x1, x2, x3, x4, s, h => cb_Forecast_placeBehind_L7 hP hQ (c_Forecast_placeBehind_L7 hP hQ fu) x1 x2 x3 x4 s h
theorem c_Forecast_placeBehind {xs : Nat → Int32} {L d : Nat} {a1 : Int32} {a2 : Int32} {a3 : Int32} {s : S2} {res : S2 × Int32} {Q : S2 → Option MV → Prop} (h : f_Forecast_placeBehind a1 a2 a3 s = some res) (hQ : Q res.1 (some (mI res.2))) : kcall (O3 xs L) (d + 6) k_Forecast_placeBehind [mR 41 0, mI a1, mI a2, mI a3] s Q := by
  refine kc_of (cd := kd_Forecast_placeBehind) (mx := 5) (rt := 1) rfl rfl ?_
  intro P hP
  refine mgo_sound hP [7] 260 _ _ _ _ _ ?_
  obtain ⟨q1, hq, h⟩ := bnd h
  refine go_call (fun _ hw => c_Forecast_begin hq hw) ?_
  exact c_Forecast_placeBehind_L7 hP hQ FU _ _ _ _ _ h
/-! Forecast_restsBehind -/
def b_Forecast_restsBehind_L6 (k6 : Int32 → Int32 → S2 → Option (S2 × Int32)) (x1 : Int32) (x2 : Int32) (s : S2) : Option (S2 × Int32) := (if x1 < x2 then some (s, (Int32.ofInt (-1))) else ((f_Course_pass 2 s).bind fun q1 => (if (bI (g_Course_movedNothing q1)) = 0 then (k6 x1 (x2 + (Int32.ofInt 1)) q1) else some (q1, x2))))
def f_Forecast_restsBehind_L6 : Nat → Int32 → Int32 → S2 → Option (S2 × Int32)
  | 0 => fun _ _ _ => none
  | n + 1 => b_Forecast_restsBehind_L6 (f_Forecast_restsBehind_L6 n)
def f_Forecast_restsBehind (a1 : Int32) (s : S2) : Option (S2 × Int32) := ((f_Forecast_begin s).bind fun q1 => (f_Forecast_restsBehind_L6 FU a1 (Int32.ofInt 0) q1))
theorem cb_Forecast_restsBehind_L6 {xs : Nat → Int32} {L d : Nat} {P : MK S2} {Q : S2 → Option MV → Prop} {res : S2 × Int32} (hP : MClosed (O3 xs L) (kcall (O3 xs L) (d + 5)) kd_Forecast_restsBehind 1 Q P) (hQ : Q res.1 (some (mI res.2))) {k6 : Int32 → Int32 → S2 → Option (S2 × Int32)} (hk6 : ∀ (x1 : Int32) (x2 : Int32) (s : S2), k6 x1 x2 s = some res → P 6 [some (mR 41 0), some (mI x1), some (mI x2)] [] s (0, 0)) (x1 : Int32) (x2 : Int32) (s : S2) (h : b_Forecast_restsBehind_L6 k6 x1 x2 s = some res) : P 6 [some (mR 41 0), some (mI x1), some (mI x2)] [] s (0, 0) := by
  refine mgo_from hP [6] 260 ?_
  refine go_br (fun hc : x1 < x2 => ?_) (fun hc : ¬ (x1 < x2) => ?_)
  · replace h := (if_pos hc).symm.trans h
    cases h
    exact hQ
  · replace h := (if_neg hc).symm.trans h
    obtain ⟨q1, hq, h⟩ := bnd h
    refine go_call (fun _ hw => c_Course_pass hq hw) ?_
    refine go_call (fun _ hw => c_Course_movedNothing hw) ?_
    refine go_br (fun hc : (bI (g_Course_movedNothing q1)) = 0 => ?_) (fun hc : ¬ ((bI (g_Course_movedNothing q1)) = 0) => ?_)
    · replace h := (if_pos hc).symm.trans h
      exact hk6 _ _ _ h
    · replace h := (if_neg hc).symm.trans h
      cases h
      exact hQ
theorem c_Forecast_restsBehind_L6 {xs : Nat → Int32} {L d : Nat} {P : MK S2} {Q : S2 → Option MV → Prop} {res : S2 × Int32} (hP : MClosed (O3 xs L) (kcall (O3 xs L) (d + 5)) kd_Forecast_restsBehind 1 Q P) (hQ : Q res.1 (some (mI res.2))) : ∀ (fu : Nat) (x1 : Int32) (x2 : Int32) (s : S2), f_Forecast_restsBehind_L6 fu x1 x2 s = some res → P 6 [some (mR 41 0), some (mI x1), some (mI x2)] [] s (0, 0)
  | 0, _, _, _, h => by cases h
  | fu + 1, x1, x2, s, h => cb_Forecast_restsBehind_L6 hP hQ (c_Forecast_restsBehind_L6 hP hQ fu) x1 x2 s h
theorem c_Forecast_restsBehind {xs : Nat → Int32} {L d : Nat} {a1 : Int32} {s : S2} {res : S2 × Int32} {Q : S2 → Option MV → Prop} (h : f_Forecast_restsBehind a1 s = some res) (hQ : Q res.1 (some (mI res.2))) : kcall (O3 xs L) (d + 6) k_Forecast_restsBehind [mR 41 0, mI a1] s Q := by
  refine kc_of (cd := kd_Forecast_restsBehind) (mx := 3) (rt := 1) rfl rfl ?_
  intro P hP
  refine mgo_sound hP [6] 260 _ _ _ _ _ ?_
  obtain ⟨q1, hq, h⟩ := bnd h
  refine go_call (fun _ hw => c_Forecast_begin hq hw) ?_
  exact c_Forecast_restsBehind_L6 hP hQ FU _ _ _ h
/-! Forecast_roundBehind -/
def b_Forecast_roundBehind_L35 (k11 : Int32 → Int32 → Int32 → S2 → Option (S2 × Int32)) (k35 : Int32 → Int32 → Int32 → Int32 → S2 → Option (S2 × Int32)) (x1 : Int32) (x2 : Int32) (x3 : Int32) (x4 : Int32) (s : S2) : Option (S2 × Int32) := (if x3 ≤ x4 then (k11 x1 x2 (x3 + (Int32.ofInt 1)) s) else ((f_Forecast_areAlike x4 x3 s).bind fun q1 => (if (bI q1) = 0 then (k35 x1 x2 x3 (x4 + (Int32.ofInt 1)) s) else (if x2 = 0 then some (s, x3) else some (s, (x3 - x4))))))
def f_Forecast_roundBehind_L35 (k11 : Int32 → Int32 → Int32 → S2 → Option (S2 × Int32)) : Nat → Int32 → Int32 → Int32 → Int32 → S2 → Option (S2 × Int32)
  | 0 => fun _ _ _ _ _ => none
  | n + 1 => b_Forecast_roundBehind_L35 k11 (f_Forecast_roundBehind_L35 k11 n)
def b_Forecast_roundBehind_L11 (k11 : Int32 → Int32 → Int32 → S2 → Option (S2 × Int32)) (x1 : Int32) (x2 : Int32) (x3 : Int32) (s : S2) : Option (S2 × Int32) := (if x1 < x3 then some (s, (Int32.ofInt (-1))) else ((f_Course_pass 2 s).bind fun q1 => ((f_Forecast_remember x3 q1).bind fun q2 => (f_Forecast_roundBehind_L35 k11 FU x1 x2 x3 (Int32.ofInt 0) q2))))
def f_Forecast_roundBehind_L11 : Nat → Int32 → Int32 → Int32 → S2 → Option (S2 × Int32)
  | 0 => fun _ _ _ _ => none
  | n + 1 => b_Forecast_roundBehind_L11 (f_Forecast_roundBehind_L11 n)
def f_Forecast_roundBehind (a1 : Int32) (a2 : Int32) (s : S2) : Option (S2 × Int32) := ((f_Forecast_begin s).bind fun q1 => ((f_Forecast_remember (Int32.ofInt 0) q1).bind fun q2 => (f_Forecast_roundBehind_L11 FU a1 a2 (Int32.ofInt 1) q2)))
theorem cb_Forecast_roundBehind_L35 {xs : Nat → Int32} {L d : Nat} {P : MK S2} {Q : S2 → Option MV → Prop} {res : S2 × Int32} (hP : MClosed (O3 xs L) (kcall (O3 xs L) (d + 5)) kd_Forecast_roundBehind 1 Q P) (hQ : Q res.1 (some (mI res.2))) {k11 : Int32 → Int32 → Int32 → S2 → Option (S2 × Int32)} (hk11 : ∀ (x1 : Int32) (x2 : Int32) (x3 : Int32) (x4 : Option Int32) (s : S2), k11 x1 x2 x3 s = some res → P 11 [some (mR 41 0), some (mI x1), some (mI x2), some (mI x3), oI x4] [] s (0, 0)) {k35 : Int32 → Int32 → Int32 → Int32 → S2 → Option (S2 × Int32)} (hk35 : ∀ (x1 : Int32) (x2 : Int32) (x3 : Int32) (x4 : Int32) (s : S2), k35 x1 x2 x3 x4 s = some res → P 35 [some (mR 41 0), some (mI x1), some (mI x2), some (mI x3), some (mI x4)] [] s (0, 0)) (x1 : Int32) (x2 : Int32) (x3 : Int32) (x4 : Int32) (s : S2) (h : b_Forecast_roundBehind_L35 k11 k35 x1 x2 x3 x4 s = some res) : P 35 [some (mR 41 0), some (mI x1), some (mI x2), some (mI x3), some (mI x4)] [] s (0, 0) := by
  refine mgo_from hP [11, 35] 260 ?_
  refine go_br (fun hc : x3 ≤ x4 => ?_) (fun hc : ¬ (x3 ≤ x4) => ?_)
  · replace h := (if_pos hc).symm.trans h
    exact hk11 _ _ _ (some x4) _ h
  · replace h := (if_neg hc).symm.trans h
    obtain ⟨q1, hq, h⟩ := bnd h
    refine go_call (fun _ hw => c_Forecast_areAlike hq hw) ?_
    refine go_br (fun hc : (bI q1) = 0 => ?_) (fun hc : ¬ ((bI q1) = 0) => ?_)
    · replace h := (if_pos hc).symm.trans h
      exact hk35 _ _ _ _ _ h
    · replace h := (if_neg hc).symm.trans h
      refine go_br (fun hc : x2 = 0 => ?_) (fun hc : ¬ (x2 = 0) => ?_)
      · replace h := (if_pos hc).symm.trans h
        cases h
        exact hQ
      · replace h := (if_neg hc).symm.trans h
        cases h
        exact hQ
theorem c_Forecast_roundBehind_L35 {xs : Nat → Int32} {L d : Nat} {P : MK S2} {Q : S2 → Option MV → Prop} {res : S2 × Int32} (hP : MClosed (O3 xs L) (kcall (O3 xs L) (d + 5)) kd_Forecast_roundBehind 1 Q P) (hQ : Q res.1 (some (mI res.2))) {k11 : Int32 → Int32 → Int32 → S2 → Option (S2 × Int32)} (hk11 : ∀ (x1 : Int32) (x2 : Int32) (x3 : Int32) (x4 : Option Int32) (s : S2), k11 x1 x2 x3 s = some res → P 11 [some (mR 41 0), some (mI x1), some (mI x2), some (mI x3), oI x4] [] s (0, 0)) : ∀ (fu : Nat) (x1 : Int32) (x2 : Int32) (x3 : Int32) (x4 : Int32) (s : S2), f_Forecast_roundBehind_L35 k11 fu x1 x2 x3 x4 s = some res → P 35 [some (mR 41 0), some (mI x1), some (mI x2), some (mI x3), some (mI x4)] [] s (0, 0)
  | 0, _, _, _, _, _, h => by cases h
  | fu + 1, x1, x2, x3, x4, s, h => cb_Forecast_roundBehind_L35 hP hQ hk11 (c_Forecast_roundBehind_L35 hP hQ hk11 fu) x1 x2 x3 x4 s h
theorem cb_Forecast_roundBehind_L11 {xs : Nat → Int32} {L d : Nat} {P : MK S2} {Q : S2 → Option MV → Prop} {res : S2 × Int32} (hP : MClosed (O3 xs L) (kcall (O3 xs L) (d + 5)) kd_Forecast_roundBehind 1 Q P) (hQ : Q res.1 (some (mI res.2))) {k11 : Int32 → Int32 → Int32 → S2 → Option (S2 × Int32)} (hk11 : ∀ (x1 : Int32) (x2 : Int32) (x3 : Int32) (x4 : Option Int32) (s : S2), k11 x1 x2 x3 s = some res → P 11 [some (mR 41 0), some (mI x1), some (mI x2), some (mI x3), oI x4] [] s (0, 0)) (x1 : Int32) (x2 : Int32) (x3 : Int32) (x4 : Option Int32) (s : S2) (h : b_Forecast_roundBehind_L11 k11 x1 x2 x3 s = some res) : P 11 [some (mR 41 0), some (mI x1), some (mI x2), some (mI x3), oI x4] [] s (0, 0) := by
  refine mgo_from hP [11, 35] 260 ?_
  refine go_br (fun hc : x1 < x3 => ?_) (fun hc : ¬ (x1 < x3) => ?_)
  · replace h := (if_pos hc).symm.trans h
    cases h
    exact hQ
  · replace h := (if_neg hc).symm.trans h
    obtain ⟨q1, hq, h⟩ := bnd h
    refine go_call (fun _ hw => c_Course_pass hq hw) ?_
    obtain ⟨q2, hq, h⟩ := bnd h
    refine go_call (fun _ hw => c_Forecast_remember hq hw) ?_
    exact c_Forecast_roundBehind_L35 hP hQ hk11 FU _ _ _ _ _ h
theorem c_Forecast_roundBehind_L11 {xs : Nat → Int32} {L d : Nat} {P : MK S2} {Q : S2 → Option MV → Prop} {res : S2 × Int32} (hP : MClosed (O3 xs L) (kcall (O3 xs L) (d + 5)) kd_Forecast_roundBehind 1 Q P) (hQ : Q res.1 (some (mI res.2))) : ∀ (fu : Nat) (x1 : Int32) (x2 : Int32) (x3 : Int32) (x4 : Option Int32) (s : S2), f_Forecast_roundBehind_L11 fu x1 x2 x3 s = some res → P 11 [some (mR 41 0), some (mI x1), some (mI x2), some (mI x3), oI x4] [] s (0, 0)
  | 0, _, _, _, _, _, h => by cases h
  | fu + 1, x1, x2, x3, x4, s, h => cb_Forecast_roundBehind_L11 hP hQ (c_Forecast_roundBehind_L11 hP hQ fu) x1 x2 x3 x4 s h
theorem c_Forecast_roundBehind {xs : Nat → Int32} {L d : Nat} {a1 : Int32} {a2 : Int32} {s : S2} {res : S2 × Int32} {Q : S2 → Option MV → Prop} (h : f_Forecast_roundBehind a1 a2 s = some res) (hQ : Q res.1 (some (mI res.2))) : kcall (O3 xs L) (d + 6) k_Forecast_roundBehind [mR 41 0, mI a1, mI a2] s Q := by
  refine kc_of (cd := kd_Forecast_roundBehind) (mx := 5) (rt := 1) rfl rfl ?_
  intro P hP
  refine mgo_sound hP [11, 35] 260 _ _ _ _ _ ?_
  obtain ⟨q1, hq, h⟩ := bnd h
  refine go_call (fun _ hw => c_Forecast_begin hq hw) ?_
  obtain ⟨q2, hq, h⟩ := bnd h
  refine go_call (fun _ hw => c_Forecast_remember hq hw) ?_
  exact c_Forecast_roundBehind_L11 hP hQ FU _ _ _ none _ h
/-! Forecast_oneBehind -/
def b_Forecast_oneBehind_L7 (k7 : Int32 → Int32 → Int32 → Int32 → S2 → Option (S2 × Int32)) (x1 : Int32) (x2 : Int32) (x3 : Int32) (x4 : Int32) (s : S2) : Option (S2 × Int32) := (if x3 ≤ x4 then ((f_State_headOf 2 x1 s).bind fun q1 => ((f_State_headOf 2 x2 s).bind fun q2 => (if q1 = q2 then some (s, x3) else some (s, (Int32.ofInt (-1)))))) else ((f_State_headOf 2 x1 s).bind fun q3 => ((f_State_headOf 2 x2 s).bind fun q4 => (if q3 = q4 then some (s, x4) else ((f_Course_pass 2 s).bind fun q5 => (k7 x1 x2 x3 (x4 + (Int32.ofInt 1)) q5))))))
def f_Forecast_oneBehind_L7 : Nat → Int32 → Int32 → Int32 → Int32 → S2 → Option (S2 × Int32)
  | 0 => fun _ _ _ _ _ => none
  | n + 1 => b_Forecast_oneBehind_L7 (f_Forecast_oneBehind_L7 n)
def f_Forecast_oneBehind (a1 : Int32) (a2 : Int32) (a3 : Int32) (s : S2) : Option (S2 × Int32) := ((f_Forecast_begin s).bind fun q1 => (f_Forecast_oneBehind_L7 FU a1 a2 a3 (Int32.ofInt 0) q1))
set_option maxRecDepth 20000 in
set_option maxHeartbeats 4000000 in
theorem cb_Forecast_oneBehind_L7 {xs : Nat → Int32} {L d : Nat} {P : MK S2} {Q : S2 → Option MV → Prop} {res : S2 × Int32} (hP : MClosed (O3 xs L) (kcall (O3 xs L) (d + 5)) kd_Forecast_oneBehind 1 Q P) (hQ : Q res.1 (some (mI res.2))) {k7 : Int32 → Int32 → Int32 → Int32 → S2 → Option (S2 × Int32)} (hk7 : ∀ (x1 : Int32) (x2 : Int32) (x3 : Int32) (x4 : Int32) (s : S2), k7 x1 x2 x3 x4 s = some res → P 7 [some (mR 41 0), some (mI x1), some (mI x2), some (mI x3), some (mI x4)] [] s (0, 0)) (x1 : Int32) (x2 : Int32) (x3 : Int32) (x4 : Int32) (s : S2) (h : b_Forecast_oneBehind_L7 k7 x1 x2 x3 x4 s = some res) : P 7 [some (mR 41 0), some (mI x1), some (mI x2), some (mI x3), some (mI x4)] [] s (0, 0) := by
  refine mgo_from hP [7] 260 ?_
  refine go_br (fun hc : x3 ≤ x4 => ?_) (fun hc : ¬ (x3 ≤ x4) => ?_)
  · replace h := (if_pos hc).symm.trans h
    obtain ⟨q1, hq, h⟩ := bnd h
    refine go_call (fun _ hw => c_State_headOf hq hw) ?_
    obtain ⟨q2, hq, h⟩ := bnd h
    refine go_call (fun _ hw => c_State_headOf hq hw) ?_
    refine go_brn (fun hc : ¬ (q1 = q2) => ?_) (fun hc : q1 = q2 => ?_)
    · replace h := (if_neg hc).symm.trans h
      cases h
      exact hQ
    · replace h := (if_pos hc).symm.trans h
      cases h
      exact hQ
  · replace h := (if_neg hc).symm.trans h
    obtain ⟨q3, hq, h⟩ := bnd h
    refine go_call (fun _ hw => c_State_headOf hq hw) ?_
    obtain ⟨q4, hq, h⟩ := bnd h
    refine go_call (fun _ hw => c_State_headOf hq hw) ?_
    refine go_brn (fun hc : ¬ (q3 = q4) => ?_) (fun hc : q3 = q4 => ?_)
    · replace h := (if_neg hc).symm.trans h
      obtain ⟨q5, hq, h⟩ := bnd h
      refine go_call (fun _ hw => c_Course_pass hq hw) ?_
      exact hk7 _ _ _ _ _ h
    · replace h := (if_pos hc).symm.trans h
      cases h
      exact hQ
theorem c_Forecast_oneBehind_L7 {xs : Nat → Int32} {L d : Nat} {P : MK S2} {Q : S2 → Option MV → Prop} {res : S2 × Int32} (hP : MClosed (O3 xs L) (kcall (O3 xs L) (d + 5)) kd_Forecast_oneBehind 1 Q P) (hQ : Q res.1 (some (mI res.2))) : ∀ (fu : Nat) (x1 : Int32) (x2 : Int32) (x3 : Int32) (x4 : Int32) (s : S2), f_Forecast_oneBehind_L7 fu x1 x2 x3 x4 s = some res → P 7 [some (mR 41 0), some (mI x1), some (mI x2), some (mI x3), some (mI x4)] [] s (0, 0)
  | 0, _, _, _, _, _, h => by cases h
  | fu + 1, x1, x2, x3, x4, s, h => cb_Forecast_oneBehind_L7 hP hQ (c_Forecast_oneBehind_L7 hP hQ fu) x1 x2 x3 x4 s h
theorem c_Forecast_oneBehind {xs : Nat → Int32} {L d : Nat} {a1 : Int32} {a2 : Int32} {a3 : Int32} {s : S2} {res : S2 × Int32} {Q : S2 → Option MV → Prop} (h : f_Forecast_oneBehind a1 a2 a3 s = some res) (hQ : Q res.1 (some (mI res.2))) : kcall (O3 xs L) (d + 6) k_Forecast_oneBehind [mR 41 0, mI a1, mI a2, mI a3] s Q := by
  refine kc_of (cd := kd_Forecast_oneBehind) (mx := 5) (rt := 1) rfl rfl ?_
  intro P hP
  refine mgo_sound hP [7] 260 _ _ _ _ _ ?_
  obtain ⟨q1, hq, h⟩ := bnd h
  refine go_call (fun _ hw => c_Forecast_begin hq hw) ?_
  exact c_Forecast_oneBehind_L7 hP hQ FU _ _ _ _ _ h
/-! Forecast_leastApart -/
def f_Forecast_leastApart_L67 (k21 : Int32 → Int32 → Int32 → Int32 → Int32 → Int32 → Int32 → S2 → Option (S2 × Int32)) (x1 : Int32) (x2 : Int32) (x3 : Int32) (x4 : Int32) (x5 : Int32) (x6 : Int32) (x7 : Int32) (s : S2) : Option (S2 × Int32) := (k21 x1 x2 x3 x4 x5 x6 (x7 + (Int32.ofInt 1)) s)
def b_Forecast_leastApart_L21 (k21 : Int32 → Int32 → Int32 → Int32 → Int32 → Int32 → Int32 → S2 → Option (S2 × Int32)) (x1 : Int32) (x2 : Int32) (x3 : Int32) (x4 : Int32) (x5 : Int32) (x6 : Int32) (x7 : Int32) (s : S2) : Option (S2 × Int32) := (if x3 < x7 then (if x4 = 0 then some (s, x5) else some (s, x6)) else ((f_Course_pass 2 s).bind fun q1 => ((f_State_apart 2 x1 x2 q1).bind fun q2 => (if x5 ≤ q2 then (f_Forecast_leastApart_L67 k21 x1 x2 x3 x4 x5 x6 x7 q1) else ((f_State_apart 2 x1 x2 q1).bind fun q3 => (f_Forecast_leastApart_L67 k21 x1 x2 x3 x4 q3 x7 x7 q1))))))
def f_Forecast_leastApart_L21 : Nat → Int32 → Int32 → Int32 → Int32 → Int32 → Int32 → Int32 → S2 → Option (S2 × Int32)
  | 0 => fun _ _ _ _ _ _ _ _ => none
  | n + 1 => b_Forecast_leastApart_L21 (f_Forecast_leastApart_L21 n)
def f_Forecast_leastApart (a1 : Int32) (a2 : Int32) (a3 : Int32) (a4 : Int32) (s : S2) : Option (S2 × Int32) := ((f_Forecast_begin s).bind fun q1 => ((f_State_apart 2 a1 a2 q1).bind fun q2 => (f_Forecast_leastApart_L21 FU a1 a2 a3 a4 q2 (Int32.ofInt 0) (Int32.ofInt 1) q1)))
theorem c_Forecast_leastApart_L67 {xs : Nat → Int32} {L d : Nat} {P : MK S2} {Q : S2 → Option MV → Prop} {res : S2 × Int32} (hP : MClosed (O3 xs L) (kcall (O3 xs L) (d + 5)) kd_Forecast_leastApart 1 Q P) (hQ : Q res.1 (some (mI res.2))) {k21 : Int32 → Int32 → Int32 → Int32 → Int32 → Int32 → Int32 → S2 → Option (S2 × Int32)} (hk21 : ∀ (x1 : Int32) (x2 : Int32) (x3 : Int32) (x4 : Int32) (x5 : Int32) (x6 : Int32) (x7 : Int32) (s : S2), k21 x1 x2 x3 x4 x5 x6 x7 s = some res → P 21 [some (mR 41 0), some (mI x1), some (mI x2), some (mI x3), some (mI x4), some (mI x5), some (mI x6), some (mI x7)] [] s (0, 0)) (x1 : Int32) (x2 : Int32) (x3 : Int32) (x4 : Int32) (x5 : Int32) (x6 : Int32) (x7 : Int32) (s : S2) (h : f_Forecast_leastApart_L67 k21 x1 x2 x3 x4 x5 x6 x7 s = some res) : P 67 [some (mR 41 0), some (mI x1), some (mI x2), some (mI x3), some (mI x4), some (mI x5), some (mI x6), some (mI x7)] [] s (0, 0) := by
  refine mgo_from hP [21, 67] 260 ?_
  exact hk21 _ _ _ _ _ _ _ _ h
theorem cb_Forecast_leastApart_L21 {xs : Nat → Int32} {L d : Nat} {P : MK S2} {Q : S2 → Option MV → Prop} {res : S2 × Int32} (hP : MClosed (O3 xs L) (kcall (O3 xs L) (d + 5)) kd_Forecast_leastApart 1 Q P) (hQ : Q res.1 (some (mI res.2))) {k21 : Int32 → Int32 → Int32 → Int32 → Int32 → Int32 → Int32 → S2 → Option (S2 × Int32)} (hk21 : ∀ (x1 : Int32) (x2 : Int32) (x3 : Int32) (x4 : Int32) (x5 : Int32) (x6 : Int32) (x7 : Int32) (s : S2), k21 x1 x2 x3 x4 x5 x6 x7 s = some res → P 21 [some (mR 41 0), some (mI x1), some (mI x2), some (mI x3), some (mI x4), some (mI x5), some (mI x6), some (mI x7)] [] s (0, 0)) (x1 : Int32) (x2 : Int32) (x3 : Int32) (x4 : Int32) (x5 : Int32) (x6 : Int32) (x7 : Int32) (s : S2) (h : b_Forecast_leastApart_L21 k21 x1 x2 x3 x4 x5 x6 x7 s = some res) : P 21 [some (mR 41 0), some (mI x1), some (mI x2), some (mI x3), some (mI x4), some (mI x5), some (mI x6), some (mI x7)] [] s (0, 0) := by
  refine mgo_from hP [21, 67] 260 ?_
  refine go_br (fun hc : x3 < x7 => ?_) (fun hc : ¬ (x3 < x7) => ?_)
  · replace h := (if_pos hc).symm.trans h
    refine go_br (fun hc : x4 = 0 => ?_) (fun hc : ¬ (x4 = 0) => ?_)
    · replace h := (if_pos hc).symm.trans h
      cases h
      exact hQ
    · replace h := (if_neg hc).symm.trans h
      cases h
      exact hQ
  · replace h := (if_neg hc).symm.trans h
    obtain ⟨q1, hq, h⟩ := bnd h
    refine go_call (fun _ hw => c_Course_pass hq hw) ?_
    obtain ⟨q2, hq, h⟩ := bnd h
    refine go_call (fun _ hw => c_State_apart hq hw) ?_
    refine go_br (fun hc : x5 ≤ q2 => ?_) (fun hc : ¬ (x5 ≤ q2) => ?_)
    · replace h := (if_pos hc).symm.trans h
      exact c_Forecast_leastApart_L67 hP hQ hk21 _ _ _ _ _ _ _ _ h
    · replace h := (if_neg hc).symm.trans h
      obtain ⟨q3, hq, h⟩ := bnd h
      refine go_call (fun _ hw => c_State_apart hq hw) ?_
      exact c_Forecast_leastApart_L67 hP hQ hk21 _ _ _ _ _ _ _ _ h
theorem c_Forecast_leastApart_L21 {xs : Nat → Int32} {L d : Nat} {P : MK S2} {Q : S2 → Option MV → Prop} {res : S2 × Int32} (hP : MClosed (O3 xs L) (kcall (O3 xs L) (d + 5)) kd_Forecast_leastApart 1 Q P) (hQ : Q res.1 (some (mI res.2))) : ∀ (fu : Nat) (x1 : Int32) (x2 : Int32) (x3 : Int32) (x4 : Int32) (x5 : Int32) (x6 : Int32) (x7 : Int32) (s : S2), f_Forecast_leastApart_L21 fu x1 x2 x3 x4 x5 x6 x7 s = some res → P 21 [some (mR 41 0), some (mI x1), some (mI x2), some (mI x3), some (mI x4), some (mI x5), some (mI x6), some (mI x7)] [] s (0, 0)
  | 0, _, _, _, _, _, _, _, _, h => by cases h
  | fu + 1, x1, x2, x3, x4, x5, x6, x7, s, h => cb_Forecast_leastApart_L21 hP hQ (c_Forecast_leastApart_L21 hP hQ fu) x1 x2 x3 x4 x5 x6 x7 s h
theorem c_Forecast_leastApart {xs : Nat → Int32} {L d : Nat} {a1 : Int32} {a2 : Int32} {a3 : Int32} {a4 : Int32} {s : S2} {res : S2 × Int32} {Q : S2 → Option MV → Prop} (h : f_Forecast_leastApart a1 a2 a3 a4 s = some res) (hQ : Q res.1 (some (mI res.2))) : kcall (O3 xs L) (d + 6) k_Forecast_leastApart [mR 41 0, mI a1, mI a2, mI a3, mI a4] s Q := by
  refine kc_of (cd := kd_Forecast_leastApart) (mx := 8) (rt := 1) rfl rfl ?_
  intro P hP
  refine mgo_sound hP [21, 67] 260 _ _ _ _ _ ?_
  obtain ⟨q1, hq, h⟩ := bnd h
  refine go_call (fun _ hw => c_Forecast_begin hq hw) ?_
  obtain ⟨q2, hq, h⟩ := bnd h
  refine go_call (fun _ hw => c_State_apart hq hw) ?_
  exact c_Forecast_leastApart_L21 hP hQ FU _ _ _ _ _ _ _ _ h
/-! Forecast_snappedBehind -/
def b_Forecast_snappedBehind_L6 (k6 : Int32 → Int32 → S2 → Option (S2 × Int32)) (x1 : Int32) (x2 : Int32) (s : S2) : Option (S2 × Int32) := (if (Int32.ofInt 60) ≤ x2 then ((f_State_stands 2 x1 s).bind fun q1 => (if (bI q1) = 0 then some (s, (Int32.ofInt 60)) else some (s, (Int32.ofInt (-1))))) else ((f_State_stands 2 x1 s).bind fun q2 => (if (bI q2) = 0 then some (s, x2) else ((f_Course_pass 2 s).bind fun q3 => (k6 x1 (x2 + (Int32.ofInt 1)) q3)))))
def f_Forecast_snappedBehind_L6 : Nat → Int32 → Int32 → S2 → Option (S2 × Int32)
  | 0 => fun _ _ _ => none
  | n + 1 => b_Forecast_snappedBehind_L6 (f_Forecast_snappedBehind_L6 n)
def f_Forecast_snappedBehind (a1 : Int32) (s : S2) : Option (S2 × Int32) := ((f_Forecast_begin s).bind fun q1 => (f_Forecast_snappedBehind_L6 FU a1 (Int32.ofInt 0) q1))
theorem cb_Forecast_snappedBehind_L6 {xs : Nat → Int32} {L d : Nat} {P : MK S2} {Q : S2 → Option MV → Prop} {res : S2 × Int32} (hP : MClosed (O3 xs L) (kcall (O3 xs L) (d + 5)) kd_Forecast_snappedBehind 1 Q P) (hQ : Q res.1 (some (mI res.2))) {k6 : Int32 → Int32 → S2 → Option (S2 × Int32)} (hk6 : ∀ (x1 : Int32) (x2 : Int32) (s : S2), k6 x1 x2 s = some res → P 6 [some (mR 41 0), some (mI x1), some (mI x2)] [] s (0, 0)) (x1 : Int32) (x2 : Int32) (s : S2) (h : b_Forecast_snappedBehind_L6 k6 x1 x2 s = some res) : P 6 [some (mR 41 0), some (mI x1), some (mI x2)] [] s (0, 0) := by
  refine mgo_from hP [6] 260 ?_
  refine go_br (fun hc : (Int32.ofInt 60) ≤ x2 => ?_) (fun hc : ¬ ((Int32.ofInt 60) ≤ x2) => ?_)
  · replace h := (if_pos hc).symm.trans h
    obtain ⟨q1, hq, h⟩ := bnd h
    refine go_call (fun _ hw => c_State_stands hq hw) ?_
    refine go_br (fun hc : (bI q1) = 0 => ?_) (fun hc : ¬ ((bI q1) = 0) => ?_)
    · replace h := (if_pos hc).symm.trans h
      cases h
      exact hQ
    · replace h := (if_neg hc).symm.trans h
      cases h
      exact hQ
  · replace h := (if_neg hc).symm.trans h
    obtain ⟨q2, hq, h⟩ := bnd h
    refine go_call (fun _ hw => c_State_stands hq hw) ?_
    refine go_brn (fun hc : ¬ ((bI q2) = 0) => ?_) (fun hc : (bI q2) = 0 => ?_)
    · replace h := (if_neg hc).symm.trans h
      obtain ⟨q3, hq, h⟩ := bnd h
      refine go_call (fun _ hw => c_Course_pass hq hw) ?_
      exact hk6 _ _ _ h
    · replace h := (if_pos hc).symm.trans h
      cases h
      exact hQ
theorem c_Forecast_snappedBehind_L6 {xs : Nat → Int32} {L d : Nat} {P : MK S2} {Q : S2 → Option MV → Prop} {res : S2 × Int32} (hP : MClosed (O3 xs L) (kcall (O3 xs L) (d + 5)) kd_Forecast_snappedBehind 1 Q P) (hQ : Q res.1 (some (mI res.2))) : ∀ (fu : Nat) (x1 : Int32) (x2 : Int32) (s : S2), f_Forecast_snappedBehind_L6 fu x1 x2 s = some res → P 6 [some (mR 41 0), some (mI x1), some (mI x2)] [] s (0, 0)
  | 0, _, _, _, h => by cases h
  | fu + 1, x1, x2, s, h => cb_Forecast_snappedBehind_L6 hP hQ (c_Forecast_snappedBehind_L6 hP hQ fu) x1 x2 s h
theorem c_Forecast_snappedBehind {xs : Nat → Int32} {L d : Nat} {a1 : Int32} {s : S2} {res : S2 × Int32} {Q : S2 → Option MV → Prop} (h : f_Forecast_snappedBehind a1 s = some res) (hQ : Q res.1 (some (mI res.2))) : kcall (O3 xs L) (d + 6) k_Forecast_snappedBehind [mR 41 0, mI a1] s Q := by
  refine kc_of (cd := kd_Forecast_snappedBehind) (mx := 3) (rt := 1) rfl rfl ?_
  intro P hP
  refine mgo_sound hP [6] 260 _ _ _ _ _ ?_
  obtain ⟨q1, hq, h⟩ := bnd h
  refine go_call (fun _ hw => c_Forecast_begin hq hw) ?_
  exact c_Forecast_snappedBehind_L6 hP hQ FU _ _ _ h
/-! Forecast_recordWay -/
def b_Forecast_recordWay_L6 (k6 : Int32 → Int32 → Int32 → S2 → Option S2) (x1 : Int32) (x2 : Int32) (x3 : Int32) (s : S2) : Option S2 := (if x2 < x3 then some s else ((f_Course_pass 2 s).bind fun q1 => ((f_State_xOf 2 x1 q1).bind fun q2 => ((ix 61 x3).bind fun j4 => (some (pkS q1 43 0 j4 q2)).bind fun s3 => ((f_State_yOf 2 x1 s3).bind fun q5 => ((ix 61 x3).bind fun j7 => (some (pkS s3 44 0 j7 q5)).bind fun s6 => (k6 x1 x2 (x3 + (Int32.ofInt 1)) s6)))))))
def f_Forecast_recordWay_L6 : Nat → Int32 → Int32 → Int32 → S2 → Option S2
  | 0 => fun _ _ _ _ => none
  | n + 1 => b_Forecast_recordWay_L6 (f_Forecast_recordWay_L6 n)
def f_Forecast_recordWay (a1 : Int32) (a2 : Int32) (s : S2) : Option S2 := ((f_Forecast_begin s).bind fun q1 => (f_Forecast_recordWay_L6 FU a1 a2 (Int32.ofInt 1) q1))
theorem cb_Forecast_recordWay_L6 {xs : Nat → Int32} {L d : Nat} {P : MK S2} {Q : S2 → Option MV → Prop} {res : S2} (hP : MClosed (O3 xs L) (kcall (O3 xs L) (d + 5)) kd_Forecast_recordWay 0 Q P) (hQ : Q res none) {k6 : Int32 → Int32 → Int32 → S2 → Option S2} (hk6 : ∀ (x1 : Int32) (x2 : Int32) (x3 : Int32) (s : S2), k6 x1 x2 x3 s = some res → P 6 [some (mR 41 0), some (mI x1), some (mI x2), some (mI x3)] [] s (0, 0)) (x1 : Int32) (x2 : Int32) (x3 : Int32) (s : S2) (h : b_Forecast_recordWay_L6 k6 x1 x2 x3 s = some res) : P 6 [some (mR 41 0), some (mI x1), some (mI x2), some (mI x3)] [] s (0, 0) := by
  refine mgo_from hP [6] 260 ?_
  refine go_br (fun hc : x2 < x3 => ?_) (fun hc : ¬ (x2 < x3) => ?_)
  · replace h := (if_pos hc).symm.trans h
    cases h
    exact hQ
  · replace h := (if_neg hc).symm.trans h
    obtain ⟨q1, hq, h⟩ := bnd h
    refine go_call (fun _ hw => c_Course_pass hq hw) ?_
    obtain ⟨q2, hq, h⟩ := bnd h
    refine go_call (fun _ hw => c_State_xOf hq hw) ?_
    obtain ⟨j4, hj, h⟩ := bnd h
    replace h := bnds h
    refine go_ix j4 (ix_lt hj) (ix_eq hj) ?_
    obtain ⟨q5, hq, h⟩ := bnd h
    refine go_call (fun _ hw => c_State_yOf hq hw) ?_
    obtain ⟨j7, hj, h⟩ := bnd h
    replace h := bnds h
    refine go_ix j7 (ix_lt hj) (ix_eq hj) ?_
    exact hk6 _ _ _ _ h
theorem c_Forecast_recordWay_L6 {xs : Nat → Int32} {L d : Nat} {P : MK S2} {Q : S2 → Option MV → Prop} {res : S2} (hP : MClosed (O3 xs L) (kcall (O3 xs L) (d + 5)) kd_Forecast_recordWay 0 Q P) (hQ : Q res none) : ∀ (fu : Nat) (x1 : Int32) (x2 : Int32) (x3 : Int32) (s : S2), f_Forecast_recordWay_L6 fu x1 x2 x3 s = some res → P 6 [some (mR 41 0), some (mI x1), some (mI x2), some (mI x3)] [] s (0, 0)
  | 0, _, _, _, _, h => by cases h
  | fu + 1, x1, x2, x3, s, h => cb_Forecast_recordWay_L6 hP hQ (c_Forecast_recordWay_L6 hP hQ fu) x1 x2 x3 s h
theorem c_Forecast_recordWay {xs : Nat → Int32} {L d : Nat} {a1 : Int32} {a2 : Int32} {s : S2} {res : S2} {Q : S2 → Option MV → Prop} (h : f_Forecast_recordWay a1 a2 s = some res) (hQ : Q res none) : kcall (O3 xs L) (d + 6) k_Forecast_recordWay [mR 41 0, mI a1, mI a2] s Q := by
  refine kc_of (cd := kd_Forecast_recordWay) (mx := 4) (rt := 0) rfl rfl ?_
  intro P hP
  refine mgo_sound hP [6] 260 _ _ _ _ _ ?_
  obtain ⟨q1, hq, h⟩ := bnd h
  refine go_call (fun _ hw => c_Forecast_begin hq hw) ?_
  exact c_Forecast_recordWay_L6 hP hQ FU _ _ _ _ h
/-! Forecast_leastSpeed -/
def b_Forecast_leastSpeed_L9 (k9 : Int32 → Int32 → Int32 → S2 → Option (S2 × Int32)) (x1 : Int32) (x3 : Int32) (x4 : Int32) (s : S2) : Option (S2 × Int32) := (if (Int32.ofInt 99) < x4 then some (s, (Int32.ofInt (-1))) else ((f_Forecast_thereBehind x1 x4 x3 s).bind fun q1 => (if q1.2 = (Int32.ofInt (-1)) then (k9 x1 x3 (x4 + (Int32.ofInt 1)) q1.1) else some (q1.1, x4))))
def f_Forecast_leastSpeed_L9 : Nat → Int32 → Int32 → Int32 → S2 → Option (S2 × Int32)
  | 0 => fun _ _ _ _ => none
  | n + 1 => b_Forecast_leastSpeed_L9 (f_Forecast_leastSpeed_L9 n)
def f_Forecast_leastSpeed (a1 : Int32) (a2 : Int32) (a3 : Int32) (s : S2) : Option (S2 × Int32) := ((f_Forecast_recordWay a2 a3 s).bind fun q1 => (f_Forecast_leastSpeed_L9 FU a1 a3 (Int32.ofInt 1) q1))
theorem cb_Forecast_leastSpeed_L9 {xs : Nat → Int32} {L d : Nat} {P : MK S2} {Q : S2 → Option MV → Prop} {res : S2 × Int32} (hP : MClosed (O3 xs L) (kcall (O3 xs L) (d + 6)) kd_Forecast_leastSpeed 1 Q P) (hQ : Q res.1 (some (mI res.2))) {k9 : Int32 → Int32 → Int32 → S2 → Option (S2 × Int32)} (hk9 : ∀ (x1 : Int32) (x3 : Int32) (x4 : Int32) (x2 : Int32) (s : S2), k9 x1 x3 x4 s = some res → P 9 [some (mR 41 0), some (mI x1), some (mI x2), some (mI x3), some (mI x4)] [] s (0, 0)) (x1 : Int32) (x3 : Int32) (x4 : Int32) (x2 : Int32) (s : S2) (h : b_Forecast_leastSpeed_L9 k9 x1 x3 x4 s = some res) : P 9 [some (mR 41 0), some (mI x1), some (mI x2), some (mI x3), some (mI x4)] [] s (0, 0) := by
  refine mgo_from hP [9] 260 ?_
  refine go_br (fun hc : (Int32.ofInt 99) < x4 => ?_) (fun hc : ¬ ((Int32.ofInt 99) < x4) => ?_)
  · replace h := (if_pos hc).symm.trans h
    cases h
    exact hQ
  · replace h := (if_neg hc).symm.trans h
    obtain ⟨q1, hq, h⟩ := bnd h
    refine go_call (fun _ hw => c_Forecast_thereBehind hq hw) ?_
    refine go_br (fun hc : q1.2 = (Int32.ofInt (-1)) => ?_) (fun hc : ¬ (q1.2 = (Int32.ofInt (-1))) => ?_)
    · replace h := (if_pos hc).symm.trans h
      exact hk9 _ _ _ _ _ h
    · replace h := (if_neg hc).symm.trans h
      cases h
      exact hQ
theorem c_Forecast_leastSpeed_L9 {xs : Nat → Int32} {L d : Nat} {P : MK S2} {Q : S2 → Option MV → Prop} {res : S2 × Int32} (hP : MClosed (O3 xs L) (kcall (O3 xs L) (d + 6)) kd_Forecast_leastSpeed 1 Q P) (hQ : Q res.1 (some (mI res.2))) : ∀ (fu : Nat) (x1 : Int32) (x3 : Int32) (x4 : Int32) (x2 : Int32) (s : S2), f_Forecast_leastSpeed_L9 fu x1 x3 x4 s = some res → P 9 [some (mR 41 0), some (mI x1), some (mI x2), some (mI x3), some (mI x4)] [] s (0, 0)
  | 0, _, _, _, _, _, h => by cases h
  | fu + 1, x1, x3, x4, x2, s, h => cb_Forecast_leastSpeed_L9 hP hQ (c_Forecast_leastSpeed_L9 hP hQ fu) x1 x3 x4 x2 s h
theorem c_Forecast_leastSpeed {xs : Nat → Int32} {L d : Nat} {a1 : Int32} {a2 : Int32} {a3 : Int32} {s : S2} {res : S2 × Int32} {Q : S2 → Option MV → Prop} (h : f_Forecast_leastSpeed a1 a2 a3 s = some res) (hQ : Q res.1 (some (mI res.2))) : kcall (O3 xs L) (d + 7) k_Forecast_leastSpeed [mR 41 0, mI a1, mI a2, mI a3] s Q := by
  refine kc_of (cd := kd_Forecast_leastSpeed) (mx := 5) (rt := 1) rfl rfl ?_
  intro P hP
  refine mgo_sound hP [9] 260 _ _ _ _ _ ?_
  obtain ⟨q1, hq, h⟩ := bnd h
  refine go_call (fun _ hw => c_Forecast_recordWay hq hw) ?_
  exact c_Forecast_leastSpeed_L9 hP hQ FU _ _ _ _ _ h
/-! Deals_bringsTogether -/
def b_Deals_bringsTogether_L70 (k70 : Int32 → S2 → Option (S2 × Bool)) (x1 : Int32) (s : S2) : Option (S2 × Bool) := (if (s.1 45 0 13) ≤ x1 then ((f_State_apart 3 (s.1 45 0 9) (s.1 45 0 10) s).bind fun q1 => (if (s.1 45 0 12) < q1 then some (s, false) else some (s, true))) else ((f_Course_pass 3 s).bind fun q2 => (k70 (x1 + (Int32.ofInt 1)) q2)))
def f_Deals_bringsTogether_L70 : Nat → Int32 → S2 → Option (S2 × Bool)
  | 0 => fun _ _ => none
  | n + 1 => b_Deals_bringsTogether_L70 (f_Deals_bringsTogether_L70 n)
def b_Deals_bringsTogether_L20 (k20 : Int32 → S2 → Option (S2 × Bool)) (x1 : Int32) (s : S2) : Option (S2 × Bool) := (if (s.1 45 0 8) ≤ x1 then (f_Deals_bringsTogether_L70 FU (Int32.ofInt 0) s) else ((ix 3 x1).bind fun j1 => ((ix 15 (s.1 48 0 j1)).bind fun j2 => ((ix 3 x1).bind fun j3 => ((ix 15 (s.1 48 0 j3)).bind fun j4 => ((f_Course_addTie (s.1 46 0 j2) (s.1 47 0 j4) (Int32.ofInt 0) (s.1 45 0 14) s).bind fun q5 => (k20 (x1 + (Int32.ofInt 1)) q5)))))))
def f_Deals_bringsTogether_L20 : Nat → Int32 → S2 → Option (S2 × Bool)
  | 0 => fun _ _ => none
  | n + 1 => b_Deals_bringsTogether_L20 (f_Deals_bringsTogether_L20 n)
def f_Deals_bringsTogether (s : S2) : Option (S2 × Bool) := ((f_State_copy 3 0 s).bind fun q1 => ((f_Course_drawByTold q1).bind fun q2 => (f_Deals_bringsTogether_L20 FU (Int32.ofInt 0) q2)))
theorem cb_Deals_bringsTogether_L70 {xs : Nat → Int32} {L d : Nat} {P : MK S2} {Q : S2 → Option MV → Prop} {res : S2 × Bool} (hP : MClosed (O3 xs L) (kcall (O3 xs L) (d + 5)) kd_Deals_bringsTogether 2 Q P) (hQ : Q res.1 (some (mI (bI res.2)))) {k70 : Int32 → S2 → Option (S2 × Bool)} (hk70 : ∀ (x1 : Int32) (s : S2), k70 x1 s = some res → P 70 [some (mR 45 0), some (mI x1)] [] s (0, 0)) (x1 : Int32) (s : S2) (h : b_Deals_bringsTogether_L70 k70 x1 s = some res) : P 70 [some (mR 45 0), some (mI x1)] [] s (0, 0) := by
  refine mgo_from hP [20, 70] 260 ?_
  refine go_br (fun hc : (s.1 45 0 13) ≤ x1 => ?_) (fun hc : ¬ ((s.1 45 0 13) ≤ x1) => ?_)
  · replace h := (if_pos hc).symm.trans h
    obtain ⟨q1, hq, h⟩ := bnd h
    refine go_call (fun _ hw => c_State_apart hq hw) ?_
    refine go_br (fun hc : (s.1 45 0 12) < q1 => ?_) (fun hc : ¬ ((s.1 45 0 12) < q1) => ?_)
    · replace h := (if_pos hc).symm.trans h
      cases h
      exact ⟨Or.inl rfl, hQ⟩
    · replace h := (if_neg hc).symm.trans h
      cases h
      exact ⟨Or.inr rfl, hQ⟩
  · replace h := (if_neg hc).symm.trans h
    obtain ⟨q2, hq, h⟩ := bnd h
    refine go_call (fun _ hw => c_Course_pass hq hw) ?_
    exact hk70 _ _ h
theorem c_Deals_bringsTogether_L70 {xs : Nat → Int32} {L d : Nat} {P : MK S2} {Q : S2 → Option MV → Prop} {res : S2 × Bool} (hP : MClosed (O3 xs L) (kcall (O3 xs L) (d + 5)) kd_Deals_bringsTogether 2 Q P) (hQ : Q res.1 (some (mI (bI res.2)))) : ∀ (fu : Nat) (x1 : Int32) (s : S2), f_Deals_bringsTogether_L70 fu x1 s = some res → P 70 [some (mR 45 0), some (mI x1)] [] s (0, 0)
  | 0, _, _, h => by cases h
  | fu + 1, x1, s, h => cb_Deals_bringsTogether_L70 hP hQ (c_Deals_bringsTogether_L70 hP hQ fu) x1 s h
theorem cb_Deals_bringsTogether_L20 {xs : Nat → Int32} {L d : Nat} {P : MK S2} {Q : S2 → Option MV → Prop} {res : S2 × Bool} (hP : MClosed (O3 xs L) (kcall (O3 xs L) (d + 5)) kd_Deals_bringsTogether 2 Q P) (hQ : Q res.1 (some (mI (bI res.2)))) {k20 : Int32 → S2 → Option (S2 × Bool)} (hk20 : ∀ (x1 : Int32) (s : S2), k20 x1 s = some res → P 20 [some (mR 45 0), some (mI x1)] [] s (0, 0)) (x1 : Int32) (s : S2) (h : b_Deals_bringsTogether_L20 k20 x1 s = some res) : P 20 [some (mR 45 0), some (mI x1)] [] s (0, 0) := by
  refine mgo_from hP [20, 70] 260 ?_
  refine go_br (fun hc : (s.1 45 0 8) ≤ x1 => ?_) (fun hc : ¬ ((s.1 45 0 8) ≤ x1) => ?_)
  · replace h := (if_pos hc).symm.trans h
    exact c_Deals_bringsTogether_L70 hP hQ FU _ _ h
  · replace h := (if_neg hc).symm.trans h
    obtain ⟨j1, hj, h⟩ := bnd h
    refine go_ix j1 (ix_lt hj) (ix_eq hj) ?_
    obtain ⟨j2, hj, h⟩ := bnd h
    refine go_ix j2 (ix_lt hj) (ix_eq hj) ?_
    obtain ⟨j3, hj, h⟩ := bnd h
    refine go_ix j3 (ix_lt hj) (ix_eq hj) ?_
    obtain ⟨j4, hj, h⟩ := bnd h
    refine go_ix j4 (ix_lt hj) (ix_eq hj) ?_
    obtain ⟨q5, hq, h⟩ := bnd h
    refine go_call (fun _ hw => c_Course_addTie hq hw) ?_
    exact hk20 _ _ h
theorem c_Deals_bringsTogether_L20 {xs : Nat → Int32} {L d : Nat} {P : MK S2} {Q : S2 → Option MV → Prop} {res : S2 × Bool} (hP : MClosed (O3 xs L) (kcall (O3 xs L) (d + 5)) kd_Deals_bringsTogether 2 Q P) (hQ : Q res.1 (some (mI (bI res.2)))) : ∀ (fu : Nat) (x1 : Int32) (s : S2), f_Deals_bringsTogether_L20 fu x1 s = some res → P 20 [some (mR 45 0), some (mI x1)] [] s (0, 0)
  | 0, _, _, h => by cases h
  | fu + 1, x1, s, h => cb_Deals_bringsTogether_L20 hP hQ (c_Deals_bringsTogether_L20 hP hQ fu) x1 s h
theorem c_Deals_bringsTogether {xs : Nat → Int32} {L d : Nat} {s : S2} {res : S2 × Bool} {Q : S2 → Option MV → Prop} (h : f_Deals_bringsTogether s = some res) (hQ : Q res.1 (some (mI (bI res.2)))) : kcall (O3 xs L) (d + 6) k_Deals_bringsTogether [mR 45 0] s Q := by
  refine kc_of (cd := kd_Deals_bringsTogether) (mx := 2) (rt := 2) rfl rfl ?_
  intro P hP
  refine mgo_sound hP [20, 70] 260 _ _ _ _ _ ?_
  obtain ⟨q1, hq, h⟩ := bnd h
  refine go_call (fun _ hw => c_State_copy hq hw) ?_
  obtain ⟨q2, hq, h⟩ := bnd h
  refine go_call (fun _ hw => c_Course_drawByTold hq hw) ?_
  exact c_Deals_bringsTogether_L20 hP hQ FU _ _ h
/-! Deals_keepsBetween -/
def f_Deals_keepsBetween_L61 (k15 : Int32 → Int32 → S2 → Option (S2 × Bool)) (x1 : Int32) (x3 : Int32) (s : S2) : Option (S2 × Bool) := ((f_Course_pass 3 s).bind fun q1 => ((f_State_apart 3 (q1.1 45 0 9) (q1.1 45 0 10) q1).bind fun q2 => (if (bI (g_D_isWithin q2 (q1.1 45 0 11) (q1.1 45 0 12) q1)) = 0 then some (q1, false) else (k15 x1 (x3 / (Int32.ofInt 3)) q1))))
def b_Deals_keepsBetween_L15 (k15 : Int32 → Int32 → S2 → Option (S2 × Bool)) (x1 : Int32) (x3 : Int32) (s : S2) : Option (S2 × Bool) := (if x3 ≤ 0 then some (s, true) else (if x3 = 0 then none else ((f_Course_drawByTold s).bind fun q1 => (if (jrem (x1 / x3) (Int32.ofInt 3)) ≤ 0 then (f_Deals_keepsBetween_L61 k15 x1 x3 q1) else ((f_Course_addTie (q1.1 45 0 9) (q1.1 45 0 10) ((jrem (x1 / x3) (Int32.ofInt 3)) - (Int32.ofInt 1)) (q1.1 45 0 14) q1).bind fun q2 => (f_Deals_keepsBetween_L61 k15 x1 x3 q2))))))
def f_Deals_keepsBetween_L15 : Nat → Int32 → Int32 → S2 → Option (S2 × Bool)
  | 0 => fun _ _ _ => none
  | n + 1 => b_Deals_keepsBetween_L15 (f_Deals_keepsBetween_L15 n)
def f_Deals_keepsBetween (a1 : Int32) (a2 : Int32) (s : S2) : Option (S2 × Bool) := ((f_State_copy 3 0 s).bind fun q1 => (f_Deals_keepsBetween_L15 FU a1 (a2 / (Int32.ofInt 3)) q1))
theorem c_Deals_keepsBetween_L61 {xs : Nat → Int32} {L d : Nat} {P : MK S2} {Q : S2 → Option MV → Prop} {res : S2 × Bool} (hP : MClosed (O3 xs L) (kcall (O3 xs L) (d + 5)) kd_Deals_keepsBetween 2 Q P) (hQ : Q res.1 (some (mI (bI res.2)))) {k15 : Int32 → Int32 → S2 → Option (S2 × Bool)} (hk15 : ∀ (x1 : Int32) (x3 : Int32) (x2 : Int32) (x4 : Option Int32) (s : S2), k15 x1 x3 s = some res → P 15 [some (mR 45 0), some (mI x1), some (mI x2), some (mI x3), oI x4] [] s (0, 0)) (x1 : Int32) (x3 : Int32) (x2 : Int32) (x4 : Int32) (s : S2) (h : f_Deals_keepsBetween_L61 k15 x1 x3 s = some res) : P 61 [some (mR 45 0), some (mI x1), some (mI x2), some (mI x3), some (mI x4)] [] s (0, 0) := by
  refine mgo_from hP [15, 61] 260 ?_
  obtain ⟨q1, hq, h⟩ := bnd h
  refine go_call (fun _ hw => c_Course_pass hq hw) ?_
  obtain ⟨q2, hq, h⟩ := bnd h
  refine go_call (fun _ hw => c_State_apart hq hw) ?_
  refine go_call (fun _ hw => c_D_isWithin hw) ?_
  refine go_brn (fun hc : ¬ ((bI (g_D_isWithin q2 (q1.1 45 0 11) (q1.1 45 0 12) q1)) = 0) => ?_) (fun hc : (bI (g_D_isWithin q2 (q1.1 45 0 11) (q1.1 45 0 12) q1)) = 0 => ?_)
  · replace h := (if_neg hc).symm.trans h
    refine go_and (by decide) ?_
    exact hk15 _ _ _ (some x4) _ h
  · replace h := (if_pos hc).symm.trans h
    cases h
    exact ⟨Or.inl rfl, hQ⟩
theorem cb_Deals_keepsBetween_L15 {xs : Nat → Int32} {L d : Nat} {P : MK S2} {Q : S2 → Option MV → Prop} {res : S2 × Bool} (hP : MClosed (O3 xs L) (kcall (O3 xs L) (d + 5)) kd_Deals_keepsBetween 2 Q P) (hQ : Q res.1 (some (mI (bI res.2)))) {k15 : Int32 → Int32 → S2 → Option (S2 × Bool)} (hk15 : ∀ (x1 : Int32) (x3 : Int32) (x2 : Int32) (x4 : Option Int32) (s : S2), k15 x1 x3 s = some res → P 15 [some (mR 45 0), some (mI x1), some (mI x2), some (mI x3), oI x4] [] s (0, 0)) (x1 : Int32) (x3 : Int32) (x2 : Int32) (x4 : Option Int32) (s : S2) (h : b_Deals_keepsBetween_L15 k15 x1 x3 s = some res) : P 15 [some (mR 45 0), some (mI x1), some (mI x2), some (mI x3), oI x4] [] s (0, 0) := by
  refine mgo_from hP [15, 61] 260 ?_
  refine go_br (fun hc : x3 ≤ 0 => ?_) (fun hc : ¬ (x3 ≤ 0) => ?_)
  · replace h := (if_pos hc).symm.trans h
    cases h
    exact ⟨Or.inr rfl, hQ⟩
  · replace h := (if_neg hc).symm.trans h
    obtain ⟨hz, h⟩ := nif h
    refine go_and hz ?_
    refine go_and (by decide) ?_
    obtain ⟨q1, hq, h⟩ := bnd h
    refine go_call (fun _ hw => c_Course_drawByTold hq hw) ?_
    refine go_br (fun hc : (jrem (x1 / x3) (Int32.ofInt 3)) ≤ 0 => ?_) (fun hc : ¬ ((jrem (x1 / x3) (Int32.ofInt 3)) ≤ 0) => ?_)
    · replace h := (if_pos hc).symm.trans h
      exact c_Deals_keepsBetween_L61 hP hQ hk15 _ _ _ _ _ h
    · replace h := (if_neg hc).symm.trans h
      obtain ⟨q2, hq, h⟩ := bnd h
      refine go_call (fun _ hw => c_Course_addTie hq hw) ?_
      exact c_Deals_keepsBetween_L61 hP hQ hk15 _ _ _ _ _ h
theorem c_Deals_keepsBetween_L15 {xs : Nat → Int32} {L d : Nat} {P : MK S2} {Q : S2 → Option MV → Prop} {res : S2 × Bool} (hP : MClosed (O3 xs L) (kcall (O3 xs L) (d + 5)) kd_Deals_keepsBetween 2 Q P) (hQ : Q res.1 (some (mI (bI res.2)))) : ∀ (fu : Nat) (x1 : Int32) (x3 : Int32) (x2 : Int32) (x4 : Option Int32) (s : S2), f_Deals_keepsBetween_L15 fu x1 x3 s = some res → P 15 [some (mR 45 0), some (mI x1), some (mI x2), some (mI x3), oI x4] [] s (0, 0)
  | 0, _, _, _, _, _, h => by cases h
  | fu + 1, x1, x3, x2, x4, s, h => cb_Deals_keepsBetween_L15 hP hQ (c_Deals_keepsBetween_L15 hP hQ fu) x1 x3 x2 x4 s h
theorem c_Deals_keepsBetween {xs : Nat → Int32} {L d : Nat} {a1 : Int32} {a2 : Int32} {s : S2} {res : S2 × Bool} {Q : S2 → Option MV → Prop} (h : f_Deals_keepsBetween a1 a2 s = some res) (hQ : Q res.1 (some (mI (bI res.2)))) : kcall (O3 xs L) (d + 6) k_Deals_keepsBetween [mR 45 0, mI a1, mI a2] s Q := by
  refine kc_of (cd := kd_Deals_keepsBetween) (mx := 5) (rt := 2) rfl rfl ?_
  intro P hP
  refine mgo_sound hP [15, 61] 260 _ _ _ _ _ ?_
  obtain ⟨q1, hq, h⟩ := bnd h
  refine go_call (fun _ hw => c_State_copy hq hw) ?_
  refine go_and (by decide) ?_
  exact c_Deals_keepsBetween_L15 hP hQ FU _ _ _ none _ h
/-! Charts_areSo -/
def b_Charts_areSo_L42 (k42 : Int32 → Int32 → S2 → Option (S2 × Bool)) (x1 : Int32) (x2 : Int32) (s : S2) : Option (S2 × Bool) := (if x1 < x2 then some (s, true) else ((f_Course_pass 4 s).bind fun q1 => ((f_Charts_areSoBehind x2 q1).bind fun q2 => (if (bI q2) = 0 then some (q1, false) else (k42 x1 (x2 + (Int32.ofInt 1)) q1)))))
def f_Charts_areSo_L42 : Nat → Int32 → Int32 → S2 → Option (S2 × Bool)
  | 0 => fun _ _ _ => none
  | n + 1 => b_Charts_areSo_L42 (f_Charts_areSo_L42 n)
def b_Charts_areSo_L4 (k4 : Int32 → Int32 → S2 → Option (S2 × Bool)) (x1 : Int32) (x2 : Int32) (s : S2) : Option (S2 × Bool) := (if (s.1 49 0 8) ≤ x2 then ((f_State_copy 4 0 s).bind fun q1 => (f_Charts_areSo_L42 FU x1 (Int32.ofInt 1) q1)) else ((ix 20 x2).bind fun j2 => (k4 (jmax x1 (s.1 50 0 j2)) (x2 + (Int32.ofInt 1)) s)))
def f_Charts_areSo_L4 : Nat → Int32 → Int32 → S2 → Option (S2 × Bool)
  | 0 => fun _ _ _ => none
  | n + 1 => b_Charts_areSo_L4 (f_Charts_areSo_L4 n)
def f_Charts_areSo (s : S2) : Option (S2 × Bool) := (f_Charts_areSo_L4 FU (Int32.ofInt 0) (Int32.ofInt 0) s)
theorem cb_Charts_areSo_L42 {xs : Nat → Int32} {L d : Nat} {P : MK S2} {Q : S2 → Option MV → Prop} {res : S2 × Bool} (hP : MClosed (O3 xs L) (kcall (O3 xs L) (d + 5)) kd_Charts_areSo 2 Q P) (hQ : Q res.1 (some (mI (bI res.2)))) {k42 : Int32 → Int32 → S2 → Option (S2 × Bool)} (hk42 : ∀ (x1 : Int32) (x2 : Int32) (s : S2), k42 x1 x2 s = some res → P 42 [some (mR 49 0), some (mI x1), some (mI x2)] [] s (0, 0)) (x1 : Int32) (x2 : Int32) (s : S2) (h : b_Charts_areSo_L42 k42 x1 x2 s = some res) : P 42 [some (mR 49 0), some (mI x1), some (mI x2)] [] s (0, 0) := by
  refine mgo_from hP [4, 42] 260 ?_
  refine go_br (fun hc : x1 < x2 => ?_) (fun hc : ¬ (x1 < x2) => ?_)
  · replace h := (if_pos hc).symm.trans h
    cases h
    exact ⟨Or.inr rfl, hQ⟩
  · replace h := (if_neg hc).symm.trans h
    obtain ⟨q1, hq, h⟩ := bnd h
    refine go_call (fun _ hw => c_Course_pass hq hw) ?_
    obtain ⟨q2, hq, h⟩ := bnd h
    refine go_call (fun _ hw => c_Charts_areSoBehind hq hw) ?_
    refine go_brn (fun hc : ¬ ((bI q2) = 0) => ?_) (fun hc : (bI q2) = 0 => ?_)
    · replace h := (if_neg hc).symm.trans h
      exact hk42 _ _ _ h
    · replace h := (if_pos hc).symm.trans h
      cases h
      exact ⟨Or.inl rfl, hQ⟩
theorem c_Charts_areSo_L42 {xs : Nat → Int32} {L d : Nat} {P : MK S2} {Q : S2 → Option MV → Prop} {res : S2 × Bool} (hP : MClosed (O3 xs L) (kcall (O3 xs L) (d + 5)) kd_Charts_areSo 2 Q P) (hQ : Q res.1 (some (mI (bI res.2)))) : ∀ (fu : Nat) (x1 : Int32) (x2 : Int32) (s : S2), f_Charts_areSo_L42 fu x1 x2 s = some res → P 42 [some (mR 49 0), some (mI x1), some (mI x2)] [] s (0, 0)
  | 0, _, _, _, h => by cases h
  | fu + 1, x1, x2, s, h => cb_Charts_areSo_L42 hP hQ (c_Charts_areSo_L42 hP hQ fu) x1 x2 s h
theorem cb_Charts_areSo_L4 {xs : Nat → Int32} {L d : Nat} {P : MK S2} {Q : S2 → Option MV → Prop} {res : S2 × Bool} (hP : MClosed (O3 xs L) (kcall (O3 xs L) (d + 5)) kd_Charts_areSo 2 Q P) (hQ : Q res.1 (some (mI (bI res.2)))) {k4 : Int32 → Int32 → S2 → Option (S2 × Bool)} (hk4 : ∀ (x1 : Int32) (x2 : Int32) (s : S2), k4 x1 x2 s = some res → P 4 [some (mR 49 0), some (mI x1), some (mI x2)] [] s (0, 0)) (x1 : Int32) (x2 : Int32) (s : S2) (h : b_Charts_areSo_L4 k4 x1 x2 s = some res) : P 4 [some (mR 49 0), some (mI x1), some (mI x2)] [] s (0, 0) := by
  refine mgo_from hP [4, 42] 260 ?_
  refine go_br (fun hc : (s.1 49 0 8) ≤ x2 => ?_) (fun hc : ¬ ((s.1 49 0 8) ≤ x2) => ?_)
  · replace h := (if_pos hc).symm.trans h
    obtain ⟨q1, hq, h⟩ := bnd h
    refine go_call (fun _ hw => c_State_copy hq hw) ?_
    exact c_Charts_areSo_L42 hP hQ FU _ _ _ h
  · replace h := (if_neg hc).symm.trans h
    obtain ⟨j2, hj, h⟩ := bnd h
    refine go_ix j2 (ix_lt hj) (ix_eq hj) ?_
    exact hk4 _ _ _ h
theorem c_Charts_areSo_L4 {xs : Nat → Int32} {L d : Nat} {P : MK S2} {Q : S2 → Option MV → Prop} {res : S2 × Bool} (hP : MClosed (O3 xs L) (kcall (O3 xs L) (d + 5)) kd_Charts_areSo 2 Q P) (hQ : Q res.1 (some (mI (bI res.2)))) : ∀ (fu : Nat) (x1 : Int32) (x2 : Int32) (s : S2), f_Charts_areSo_L4 fu x1 x2 s = some res → P 4 [some (mR 49 0), some (mI x1), some (mI x2)] [] s (0, 0)
  | 0, _, _, _, h => by cases h
  | fu + 1, x1, x2, s, h => cb_Charts_areSo_L4 hP hQ (c_Charts_areSo_L4 hP hQ fu) x1 x2 s h
theorem c_Charts_areSo {xs : Nat → Int32} {L d : Nat} {s : S2} {res : S2 × Bool} {Q : S2 → Option MV → Prop} (h : f_Charts_areSo s = some res) (hQ : Q res.1 (some (mI (bI res.2)))) : kcall (O3 xs L) (d + 6) k_Charts_areSo [mR 49 0] s Q := by
  refine kc_of (cd := kd_Charts_areSo) (mx := 3) (rt := 2) rfl rfl ?_
  intro P hP
  refine mgo_sound hP [4, 42] 260 _ _ _ _ _ ?_
  exact c_Charts_areSo_L4 hP hQ FU _ _ _ h
