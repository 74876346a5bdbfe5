/-! State_isSeenByAll -/
def f_State_isSeenByAll_L28 (r0 : Nat) (k2 : Int32 → Int32 → Int32 → S2 → Option Bool) (x1 : Int32) (x2 : Int32) (x3 : Int32) (s : S2) : Option Bool := (k2 x1 x2 (x3 + (Int32.ofInt 1)) s)
def b_State_isSeenByAll_L2 (r0 : Nat) (k2 : Int32 → Int32 → Int32 → S2 → Option Bool) (x1 : Int32) (x2 : Int32) (x3 : Int32) (s : S2) : Option Bool := (if (Int32.ofInt 6) ≤ x3 then some true else ((f_State_isHead r0 x3 s).bind fun q1 => (if (bI q1) = 0 then (f_State_isSeenByAll_L28 r0 k2 x1 x2 x3 s) else ((f_State_apart r0 x1 x3 s).bind fun q2 => (if q2 ≤ x2 then (f_State_isSeenByAll_L28 r0 k2 x1 x2 x3 s) else some false)))))
def f_State_isSeenByAll_L2 (r0 : Nat) : Nat → Int32 → Int32 → Int32 → S2 → Option Bool
  | 0 => fun _ _ _ _ => none
  | n + 1 => b_State_isSeenByAll_L2 r0 (f_State_isSeenByAll_L2 r0 n)
def f_State_isSeenByAll (r0 : Nat) (a1 : Int32) (a2 : Int32) (s : S2) : Option Bool := (f_State_isSeenByAll_L2 r0 FU a1 a2 (Int32.ofInt 0) s)
theorem c_State_isSeenByAll_L28 {xs : Nat → Int32} {L d : Nat} {r0 : Nat} {P : MK S2} {Q : S2 → Option MV → Prop} {res : Bool} {s : S2} (hP : MClosed (O3 xs L) (kcall (O3 xs L) (d + 1)) kd_State_isSeenByAll 2 Q P) (hQ : Q s (some (mI (bI res)))) {k2 : Int32 → Int32 → Int32 → S2 → Option Bool} (hk2 : ∀ (x1 : Int32) (x2 : Int32) (x3 : Int32), k2 x1 x2 x3 s = some res → P 2 [some (mR 20 r0), some (mI x1), some (mI x2), some (mI x3)] [] s (0, 0)) (x1 : Int32) (x2 : Int32) (x3 : Int32) (h : f_State_isSeenByAll_L28 r0 k2 x1 x2 x3 s = some res) : P 28 [some (mR 20 r0), some (mI x1), some (mI x2), some (mI x3)] [] s (0, 0) := by
  refine mgo_from hP [2, 28] 260 ?_
  exact hk2 _ _ _ h
theorem cb_State_isSeenByAll_L2 {xs : Nat → Int32} {L d : Nat} {r0 : Nat} {P : MK S2} {Q : S2 → Option MV → Prop} {res : Bool} {s : S2} (hP : MClosed (O3 xs L) (kcall (O3 xs L) (d + 1)) kd_State_isSeenByAll 2 Q P) (hQ : Q s (some (mI (bI res)))) {k2 : Int32 → Int32 → Int32 → S2 → Option Bool} (hk2 : ∀ (x1 : Int32) (x2 : Int32) (x3 : Int32), k2 x1 x2 x3 s = some res → P 2 [some (mR 20 r0), some (mI x1), some (mI x2), some (mI x3)] [] s (0, 0)) (x1 : Int32) (x2 : Int32) (x3 : Int32) (h : b_State_isSeenByAll_L2 r0 k2 x1 x2 x3 s = some res) : P 2 [some (mR 20 r0), some (mI x1), some (mI x2), some (mI x3)] [] s (0, 0) := by
  refine mgo_from hP [2, 28] 260 ?_
  refine go_br (fun hc : (Int32.ofInt 6) ≤ x3 => ?_) (fun hc : ¬ ((Int32.ofInt 6) ≤ x3) => ?_)
  · replace h := (if_pos hc).symm.trans h
    cases h
    exact ⟨Or.inr rfl, hQ⟩
  · replace h := (if_neg hc).symm.trans h
    obtain ⟨q1, hq, h⟩ := bnd h
    refine go_call (fun _ hw => c_State_isHead hq hw) ?_
    refine go_br (fun hc : (bI q1) = 0 => ?_) (fun hc : ¬ ((bI q1) = 0) => ?_)
    · replace h := (if_pos hc).symm.trans h
      exact c_State_isSeenByAll_L28 hP hQ hk2 _ _ _ h
    · replace h := (if_neg hc).symm.trans h
      obtain ⟨q2, hq, h⟩ := bnd h
      refine go_call (fun _ hw => c_State_apart hq hw) ?_
      refine go_br (fun hc : q2 ≤ x2 => ?_) (fun hc : ¬ (q2 ≤ x2) => ?_)
      · replace h := (if_pos hc).symm.trans h
        exact c_State_isSeenByAll_L28 hP hQ hk2 _ _ _ h
      · replace h := (if_neg hc).symm.trans h
        cases h
        exact ⟨Or.inl rfl, hQ⟩
theorem c_State_isSeenByAll_L2 {xs : Nat → Int32} {L d : Nat} {r0 : Nat} {P : MK S2} {Q : S2 → Option MV → Prop} {res : Bool} {s : S2} (hP : MClosed (O3 xs L) (kcall (O3 xs L) (d + 1)) kd_State_isSeenByAll 2 Q P) (hQ : Q s (some (mI (bI res)))) : ∀ (fu : Nat) (x1 : Int32) (x2 : Int32) (x3 : Int32), f_State_isSeenByAll_L2 r0 fu x1 x2 x3 s = some res → P 2 [some (mR 20 r0), some (mI x1), some (mI x2), some (mI x3)] [] s (0, 0)
  | 0, _, _, _, h => by cases h
  | fu + 1, x1, x2, x3, h => cb_State_isSeenByAll_L2 hP hQ (c_State_isSeenByAll_L2 hP hQ fu) x1 x2 x3 h
theorem c_State_isSeenByAll {xs : Nat → Int32} {L d : Nat} {r0 : Nat} {a1 : Int32} {a2 : Int32} {s : S2} {res : Bool} {Q : S2 → Option MV → Prop} (h : f_State_isSeenByAll r0 a1 a2 s = some res) (hQ : Q s (some (mI (bI res)))) : kcall (O3 xs L) (d + 2) k_State_isSeenByAll [mR 20 r0, mI a1, mI a2] s Q := by
  refine kc_of (cd := kd_State_isSeenByAll) (mx := 4) (rt := 2) rfl rfl ?_
  intro P hP
  refine mgo_sound hP [2, 28] 260 _ _ _ _ _ ?_
  exact c_State_isSeenByAll_L2 hP hQ FU _ _ _ h
/-! State_landOf -/
def f_State_landOf_L43 (r0 : Nat) (k7 : Int32 → Int32 → Int32 → S2 → Option Int32) (k17 : Int32 → Int32 → Int32 → Int32 → S2 → Option Int32) (x2 : Int32) (x3 : Int32) (x4 : Int32) (x5 : Int32) (s : S2) : Option Int32 := (k17 x2 x3 x4 (x5 + (Int32.ofInt 1)) s)
def b_State_landOf_L17 (r0 : Nat) (k7 : Int32 → Int32 → Int32 → S2 → Option Int32) (k17 : Int32 → Int32 → Int32 → Int32 → S2 → Option Int32) (x2 : Int32) (x3 : Int32) (x4 : Int32) (x5 : Int32) (s : S2) : Option Int32 := (if (Int32.ofInt 6) ≤ x5 then (k7 x2 x3 (x4 + (Int32.ofInt 1)) s) else (if ((x3 >>> (x5 &&& 31)) &&& (Int32.ofInt 1)) = 0 then (f_State_landOf_L43 r0 k7 k17 x2 x3 x4 x5 s) else ((f_State_seenFrom r0 x5 x2 s).bind fun q1 => (f_State_landOf_L43 r0 k7 k17 x2 (x3 ||| q1) x4 x5 s))))
def f_State_landOf_L17 (r0 : Nat) (k7 : Int32 → Int32 → Int32 → S2 → Option Int32) : Nat → Int32 → Int32 → Int32 → Int32 → S2 → Option Int32
  | 0 => fun _ _ _ _ _ => none
  | n + 1 => b_State_landOf_L17 r0 k7 (f_State_landOf_L17 r0 k7 n)
def b_State_landOf_L7 (r0 : Nat) (k7 : Int32 → Int32 → Int32 → S2 → Option Int32) (x2 : Int32) (x3 : Int32) (x4 : Int32) (s : S2) : Option Int32 := (if (Int32.ofInt 6) ≤ x4 then some x3 else (f_State_landOf_L17 r0 k7 FU x2 x3 x4 (Int32.ofInt 0) s))
def f_State_landOf_L7 (r0 : Nat) : Nat → Int32 → Int32 → Int32 → S2 → Option Int32
  | 0 => fun _ _ _ _ => none
  | n + 1 => b_State_landOf_L7 r0 (f_State_landOf_L7 r0 n)
def f_State_landOf (r0 : Nat) (a1 : Int32) (a2 : Int32) (s : S2) : Option Int32 := (f_State_landOf_L7 r0 FU a2 ((Int32.ofInt 1) <<< (a1 &&& 31)) (Int32.ofInt 0) s)
theorem c_State_landOf_L43 {xs : Nat → Int32} {L d : Nat} {r0 : Nat} {P : MK S2} {Q : S2 → Option MV → Prop} {res : Int32} {s : S2} (hP : MClosed (O3 xs L) (kcall (O3 xs L) (d + 2)) kd_State_landOf 1 Q P) (hQ : Q s (some (mI res))) {k7 : Int32 → Int32 → Int32 → S2 → Option Int32} {k17 : Int32 → Int32 → Int32 → Int32 → S2 → Option Int32} (hk7 : ∀ (x2 : Int32) (x3 : Int32) (x4 : Int32) (x1 : Int32) (x5 : Option Int32), k7 x2 x3 x4 s = some res → P 7 [some (mR 20 r0), some (mI x1), some (mI x2), some (mI x3), some (mI x4), oI x5] [] s (0, 0)) (hk17 : ∀ (x2 : Int32) (x3 : Int32) (x4 : Int32) (x5 : Int32) (x1 : Int32), k17 x2 x3 x4 x5 s = some res → P 17 [some (mR 20 r0), some (mI x1), some (mI x2), some (mI x3), some (mI x4), some (mI x5)] [] s (0, 0)) (x2 : Int32) (x3 : Int32) (x4 : Int32) (x5 : Int32) (x1 : Int32) (h : f_State_landOf_L43 r0 k7 k17 x2 x3 x4 x5 s = some res) : P 43 [some (mR 20 r0), some (mI x1), some (mI x2), some (mI x3), some (mI x4), some (mI x5)] [] s (0, 0) := by
  refine mgo_from hP [7, 17, 43] 260 ?_
  exact hk17 _ _ _ _ _ h
theorem cb_State_landOf_L17 {xs : Nat → Int32} {L d : Nat} {r0 : Nat} {P : MK S2} {Q : S2 → Option MV → Prop} {res : Int32} {s : S2} (hP : MClosed (O3 xs L) (kcall (O3 xs L) (d + 2)) kd_State_landOf 1 Q P) (hQ : Q s (some (mI res))) {k7 : Int32 → Int32 → Int32 → S2 → Option Int32} (hk7 : ∀ (x2 : Int32) (x3 : Int32) (x4 : Int32) (x1 : Int32) (x5 : Option Int32), k7 x2 x3 x4 s = some res → P 7 [some (mR 20 r0), some (mI x1), some (mI x2), some (mI x3), some (mI x4), oI x5] [] s (0, 0)) {k17 : Int32 → Int32 → Int32 → Int32 → S2 → Option Int32} (hk17 : ∀ (x2 : Int32) (x3 : Int32) (x4 : Int32) (x5 : Int32) (x1 : Int32), k17 x2 x3 x4 x5 s = some res → P 17 [some (mR 20 r0), some (mI x1), some (mI x2), some (mI x3), some (mI x4), some (mI x5)] [] s (0, 0)) (x2 : Int32) (x3 : Int32) (x4 : Int32) (x5 : Int32) (x1 : Int32) (h : b_State_landOf_L17 r0 k7 k17 x2 x3 x4 x5 s = some res) : P 17 [some (mR 20 r0), some (mI x1), some (mI x2), some (mI x3), some (mI x4), some (mI x5)] [] s (0, 0) := by
  refine mgo_from hP [7, 17, 43] 260 ?_
  refine go_br (fun hc : (Int32.ofInt 6) ≤ x5 => ?_) (fun hc : ¬ ((Int32.ofInt 6) ≤ x5) => ?_)
  · replace h := (if_pos hc).symm.trans h
    exact hk7 _ _ _ _ (some x5) h
  · replace h := (if_neg hc).symm.trans h
    refine go_br (fun hc : ((x3 >>> (x5 &&& 31)) &&& (Int32.ofInt 1)) = 0 => ?_) (fun hc : ¬ (((x3 >>> (x5 &&& 31)) &&& (Int32.ofInt 1)) = 0) => ?_)
    · replace h := (if_pos hc).symm.trans h
      exact c_State_landOf_L43 hP hQ hk7 hk17 _ _ _ _ _ h
    · replace h := (if_neg hc).symm.trans h
      obtain ⟨q1, hq, h⟩ := bnd h
      refine go_call (fun _ hw => c_State_seenFrom hq hw) ?_
      exact c_State_landOf_L43 hP hQ hk7 hk17 _ _ _ _ _ h
theorem c_State_landOf_L17 {xs : Nat → Int32} {L d : Nat} {r0 : Nat} {P : MK S2} {Q : S2 → Option MV → Prop} {res : Int32} {s : S2} (hP : MClosed (O3 xs L) (kcall (O3 xs L) (d + 2)) kd_State_landOf 1 Q P) (hQ : Q s (some (mI res))) {k7 : Int32 → Int32 → Int32 → S2 → Option Int32} (hk7 : ∀ (x2 : Int32) (x3 : Int32) (x4 : Int32) (x1 : Int32) (x5 : Option Int32), k7 x2 x3 x4 s = some res → P 7 [some (mR 20 r0), some (mI x1), some (mI x2), some (mI x3), some (mI x4), oI x5] [] s (0, 0)) : ∀ (fu : Nat) (x2 : Int32) (x3 : Int32) (x4 : Int32) (x5 : Int32) (x1 : Int32), f_State_landOf_L17 r0 k7 fu x2 x3 x4 x5 s = some res → P 17 [some (mR 20 r0), some (mI x1), some (mI x2), some (mI x3), some (mI x4), some (mI x5)] [] s (0, 0)
  | 0, _, _, _, _, _, h => by cases h
  | fu + 1, x2, x3, x4, x5, x1, h => cb_State_landOf_L17 hP hQ hk7 (c_State_landOf_L17 hP hQ hk7 fu) x2 x3 x4 x5 x1 h
theorem cb_State_landOf_L7 {xs : Nat → Int32} {L d : Nat} {r0 : Nat} {P : MK S2} {Q : S2 → Option MV → Prop} {res : Int32} {s : S2} (hP : MClosed (O3 xs L) (kcall (O3 xs L) (d + 2)) kd_State_landOf 1 Q P) (hQ : Q s (some (mI res))) {k7 : Int32 → Int32 → Int32 → S2 → Option Int32} (hk7 : ∀ (x2 : Int32) (x3 : Int32) (x4 : Int32) (x1 : Int32) (x5 : Option Int32), k7 x2 x3 x4 s = some res → P 7 [some (mR 20 r0), some (mI x1), some (mI x2), some (mI x3), some (mI x4), oI x5] [] s (0, 0)) (x2 : Int32) (x3 : Int32) (x4 : Int32) (x1 : Int32) (x5 : Option Int32) (h : b_State_landOf_L7 r0 k7 x2 x3 x4 s = some res) : P 7 [some (mR 20 r0), some (mI x1), some (mI x2), some (mI x3), some (mI x4), oI x5] [] s (0, 0) := by
  refine mgo_from hP [7, 17, 43] 260 ?_
  refine go_br (fun hc : (Int32.ofInt 6) ≤ x4 => ?_) (fun hc : ¬ ((Int32.ofInt 6) ≤ x4) => ?_)
  · replace h := (if_pos hc).symm.trans h
    cases h
    exact hQ
  · replace h := (if_neg hc).symm.trans h
    exact c_State_landOf_L17 hP hQ hk7 FU _ _ _ _ _ h
theorem c_State_landOf_L7 {xs : Nat → Int32} {L d : Nat} {r0 : Nat} {P : MK S2} {Q : S2 → Option MV → Prop} {res : Int32} {s : S2} (hP : MClosed (O3 xs L) (kcall (O3 xs L) (d + 2)) kd_State_landOf 1 Q P) (hQ : Q s (some (mI res))) : ∀ (fu : Nat) (x2 : Int32) (x3 : Int32) (x4 : Int32) (x1 : Int32) (x5 : Option Int32), f_State_landOf_L7 r0 fu x2 x3 x4 s = some res → P 7 [some (mR 20 r0), some (mI x1), some (mI x2), some (mI x3), some (mI x4), oI x5] [] s (0, 0)
  | 0, _, _, _, _, _, h => by cases h
  | fu + 1, x2, x3, x4, x1, x5, h => cb_State_landOf_L7 hP hQ (c_State_landOf_L7 hP hQ fu) x2 x3 x4 x1 x5 h
theorem c_State_landOf {xs : Nat → Int32} {L d : Nat} {r0 : Nat} {a1 : Int32} {a2 : Int32} {s : S2} {res : Int32} {Q : S2 → Option MV → Prop} (h : f_State_landOf r0 a1 a2 s = some res) (hQ : Q s (some (mI res))) : kcall (O3 xs L) (d + 3) k_State_landOf [mR 20 r0, mI a1, mI a2] s Q := by
  refine kc_of (cd := kd_State_landOf) (mx := 6) (rt := 1) rfl rfl ?_
  intro P hP
  refine mgo_sound hP [7, 17, 43] 260 _ _ _ _ _ ?_
  exact c_State_landOf_L7 hP hQ FU _ _ _ _ none h
/-! D_land -/
def f_D_land (a1 : Int32) (a2 : Int32) (s : S2) : Option Int32 := (if (bI (g_D_isIsle a1 s)) = 0 then some (Int32.ofInt (-1)) else (if (bI (g_D_isWithin a2 (Int32.ofInt 0) (Int32.ofInt 999) s)) = 0 then some (Int32.ofInt (-1)) else ((f_State_headOf 0 a1 s).bind fun q1 => ((f_State_landOf 0 q1 a2 s).bind fun q2 => some q2))))
theorem c_D_land {xs : Nat → Int32} {L d : Nat} {a1 : Int32} {a2 : Int32} {s : S2} {res : Int32} {Q : S2 → Option MV → Prop} (h : f_D_land a1 a2 s = some res) (hQ : Q s (some (mI res))) : kcall (O3 xs L) (d + 4) k_D_land [mR 10 0, mI a1, mI a2] s Q := by
  refine kc_of (cd := kd_D_land) (mx := 3) (rt := 1) rfl rfl ?_
  intro P hP
  refine mgo_sound hP [] 260 _ _ _ _ _ ?_
  refine go_call (fun _ hw => c_D_isIsle hw) ?_
  refine go_br (fun hc : (bI (g_D_isIsle a1 s)) = 0 => ?_) (fun hc : ¬ ((bI (g_D_isIsle a1 s)) = 0) => ?_)
  · replace h := (if_pos hc).symm.trans h
    cases h
    exact hQ
  · replace h := (if_neg hc).symm.trans h
    refine go_call (fun _ hw => c_D_isWithin hw) ?_
    refine go_br (fun hc : (bI (g_D_isWithin a2 (Int32.ofInt 0) (Int32.ofInt 999) s)) = 0 => ?_) (fun hc : ¬ ((bI (g_D_isWithin a2 (Int32.ofInt 0) (Int32.ofInt 999) s)) = 0) => ?_)
    · replace h := (if_pos hc).symm.trans h
      cases h
      exact hQ
    · replace h := (if_neg hc).symm.trans h
      obtain ⟨q1, hq, h⟩ := bnd h
      refine go_call (fun _ hw => c_State_headOf hq hw) ?_
      obtain ⟨q2, hq, h⟩ := bnd h
      refine go_call (fun _ hw => c_State_landOf hq hw) ?_
      cases h
      exact hQ
/-! State_widest -/
def f_State_widest_L75 (r0 : Nat) (k7 : Int32 → Int32 → Int32 → Int32 → S2 → Option Int32) (k20 : Int32 → Int32 → Int32 → Int32 → Int32 → S2 → Option Int32) (x1 : Int32) (x2 : Int32) (x3 : Int32) (x4 : Int32) (x5 : Int32) (s : S2) : Option Int32 := (k20 x1 x2 x3 x4 (x5 + (Int32.ofInt 1)) s)
def b_State_widest_L20 (r0 : Nat) (k7 : Int32 → Int32 → Int32 → Int32 → S2 → Option Int32) (k20 : Int32 → Int32 → Int32 → Int32 → Int32 → S2 → Option Int32) (x1 : Int32) (x2 : Int32) (x3 : Int32) (x4 : Int32) (x5 : Int32) (s : S2) : Option Int32 := (if (Int32.ofInt 6) ≤ x5 then (k7 x1 x2 x3 (x4 + (Int32.ofInt 1)) s) else ((f_State_isHead r0 x4 s).bind fun q1 => (if (bI q1) = 0 then (f_State_widest_L75 r0 k7 k20 x1 x2 x3 x4 x5 s) else ((f_State_isHead r0 x5 s).bind fun q2 => (if (bI q2) = 0 then (f_State_widest_L75 r0 k7 k20 x1 x2 x3 x4 x5 s) else ((f_State_apart r0 x4 x5 s).bind fun q3 => (if q3 ≤ x2 then (f_State_widest_L75 r0 k7 k20 x1 x2 x3 x4 x5 s) else ((f_State_apart r0 x4 x5 s).bind fun q4 => (f_State_widest_L75 r0 k7 k20 x1 q4 (((Int32.ofInt 10) * x4) + x5) x4 x5 s)))))))))
def f_State_widest_L20 (r0 : Nat) (k7 : Int32 → Int32 → Int32 → Int32 → S2 → Option Int32) : Nat → Int32 → Int32 → Int32 → Int32 → Int32 → S2 → Option Int32
  | 0 => fun _ _ _ _ _ _ => none
  | n + 1 => b_State_widest_L20 r0 k7 (f_State_widest_L20 r0 k7 n)
def b_State_widest_L7 (r0 : Nat) (k7 : Int32 → Int32 → Int32 → Int32 → S2 → Option Int32) (x1 : Int32) (x2 : Int32) (x3 : Int32) (x4 : Int32) (s : S2) : Option Int32 := (if (Int32.ofInt 6) ≤ x4 then (if x1 = 0 then some x2 else some x3) else (f_State_widest_L20 r0 k7 FU x1 x2 x3 x4 (x4 + (Int32.ofInt 1)) s))
def f_State_widest_L7 (r0 : Nat) : Nat → Int32 → Int32 → Int32 → Int32 → S2 → Option Int32
  | 0 => fun _ _ _ _ _ => none
  | n + 1 => b_State_widest_L7 r0 (f_State_widest_L7 r0 n)
def f_State_widest (r0 : Nat) (a1 : Int32) (s : S2) : Option Int32 := (f_State_widest_L7 r0 FU a1 (Int32.ofInt (-1)) (Int32.ofInt (-1)) (Int32.ofInt 0) s)
theorem c_State_widest_L75 {xs : Nat → Int32} {L d : Nat} {r0 : Nat} {P : MK S2} {Q : S2 → Option MV → Prop} {res : Int32} {s : S2} (hP : MClosed (O3 xs L) (kcall (O3 xs L) (d + 1)) kd_State_widest 1 Q P) (hQ : Q s (some (mI res))) {k7 : Int32 → Int32 → Int32 → Int32 → S2 → Option Int32} {k20 : Int32 → Int32 → Int32 → Int32 → Int32 → S2 → Option Int32} (hk7 : ∀ (x1 : Int32) (x2 : Int32) (x3 : Int32) (x4 : Int32) (x5 : Option Int32), k7 x1 x2 x3 x4 s = some res → P 7 [some (mR 20 r0), some (mI x1), some (mI x2), some (mI x3), some (mI x4), oI x5] [] s (0, 0)) (hk20 : ∀ (x1 : Int32) (x2 : Int32) (x3 : Int32) (x4 : Int32) (x5 : Int32), k20 x1 x2 x3 x4 x5 s = some res → P 20 [some (mR 20 r0), some (mI x1), some (mI x2), some (mI x3), some (mI x4), some (mI x5)] [] s (0, 0)) (x1 : Int32) (x2 : Int32) (x3 : Int32) (x4 : Int32) (x5 : Int32) (h : f_State_widest_L75 r0 k7 k20 x1 x2 x3 x4 x5 s = some res) : P 75 [some (mR 20 r0), some (mI x1), some (mI x2), some (mI x3), some (mI x4), some (mI x5)] [] s (0, 0) := by
  refine mgo_from hP [7, 20, 75] 260 ?_
  exact hk20 _ _ _ _ _ h
set_option maxRecDepth 20000 in
set_option maxHeartbeats 4000000 in
theorem cb_State_widest_L20 {xs : Nat → Int32} {L d : Nat} {r0 : Nat} {P : MK S2} {Q : S2 → Option MV → Prop} {res : Int32} {s : S2} (hP : MClosed (O3 xs L) (kcall (O3 xs L) (d + 1)) kd_State_widest 1 Q P) (hQ : Q s (some (mI res))) {k7 : Int32 → Int32 → Int32 → Int32 → S2 → Option Int32} (hk7 : ∀ (x1 : Int32) (x2 : Int32) (x3 : Int32) (x4 : Int32) (x5 : Option Int32), k7 x1 x2 x3 x4 s = some res → P 7 [some (mR 20 r0), some (mI x1), some (mI x2), some (mI x3), some (mI x4), oI x5] [] s (0, 0)) {k20 : Int32 → Int32 → Int32 → Int32 → Int32 → S2 → Option Int32} (hk20 : ∀ (x1 : Int32) (x2 : Int32) (x3 : Int32) (x4 : Int32) (x5 : Int32), k20 x1 x2 x3 x4 x5 s = some res → P 20 [some (mR 20 r0), some (mI x1), some (mI x2), some (mI x3), some (mI x4), some (mI x5)] [] s (0, 0)) (x1 : Int32) (x2 : Int32) (x3 : Int32) (x4 : Int32) (x5 : Int32) (h : b_State_widest_L20 r0 k7 k20 x1 x2 x3 x4 x5 s = some res) : P 20 [some (mR 20 r0), some (mI x1), some (mI x2), some (mI x3), some (mI x4), some (mI x5)] [] s (0, 0) := by
  refine mgo_from hP [7, 20, 75] 260 ?_
  refine go_br (fun hc : (Int32.ofInt 6) ≤ x5 => ?_) (fun hc : ¬ ((Int32.ofInt 6) ≤ x5) => ?_)
  · replace h := (if_pos hc).symm.trans h
    exact hk7 _ _ _ _ (some x5) h
  · replace h := (if_neg hc).symm.trans h
    obtain ⟨q1, hq, h⟩ := bnd h
    refine go_call (fun _ hw => c_State_isHead hq hw) ?_
    refine go_br (fun hc : (bI q1) = 0 => ?_) (fun hc : ¬ ((bI q1) = 0) => ?_)
    · replace h := (if_pos hc).symm.trans h
      exact c_State_widest_L75 hP hQ hk7 hk20 _ _ _ _ _ h
    · replace h := (if_neg hc).symm.trans h
      obtain ⟨q2, hq, h⟩ := bnd h
      refine go_call (fun _ hw => c_State_isHead hq hw) ?_
      refine go_br (fun hc : (bI q2) = 0 => ?_) (fun hc : ¬ ((bI q2) = 0) => ?_)
      · replace h := (if_pos hc).symm.trans h
        exact c_State_widest_L75 hP hQ hk7 hk20 _ _ _ _ _ h
      · replace h := (if_neg hc).symm.trans h
        obtain ⟨q3, hq, h⟩ := bnd h
        refine go_call (fun _ hw => c_State_apart hq hw) ?_
        refine go_br (fun hc : q3 ≤ x2 => ?_) (fun hc : ¬ (q3 ≤ x2) => ?_)
        · replace h := (if_pos hc).symm.trans h
          exact c_State_widest_L75 hP hQ hk7 hk20 _ _ _ _ _ h
        · replace h := (if_neg hc).symm.trans h
          obtain ⟨q4, hq, h⟩ := bnd h
          refine go_call (fun _ hw => c_State_apart hq hw) ?_
          exact c_State_widest_L75 hP hQ hk7 hk20 _ _ _ _ _ h
theorem c_State_widest_L20 {xs : Nat → Int32} {L d : Nat} {r0 : Nat} {P : MK S2} {Q : S2 → Option MV → Prop} {res : Int32} {s : S2} (hP : MClosed (O3 xs L) (kcall (O3 xs L) (d + 1)) kd_State_widest 1 Q P) (hQ : Q s (some (mI res))) {k7 : Int32 → Int32 → Int32 → Int32 → S2 → Option Int32} (hk7 : ∀ (x1 : Int32) (x2 : Int32) (x3 : Int32) (x4 : Int32) (x5 : Option Int32), k7 x1 x2 x3 x4 s = some res → P 7 [some (mR 20 r0), some (mI x1), some (mI x2), some (mI x3), some (mI x4), oI x5] [] s (0, 0)) : ∀ (fu : Nat) (x1 : Int32) (x2 : Int32) (x3 : Int32) (x4 : Int32) (x5 : Int32), f_State_widest_L20 r0 k7 fu x1 x2 x3 x4 x5 s = some res → P 20 [some (mR 20 r0), some (mI x1), some (mI x2), some (mI x3), some (mI x4), some (mI x5)] [] s (0, 0)
  | 0, _, _, _, _, _, h => by cases h
  | fu + 1, x1, x2, x3, x4, x5, h => cb_State_widest_L20 hP hQ hk7 (c_State_widest_L20 hP hQ hk7 fu) x1 x2 x3 x4 x5 h
theorem cb_State_widest_L7 {xs : Nat → Int32} {L d : Nat} {r0 : Nat} {P : MK S2} {Q : S2 → Option MV → Prop} {res : Int32} {s : S2} (hP : MClosed (O3 xs L) (kcall (O3 xs L) (d + 1)) kd_State_widest 1 Q P) (hQ : Q s (some (mI res))) {k7 : Int32 → Int32 → Int32 → Int32 → S2 → Option Int32} (hk7 : ∀ (x1 : Int32) (x2 : Int32) (x3 : Int32) (x4 : Int32) (x5 : Option Int32), k7 x1 x2 x3 x4 s = some res → P 7 [some (mR 20 r0), some (mI x1), some (mI x2), some (mI x3), some (mI x4), oI x5] [] s (0, 0)) (x1 : Int32) (x2 : Int32) (x3 : Int32) (x4 : Int32) (x5 : Option Int32) (h : b_State_widest_L7 r0 k7 x1 x2 x3 x4 s = some res) : P 7 [some (mR 20 r0), some (mI x1), some (mI x2), some (mI x3), some (mI x4), oI x5] [] s (0, 0) := by
  refine mgo_from hP [7, 20, 75] 260 ?_
  refine go_br (fun hc : (Int32.ofInt 6) ≤ x4 => ?_) (fun hc : ¬ ((Int32.ofInt 6) ≤ x4) => ?_)
  · replace h := (if_pos hc).symm.trans h
    refine go_br (fun hc : x1 = 0 => ?_) (fun hc : ¬ (x1 = 0) => ?_)
    · replace h := (if_pos hc).symm.trans h
      cases h
      exact hQ
    · replace h := (if_neg hc).symm.trans h
      cases h
      exact hQ
  · replace h := (if_neg hc).symm.trans h
    exact c_State_widest_L20 hP hQ hk7 FU _ _ _ _ _ h
theorem c_State_widest_L7 {xs : Nat → Int32} {L d : Nat} {r0 : Nat} {P : MK S2} {Q : S2 → Option MV → Prop} {res : Int32} {s : S2} (hP : MClosed (O3 xs L) (kcall (O3 xs L) (d + 1)) kd_State_widest 1 Q P) (hQ : Q s (some (mI res))) : ∀ (fu : Nat) (x1 : Int32) (x2 : Int32) (x3 : Int32) (x4 : Int32) (x5 : Option Int32), f_State_widest_L7 r0 fu x1 x2 x3 x4 s = some res → P 7 [some (mR 20 r0), some (mI x1), some (mI x2), some (mI x3), some (mI x4), oI x5] [] s (0, 0)
  | 0, _, _, _, _, _, h => by cases h
  | fu + 1, x1, x2, x3, x4, x5, h => cb_State_widest_L7 hP hQ (c_State_widest_L7 hP hQ fu) x1 x2 x3 x4 x5 h
theorem c_State_widest {xs : Nat → Int32} {L d : Nat} {r0 : Nat} {a1 : Int32} {s : S2} {res : Int32} {Q : S2 → Option MV → Prop} (h : f_State_widest r0 a1 s = some res) (hQ : Q s (some (mI res))) : kcall (O3 xs L) (d + 2) k_State_widest [mR 20 r0, mI a1] s Q := by
  refine kc_of (cd := kd_State_widest) (mx := 6) (rt := 1) rfl rfl ?_
  intro P hP
  refine mgo_sound hP [7, 20, 75] 260 _ _ _ _ _ ?_
  exact c_State_widest_L7 hP hQ FU _ _ _ _ none h
/-! State_scarsOf -/
def f_State_scarsOf (r0 : Nat) (a1 : Int32) (s : S2) : Option Int32 := ((ix 49 ((Int32.ofInt 18) + a1)).bind fun j1 => ((ix 49 ((Int32.ofInt 24) + (s.1 21 r0 j1))).bind fun j2 => some (s.1 21 r0 j2)))
theorem c_State_scarsOf {xs : Nat → Int32} {L d : Nat} {r0 : Nat} {a1 : Int32} {s : S2} {res : Int32} {Q : S2 → Option MV → Prop} (h : f_State_scarsOf r0 a1 s = some res) (hQ : Q s (some (mI res))) : kcall (O3 xs L) (d + 1) k_State_scarsOf [mR 20 r0, mI a1] s Q := by
  refine kc_of (cd := kd_State_scarsOf) (mx := 2) (rt := 1) rfl rfl ?_
  intro P hP
  refine mgo_sound hP [] 260 _ _ _ _ _ ?_
  obtain ⟨j1, hj, h⟩ := bnd h
  refine go_ix j1 (ix_lt hj) (ix_eq hj) ?_
  obtain ⟨j2, hj, h⟩ := bnd h
  refine go_ix j2 (ix_lt hj) (ix_eq hj) ?_
  cases h
  exact hQ
/-! M_thrown -/
def g_M_thrown (s : S2) : Int32 := (s.1 60 0 0)
theorem cr_M_thrown {xs : Nat → Int32} {L d : Nat} {s : S2} {res : Int32} {Q : S2 → Option MV → Prop} (h : g_M_thrown s = res) (hQ : Q s (some (mI res))) : kcall (O3 xs L) (d + 1) k_M_thrown [mR 60 0] s Q := by
  refine kc_of (cd := kd_M_thrown) (mx := 1) (rt := 1) rfl rfl ?_
  intro P hP
  refine mgo_sound hP [] 260 _ _ _ _ _ ?_
  cases h
  exact hQ
theorem c_M_thrown {xs : Nat → Int32} {L d : Nat} {s : S2} {Q : S2 → Option MV → Prop} (hQ : Q s (some (mI (g_M_thrown s)))) : kcall (O3 xs L) (d + 1) k_M_thrown [mR 60 0] s Q := cr_M_thrown rfl hQ
/-! M_byteOf -/
def f_M_byteOf_L45 (x5 : Int32) (y0 : Int32) (s : S2) : Int32 := ((y0 >>> (((Int32.ofInt 24) - ((Int32.ofInt 8) * (jrem x5 (Int32.ofInt 4)))) &&& 31)) &&& (Int32.ofInt 255))
def g_M_byteOf (a0 : Int32) (a1 : Int32) (a2 : Int32) (a3 : Int32) (a4 : Int32) (a5 : Int32) (s : S2) : Int32 := (if (Int32.ofInt 4) ≤ a5 then (if (Int32.ofInt 8) ≤ a5 then (if (Int32.ofInt 12) ≤ a5 then (if (Int32.ofInt 16) ≤ a5 then (f_M_byteOf_L45 a5 a4 s) else (f_M_byteOf_L45 a5 a3 s)) else (f_M_byteOf_L45 a5 a2 s)) else (f_M_byteOf_L45 a5 a1 s)) else (f_M_byteOf_L45 a5 a0 s))
theorem c_M_byteOf_L45 {xs : Nat → Int32} {L d : Nat} {P : MK S2} {Q : S2 → Option MV → Prop} {res : Int32} {s : S2} (hP : MClosed (O3 xs L) (kcall (O3 xs L) (d + 0)) kd_M_byteOf 1 Q P) (hQ : Q s (some (mI res))) (x5 : Int32) (y0 : Int32) (x0 : Int32) (x1 : Int32) (x2 : Int32) (x3 : Int32) (x4 : Int32) (h : f_M_byteOf_L45 x5 y0 s = res) : P 45 [some (mI x0), some (mI x1), some (mI x2), some (mI x3), some (mI x4), some (mI x5), none] [mI y0] s (0, 0) := by
  refine mgo_from hP [45] 260 ?_
  refine go_and (by decide) ?_
  cases h
  exact hQ
theorem cr_M_byteOf {xs : Nat → Int32} {L d : Nat} {a0 : Int32} {a1 : Int32} {a2 : Int32} {a3 : Int32} {a4 : Int32} {a5 : Int32} {s : S2} {res : Int32} {Q : S2 → Option MV → Prop} (h : g_M_byteOf a0 a1 a2 a3 a4 a5 s = res) (hQ : Q s (some (mI res))) : kcall (O3 xs L) (d + 1) k_M_byteOf [mI a0, mI a1, mI a2, mI a3, mI a4, mI a5] s Q := by
  refine kc_of (cd := kd_M_byteOf) (mx := 7) (rt := 1) rfl rfl ?_
  intro P hP
  refine mgo_sound hP [45] 260 _ _ _ _ _ ?_
  refine go_br (fun hc : (Int32.ofInt 4) ≤ a5 => ?_) (fun hc : ¬ ((Int32.ofInt 4) ≤ a5) => ?_)
  · replace h := (if_pos hc).symm.trans h
    refine go_br (fun hc : (Int32.ofInt 8) ≤ a5 => ?_) (fun hc : ¬ ((Int32.ofInt 8) ≤ a5) => ?_)
    · replace h := (if_pos hc).symm.trans h
      refine go_br (fun hc : (Int32.ofInt 12) ≤ a5 => ?_) (fun hc : ¬ ((Int32.ofInt 12) ≤ a5) => ?_)
      · replace h := (if_pos hc).symm.trans h
        refine go_br (fun hc : (Int32.ofInt 16) ≤ a5 => ?_) (fun hc : ¬ ((Int32.ofInt 16) ≤ a5) => ?_)
        · replace h := (if_pos hc).symm.trans h
          exact c_M_byteOf_L45 hP hQ _ _ _ _ _ _ _ h
        · replace h := (if_neg hc).symm.trans h
          exact c_M_byteOf_L45 hP hQ _ _ _ _ _ _ _ h
      · replace h := (if_neg hc).symm.trans h
        exact c_M_byteOf_L45 hP hQ _ _ _ _ _ _ _ h
    · replace h := (if_neg hc).symm.trans h
      exact c_M_byteOf_L45 hP hQ _ _ _ _ _ _ _ h
  · replace h := (if_neg hc).symm.trans h
    exact c_M_byteOf_L45 hP hQ _ _ _ _ _ _ _ h
theorem c_M_byteOf {xs : Nat → Int32} {L d : Nat} {a0 : Int32} {a1 : Int32} {a2 : Int32} {a3 : Int32} {a4 : Int32} {a5 : Int32} {s : S2} {Q : S2 → Option MV → Prop} (hQ : Q s (some (mI (g_M_byteOf a0 a1 a2 a3 a4 a5 s)))) : kcall (O3 xs L) (d + 1) k_M_byteOf [mI a0, mI a1, mI a2, mI a3, mI a4, mI a5] s Q := cr_M_byteOf rfl hQ
/-! M_end -/
def f_M_end (a1 : Int32) (s : S2) : Option (S2 × Bool) := (if a1 < 0 then some (s, false) else (if a1 ≤ (s.1 60 0 2) then ((some (pkS s 60 0 2 a1)).bind fun s1 => some (s1, true)) else some (s, false)))
theorem c_M_end {xs : Nat → Int32} {L d : Nat} {a1 : Int32} {s : S2} {res : S2 × Bool} {Q : S2 → Option MV → Prop} (h : f_M_end a1 s = some res) (hQ : Q res.1 (some (mI (bI res.2)))) : kcall (O3 xs L) (d + 1) k_M_end [mR 60 0, mI a1] s Q := by
  refine kc_of (cd := kd_M_end) (mx := 2) (rt := 2) rfl rfl ?_
  intro P hP
  refine mgo_sound hP [] 260 _ _ _ _ _ ?_
  refine go_br (fun hc : a1 < 0 => ?_) (fun hc : ¬ (a1 < 0) => ?_)
  · replace h := (if_pos hc).symm.trans h
    cases h
    exact ⟨Or.inl rfl, hQ⟩
  · replace h := (if_neg hc).symm.trans h
    refine go_br (fun hc : a1 ≤ (s.1 60 0 2) => ?_) (fun hc : ¬ (a1 ≤ (s.1 60 0 2)) => ?_)
    · replace h := (if_pos hc).symm.trans h
      replace h := bnds h
      cases h
      exact ⟨Or.inr rfl, hQ⟩
    · replace h := (if_neg hc).symm.trans h
      cases h
      exact ⟨Or.inl rfl, hQ⟩
/-! M_usual -/
def f_M_usual_L108 (x0 : Int32) (x1 : Int32) (s : S2) : Int32 := (if x0 = (Int32.ofInt 98) then (if x1 = (Int32.ofInt 2) then (Int32.ofInt 30) else (Int32.ofInt 0)) else (Int32.ofInt 0))
def g_M_usual (a0 : Int32) (a1 : Int32) (s : S2) : Int32 := (if a0 = (Int32.ofInt 119) then (if a1 = 0 then (Int32.ofInt 1) else (if a1 = (Int32.ofInt 3) then (Int32.ofInt 10) else (Int32.ofInt 0))) else (if a0 = (Int32.ofInt 105) then (if (Int32.ofInt 2) ≤ a1 then (if a1 = (Int32.ofInt 2) then (Int32.ofInt 1) else (if a1 = (Int32.ofInt 5) then (Int32.ofInt 1) else (if a1 = (Int32.ofInt 4) then (Int32.ofInt 4) else (if a1 = (Int32.ofInt 6) then (Int32.ofInt 9) else (if a1 = (Int32.ofInt 7) then (Int32.ofInt 5) else (Int32.ofInt 0)))))) else (Int32.ofInt 50)) else (if a1 = (Int32.ofInt 1) then (Int32.ofInt 1) else (if a0 = (Int32.ofInt 116) then (if a1 = (Int32.ofInt 3) then (Int32.ofInt 1) else (f_M_usual_L108 a0 a1 s)) else (f_M_usual_L108 a0 a1 s)))))
theorem c_M_usual_L108 {xs : Nat → Int32} {L d : Nat} {P : MK S2} {Q : S2 → Option MV → Prop} {res : Int32} {s : S2} (hP : MClosed (O3 xs L) (kcall (O3 xs L) (d + 0)) kd_M_usual 1 Q P) (hQ : Q s (some (mI res))) (x0 : Int32) (x1 : Int32) (h : f_M_usual_L108 x0 x1 s = res) : P 108 [some (mI x0), some (mI x1)] [] s (0, 0) := by
  refine mgo_from hP [108] 260 ?_
  refine go_brn (fun hc : ¬ (x0 = (Int32.ofInt 98)) => ?_) (fun hc : x0 = (Int32.ofInt 98) => ?_)
  · replace h := (if_neg hc).symm.trans h
    cases h
    exact hQ
  · replace h := (if_pos hc).symm.trans h
    refine go_brn (fun hc : ¬ (x1 = (Int32.ofInt 2)) => ?_) (fun hc : x1 = (Int32.ofInt 2) => ?_)
    · replace h := (if_neg hc).symm.trans h
      cases h
      exact hQ
    · replace h := (if_pos hc).symm.trans h
      cases h
      exact hQ
set_option maxRecDepth 20000 in
set_option maxHeartbeats 4000000 in
theorem cr_M_usual {xs : Nat → Int32} {L d : Nat} {a0 : Int32} {a1 : Int32} {s : S2} {res : Int32} {Q : S2 → Option MV → Prop} (h : g_M_usual a0 a1 s = res) (hQ : Q s (some (mI res))) : kcall (O3 xs L) (d + 1) k_M_usual [mI a0, mI a1] s Q := by
  refine kc_of (cd := kd_M_usual) (mx := 2) (rt := 1) rfl rfl ?_
  intro P hP
  refine mgo_sound hP [108] 260 _ _ _ _ _ ?_
  refine go_brn (fun hc : ¬ (a0 = (Int32.ofInt 119)) => ?_) (fun hc : a0 = (Int32.ofInt 119) => ?_)
  · replace h := (if_neg hc).symm.trans h
    refine go_brn (fun hc : ¬ (a0 = (Int32.ofInt 105)) => ?_) (fun hc : a0 = (Int32.ofInt 105) => ?_)
    · replace h := (if_neg hc).symm.trans h
      refine go_br (fun hc : a1 = (Int32.ofInt 1) => ?_) (fun hc : ¬ (a1 = (Int32.ofInt 1)) => ?_)
      · replace h := (if_pos hc).symm.trans h
        cases h
        exact hQ
      · replace h := (if_neg hc).symm.trans h
        refine go_brn (fun hc : ¬ (a0 = (Int32.ofInt 116)) => ?_) (fun hc : a0 = (Int32.ofInt 116) => ?_)
        · replace h := (if_neg hc).symm.trans h
          exact c_M_usual_L108 hP hQ _ _ h
        · replace h := (if_pos hc).symm.trans h
          refine go_brn (fun hc : ¬ (a1 = (Int32.ofInt 3)) => ?_) (fun hc : a1 = (Int32.ofInt 3) => ?_)
          · replace h := (if_neg hc).symm.trans h
            exact c_M_usual_L108 hP hQ _ _ h
          · replace h := (if_pos hc).symm.trans h
            cases h
            exact hQ
    · replace h := (if_pos hc).symm.trans h
      refine go_br (fun hc : (Int32.ofInt 2) ≤ a1 => ?_) (fun hc : ¬ ((Int32.ofInt 2) ≤ a1) => ?_)
      · replace h := (if_pos hc).symm.trans h
        refine go_br (fun hc : a1 = (Int32.ofInt 2) => ?_) (fun hc : ¬ (a1 = (Int32.ofInt 2)) => ?_)
        · replace h := (if_pos hc).symm.trans h
          cases h
          exact hQ
        · replace h := (if_neg hc).symm.trans h
          refine go_brn (fun hc : ¬ (a1 = (Int32.ofInt 5)) => ?_) (fun hc : a1 = (Int32.ofInt 5) => ?_)
          · replace h := (if_neg hc).symm.trans h
            refine go_brn (fun hc : ¬ (a1 = (Int32.ofInt 4)) => ?_) (fun hc : a1 = (Int32.ofInt 4) => ?_)
            · replace h := (if_neg hc).symm.trans h
              refine go_brn (fun hc : ¬ (a1 = (Int32.ofInt 6)) => ?_) (fun hc : a1 = (Int32.ofInt 6) => ?_)
              · replace h := (if_neg hc).symm.trans h
                refine go_brn (fun hc : ¬ (a1 = (Int32.ofInt 7)) => ?_) (fun hc : a1 = (Int32.ofInt 7) => ?_)
                · replace h := (if_neg hc).symm.trans h
                  cases h
                  exact hQ
                · replace h := (if_pos hc).symm.trans h
                  cases h
                  exact hQ
              · replace h := (if_pos hc).symm.trans h
                cases h
                exact hQ
            · replace h := (if_pos hc).symm.trans h
              cases h
              exact hQ
          · replace h := (if_pos hc).symm.trans h
            cases h
            exact hQ
      · replace h := (if_neg hc).symm.trans h
        cases h
        exact hQ
  · replace h := (if_pos hc).symm.trans h
    refine go_brn (fun hc : ¬ (a1 = 0) => ?_) (fun hc : a1 = 0 => ?_)
    · replace h := (if_neg hc).symm.trans h
      refine go_brn (fun hc : ¬ (a1 = (Int32.ofInt 3)) => ?_) (fun hc : a1 = (Int32.ofInt 3) => ?_)
      · replace h := (if_neg hc).symm.trans h
        cases h
        exact hQ
      · replace h := (if_pos hc).symm.trans h
        cases h
        exact hQ
    · replace h := (if_pos hc).symm.trans h
      cases h
      exact hQ
theorem c_M_usual {xs : Nat → Int32} {L d : Nat} {a0 : Int32} {a1 : Int32} {s : S2} {Q : S2 → Option MV → Prop} (hQ : Q s (some (mI (g_M_usual a0 a1 s)))) : kcall (O3 xs L) (d + 1) k_M_usual [mI a0, mI a1] s Q := cr_M_usual rfl hQ
/-! M_here -/
def f_M_here (s : S2) : Option Int32 := (if (s.1 60 0 2) ≤ (s.1 60 0 3) then some (Int32.ofInt (-1)) else ((ix 240 (s.1 60 0 3)).bind fun j1 => some (s.1 61 0 j1)))
theorem c_M_here {xs : Nat → Int32} {L d : Nat} {s : S2} {res : Int32} {Q : S2 → Option MV → Prop} (h : f_M_here s = some res) (hQ : Q s (some (mI res))) : kcall (O3 xs L) (d + 1) k_M_here [mR 60 0] s Q := by
  refine kc_of (cd := kd_M_here) (mx := 1) (rt := 1) rfl rfl ?_
  intro P hP
  refine mgo_sound hP [] 260 _ _ _ _ _ ?_
  refine go_br (fun hc : (s.1 60 0 2) ≤ (s.1 60 0 3) => ?_) (fun hc : ¬ ((s.1 60 0 2) ≤ (s.1 60 0 3)) => ?_)
  · replace h := (if_pos hc).symm.trans h
    cases h
    exact hQ
  · replace h := (if_neg hc).symm.trans h
    obtain ⟨j1, hj, h⟩ := bnd h
    refine go_ix j1 (ix_lt hj) (ix_eq hj) ?_
    cases h
    exact hQ
/-! M_itemOf -/
def g_M_itemOf (a0 : Int32) (a1 : Int32) (s : S2) : Int32 := (if a0 = (Int32.ofInt 119) then (if a1 = (Int32.ofInt 102) then (Int32.ofInt 0) else (if a1 = (Int32.ofInt 106) then (Int32.ofInt 1) else (if a1 = (Int32.ofInt 114) then (Int32.ofInt 2) else (if a1 = (Int32.ofInt 99) then (Int32.ofInt 3) else (Int32.ofInt (-1)))))) else (if a0 = (Int32.ofInt 105) then (if a1 = (Int32.ofInt 120) then (Int32.ofInt 0) else (if a1 = (Int32.ofInt 121) then (Int32.ofInt 1) else (if a1 = (Int32.ofInt 109) then (Int32.ofInt 2) else (if a1 = (Int32.ofInt 103) then (Int32.ofInt 3) else (if a1 = (Int32.ofInt 110) then (Int32.ofInt 4) else (if a1 = (Int32.ofInt 113) then (Int32.ofInt 5) else (if a1 = (Int32.ofInt 115) then (Int32.ofInt 6) else (if a1 = (Int32.ofInt 112) then (Int32.ofInt 7) else (Int32.ofInt (-1)))))))))) else (if a1 = (Int32.ofInt 97) then (a1 - (Int32.ofInt 97)) else (if a1 = (Int32.ofInt 98) then (a1 - (Int32.ofInt 97)) else (if a0 = (Int32.ofInt 116) then (if a1 = (Int32.ofInt 107) then (Int32.ofInt 2) else (if a1 = (Int32.ofInt 119) then (Int32.ofInt 3) else (Int32.ofInt (-1)))) else (if a1 = (Int32.ofInt 108) then (Int32.ofInt 2) else (Int32.ofInt (-1))))))))
set_option maxRecDepth 20000 in
set_option maxHeartbeats 4000000 in
theorem cr_M_itemOf {xs : Nat → Int32} {L d : Nat} {a0 : Int32} {a1 : Int32} {s : S2} {res : Int32} {Q : S2 → Option MV → Prop} (h : g_M_itemOf a0 a1 s = res) (hQ : Q s (some (mI res))) : kcall (O3 xs L) (d + 1) k_M_itemOf [mI a0, mI a1] s Q := by
  refine kc_of (cd := kd_M_itemOf) (mx := 2) (rt := 1) rfl rfl ?_
  intro P hP
  refine mgo_sound hP [] 260 _ _ _ _ _ ?_
  refine go_brn (fun hc : ¬ (a0 = (Int32.ofInt 119)) => ?_) (fun hc : a0 = (Int32.ofInt 119) => ?_)
  · replace h := (if_neg hc).symm.trans h
    refine go_brn (fun hc : ¬ (a0 = (Int32.ofInt 105)) => ?_) (fun hc : a0 = (Int32.ofInt 105) => ?_)
    · replace h := (if_neg hc).symm.trans h
      refine go_br (fun hc : a1 = (Int32.ofInt 97) => ?_) (fun hc : ¬ (a1 = (Int32.ofInt 97)) => ?_)
      · replace h := (if_pos hc).symm.trans h
        cases h
        exact hQ
      · replace h := (if_neg hc).symm.trans h
        refine go_brn (fun hc : ¬ (a1 = (Int32.ofInt 98)) => ?_) (fun hc : a1 = (Int32.ofInt 98) => ?_)
        · replace h := (if_neg hc).symm.trans h
          refine go_brn (fun hc : ¬ (a0 = (Int32.ofInt 116)) => ?_) (fun hc : a0 = (Int32.ofInt 116) => ?_)
          · replace h := (if_neg hc).symm.trans h
            refine go_brn (fun hc : ¬ (a1 = (Int32.ofInt 108)) => ?_) (fun hc : a1 = (Int32.ofInt 108) => ?_)
            · replace h := (if_neg hc).symm.trans h
              cases h
              exact hQ
            · replace h := (if_pos hc).symm.trans h
              cases h
              exact hQ
          · replace h := (if_pos hc).symm.trans h
            refine go_brn (fun hc : ¬ (a1 = (Int32.ofInt 107)) => ?_) (fun hc : a1 = (Int32.ofInt 107) => ?_)
            · replace h := (if_neg hc).symm.trans h
              refine go_brn (fun hc : ¬ (a1 = (Int32.ofInt 119)) => ?_) (fun hc : a1 = (Int32.ofInt 119) => ?_)
              · replace h := (if_neg hc).symm.trans h
                cases h
                exact hQ
              · replace h := (if_pos hc).symm.trans h
                cases h
                exact hQ
            · replace h := (if_pos hc).symm.trans h
              cases h
              exact hQ
        · replace h := (if_pos hc).symm.trans h
          cases h
          exact hQ
    · replace h := (if_pos hc).symm.trans h
      refine go_brn (fun hc : ¬ (a1 = (Int32.ofInt 120)) => ?_) (fun hc : a1 = (Int32.ofInt 120) => ?_)
      · replace h := (if_neg hc).symm.trans h
        refine go_brn (fun hc : ¬ (a1 = (Int32.ofInt 121)) => ?_) (fun hc : a1 = (Int32.ofInt 121) => ?_)
        · replace h := (if_neg hc).symm.trans h
          refine go_brn (fun hc : ¬ (a1 = (Int32.ofInt 109)) => ?_) (fun hc : a1 = (Int32.ofInt 109) => ?_)
          · replace h := (if_neg hc).symm.trans h
            refine go_brn (fun hc : ¬ (a1 = (Int32.ofInt 103)) => ?_) (fun hc : a1 = (Int32.ofInt 103) => ?_)
            · replace h := (if_neg hc).symm.trans h
              refine go_brn (fun hc : ¬ (a1 = (Int32.ofInt 110)) => ?_) (fun hc : a1 = (Int32.ofInt 110) => ?_)
              · replace h := (if_neg hc).symm.trans h
                refine go_brn (fun hc : ¬ (a1 = (Int32.ofInt 113)) => ?_) (fun hc : a1 = (Int32.ofInt 113) => ?_)
                · replace h := (if_neg hc).symm.trans h
                  refine go_brn (fun hc : ¬ (a1 = (Int32.ofInt 115)) => ?_) (fun hc : a1 = (Int32.ofInt 115) => ?_)
                  · replace h := (if_neg hc).symm.trans h
                    refine go_brn (fun hc : ¬ (a1 = (Int32.ofInt 112)) => ?_) (fun hc : a1 = (Int32.ofInt 112) => ?_)
                    · replace h := (if_neg hc).symm.trans h
                      cases h
                      exact hQ
                    · replace h := (if_pos hc).symm.trans h
                      cases h
                      exact hQ
                  · replace h := (if_pos hc).symm.trans h
                    cases h
                    exact hQ
                · replace h := (if_pos hc).symm.trans h
                  cases h
                  exact hQ
              · replace h := (if_pos hc).symm.trans h
                cases h
                exact hQ
            · replace h := (if_pos hc).symm.trans h
              cases h
              exact hQ
          · replace h := (if_pos hc).symm.trans h
            cases h
            exact hQ
        · replace h := (if_pos hc).symm.trans h
          cases h
          exact hQ
      · replace h := (if_pos hc).symm.trans h
        cases h
        exact hQ
  · replace h := (if_pos hc).symm.trans h
    refine go_brn (fun hc : ¬ (a1 = (Int32.ofInt 102)) => ?_) (fun hc : a1 = (Int32.ofInt 102) => ?_)
    · replace h := (if_neg hc).symm.trans h
      refine go_brn (fun hc : ¬ (a1 = (Int32.ofInt 106)) => ?_) (fun hc : a1 = (Int32.ofInt 106) => ?_)
      · replace h := (if_neg hc).symm.trans h
        refine go_brn (fun hc : ¬ (a1 = (Int32.ofInt 114)) => ?_) (fun hc : a1 = (Int32.ofInt 114) => ?_)
        · replace h := (if_neg hc).symm.trans h
          refine go_brn (fun hc : ¬ (a1 = (Int32.ofInt 99)) => ?_) (fun hc : a1 = (Int32.ofInt 99) => ?_)
          · replace h := (if_neg hc).symm.trans h
            cases h
            exact hQ
          · replace h := (if_pos hc).symm.trans h
            cases h
            exact hQ
        · replace h := (if_pos hc).symm.trans h
          cases h
          exact hQ
      · replace h := (if_pos hc).symm.trans h
        cases h
        exact hQ
    · replace h := (if_pos hc).symm.trans h
      cases h
      exact hQ
theorem c_M_itemOf {xs : Nat → Int32} {L d : Nat} {a0 : Int32} {a1 : Int32} {s : S2} {Q : S2 → Option MV → Prop} (hQ : Q s (some (mI (g_M_itemOf a0 a1 s)))) : kcall (O3 xs L) (d + 1) k_M_itemOf [mI a0, mI a1] s Q := cr_M_itemOf rfl hQ
/-! M_has -/
def g_M_has (a0 : Int32) (a1 : Int32) (s : S2) : Bool := (if ((a0 >>> (a1 &&& 31)) &&& (Int32.ofInt 1)) = (Int32.ofInt 1) then true else false)
theorem cr_M_has {xs : Nat → Int32} {L d : Nat} {a0 : Int32} {a1 : Int32} {s : S2} {res : Bool} {Q : S2 → Option MV → Prop} (h : g_M_has a0 a1 s = res) (hQ : Q s (some (mI (bI res)))) : kcall (O3 xs L) (d + 1) k_M_has [mI a0, mI a1] s Q := by
  refine kc_of (cd := kd_M_has) (mx := 2) (rt := 2) rfl rfl ?_
  intro P hP
  refine mgo_sound hP [] 260 _ _ _ _ _ ?_
  refine go_brn (fun hc : ¬ (((a0 >>> (a1 &&& 31)) &&& (Int32.ofInt 1)) = (Int32.ofInt 1)) => ?_) (fun hc : ((a0 >>> (a1 &&& 31)) &&& (Int32.ofInt 1)) = (Int32.ofInt 1) => ?_)
  · replace h := (if_neg hc).symm.trans h
    cases h
    exact ⟨Or.inl rfl, hQ⟩
  · replace h := (if_pos hc).symm.trans h
    cases h
    exact ⟨Or.inr rfl, hQ⟩
theorem c_M_has {xs : Nat → Int32} {L d : Nat} {a0 : Int32} {a1 : Int32} {s : S2} {Q : S2 → Option MV → Prop} (hQ : Q s (some (mI (bI (g_M_has a0 a1 s))))) : kcall (O3 xs L) (d + 1) k_M_has [mI a0, mI a1] s Q := cr_M_has rfl hQ
/-! M_lowest -/
def g_M_lowest (a0 : Int32) (a1 : Int32) (s : S2) : Int32 := (if a0 = (Int32.ofInt 119) then (if a1 = (Int32.ofInt 3) then (Int32.ofInt 1) else (Int32.ofInt 0)) else (if a0 = (Int32.ofInt 105) then (if a1 = (Int32.ofInt 2) then (Int32.ofInt 1) else (if a1 = (Int32.ofInt 5) then (Int32.ofInt 1) else (Int32.ofInt 0))) else (if a0 = (Int32.ofInt 116) then (if a1 = (Int32.ofInt 3) then (Int32.ofInt 1) else (Int32.ofInt 0)) else (if a1 = (Int32.ofInt 2) then (Int32.ofInt 1) else (Int32.ofInt 0)))))
set_option maxRecDepth 20000 in
set_option maxHeartbeats 4000000 in
theorem cr_M_lowest {xs : Nat → Int32} {L d : Nat} {a0 : Int32} {a1 : Int32} {s : S2} {res : Int32} {Q : S2 → Option MV → Prop} (h : g_M_lowest a0 a1 s = res) (hQ : Q s (some (mI res))) : kcall (O3 xs L) (d + 1) k_M_lowest [mI a0, mI a1] s Q := by
  refine kc_of (cd := kd_M_lowest) (mx := 2) (rt := 1) rfl rfl ?_
  intro P hP
  refine mgo_sound hP [] 260 _ _ _ _ _ ?_
  refine go_brn (fun hc : ¬ (a0 = (Int32.ofInt 119)) => ?_) (fun hc : a0 = (Int32.ofInt 119) => ?_)
  · replace h := (if_neg hc).symm.trans h
    refine go_brn (fun hc : ¬ (a0 = (Int32.ofInt 105)) => ?_) (fun hc : a0 = (Int32.ofInt 105) => ?_)
    · replace h := (if_neg hc).symm.trans h
      refine go_brn (fun hc : ¬ (a0 = (Int32.ofInt 116)) => ?_) (fun hc : a0 = (Int32.ofInt 116) => ?_)
      · replace h := (if_neg hc).symm.trans h
        refine go_brn (fun hc : ¬ (a1 = (Int32.ofInt 2)) => ?_) (fun hc : a1 = (Int32.ofInt 2) => ?_)
        · replace h := (if_neg hc).symm.trans h
          cases h
          exact hQ
        · replace h := (if_pos hc).symm.trans h
          cases h
          exact hQ
      · replace h := (if_pos hc).symm.trans h
        refine go_brn (fun hc : ¬ (a1 = (Int32.ofInt 3)) => ?_) (fun hc : a1 = (Int32.ofInt 3) => ?_)
        · replace h := (if_neg hc).symm.trans h
          cases h
          exact hQ
        · replace h := (if_pos hc).symm.trans h
          cases h
          exact hQ
    · replace h := (if_pos hc).symm.trans h
      refine go_br (fun hc : a1 = (Int32.ofInt 2) => ?_) (fun hc : ¬ (a1 = (Int32.ofInt 2)) => ?_)
      · replace h := (if_pos hc).symm.trans h
        cases h
        exact hQ
      · replace h := (if_neg hc).symm.trans h
        refine go_brn (fun hc : ¬ (a1 = (Int32.ofInt 5)) => ?_) (fun hc : a1 = (Int32.ofInt 5) => ?_)
        · replace h := (if_neg hc).symm.trans h
          cases h
          exact hQ
        · replace h := (if_pos hc).symm.trans h
          cases h
          exact hQ
  · replace h := (if_pos hc).symm.trans h
    refine go_brn (fun hc : ¬ (a1 = (Int32.ofInt 3)) => ?_) (fun hc : a1 = (Int32.ofInt 3) => ?_)
    · replace h := (if_neg hc).symm.trans h
      cases h
      exact hQ
    · replace h := (if_pos hc).symm.trans h
      cases h
      exact hQ
theorem c_M_lowest {xs : Nat → Int32} {L d : Nat} {a0 : Int32} {a1 : Int32} {s : S2} {Q : S2 → Option MV → Prop} (hQ : Q s (some (mI (g_M_lowest a0 a1 s)))) : kcall (O3 xs L) (d + 1) k_M_lowest [mI a0, mI a1] s Q := cr_M_lowest rfl hQ
/-! M_highest -/
def g_M_highest (a0 : Int32) (a1 : Int32) (s : S2) : Int32 := (if a0 = (Int32.ofInt 119) then (if a1 = (Int32.ofInt 2) then (Int32.ofInt 1) else (if a1 = (Int32.ofInt 3) then (Int32.ofInt 99) else (Int32.ofInt 9))) else (if a0 = (Int32.ofInt 105) then (if a1 = (Int32.ofInt 2) then (Int32.ofInt 9) else (if a1 = (Int32.ofInt 5) then (Int32.ofInt 9) else (if a1 = (Int32.ofInt 3) then (Int32.ofInt 3) else (if a1 = (Int32.ofInt 4) then (Int32.ofInt 4) else (Int32.ofInt 99))))) else (if (Int32.ofInt 2) ≤ a1 then (if a0 = (Int32.ofInt 98) then (Int32.ofInt 99) else (if a1 = (Int32.ofInt 2) then (Int32.ofInt 1) else (Int32.ofInt 9))) else (Int32.ofInt 5))))
set_option maxRecDepth 20000 in
set_option maxHeartbeats 4000000 in
theorem cr_M_highest {xs : Nat → Int32} {L d : Nat} {a0 : Int32} {a1 : Int32} {s : S2} {res : Int32} {Q : S2 → Option MV → Prop} (h : g_M_highest a0 a1 s = res) (hQ : Q s (some (mI res))) : kcall (O3 xs L) (d + 1) k_M_highest [mI a0, mI a1] s Q := by
  refine kc_of (cd := kd_M_highest) (mx := 2) (rt := 1) rfl rfl ?_
  intro P hP
  refine mgo_sound hP [] 260 _ _ _ _ _ ?_
  refine go_brn (fun hc : ¬ (a0 = (Int32.ofInt 119)) => ?_) (fun hc : a0 = (Int32.ofInt 119) => ?_)
  · replace h := (if_neg hc).symm.trans h
    refine go_brn (fun hc : ¬ (a0 = (Int32.ofInt 105)) => ?_) (fun hc : a0 = (Int32.ofInt 105) => ?_)
    · replace h := (if_neg hc).symm.trans h
      refine go_br (fun hc : (Int32.ofInt 2) ≤ a1 => ?_) (fun hc : ¬ ((Int32.ofInt 2) ≤ a1) => ?_)
      · replace h := (if_pos hc).symm.trans h
        refine go_brn (fun hc : ¬ (a0 = (Int32.ofInt 98)) => ?_) (fun hc : a0 = (Int32.ofInt 98) => ?_)
        · replace h := (if_neg hc).symm.trans h
          refine go_brn (fun hc : ¬ (a1 = (Int32.ofInt 2)) => ?_) (fun hc : a1 = (Int32.ofInt 2) => ?_)
          · replace h := (if_neg hc).symm.trans h
            cases h
            exact hQ
          · replace h := (if_pos hc).symm.trans h
            cases h
            exact hQ
        · replace h := (if_pos hc).symm.trans h
          cases h
          exact hQ
      · replace h := (if_neg hc).symm.trans h
        cases h
        exact hQ
    · replace h := (if_pos hc).symm.trans h
      refine go_br (fun hc : a1 = (Int32.ofInt 2) => ?_) (fun hc : ¬ (a1 = (Int32.ofInt 2)) => ?_)
      · replace h := (if_pos hc).symm.trans h
        cases h
        exact hQ
      · replace h := (if_neg hc).symm.trans h
        refine go_brn (fun hc : ¬ (a1 = (Int32.ofInt 5)) => ?_) (fun hc : a1 = (Int32.ofInt 5) => ?_)
        · replace h := (if_neg hc).symm.trans h
          refine go_brn (fun hc : ¬ (a1 = (Int32.ofInt 3)) => ?_) (fun hc : a1 = (Int32.ofInt 3) => ?_)
          · replace h := (if_neg hc).symm.trans h
            refine go_brn (fun hc : ¬ (a1 = (Int32.ofInt 4)) => ?_) (fun hc : a1 = (Int32.ofInt 4) => ?_)
            · replace h := (if_neg hc).symm.trans h
              cases h
              exact hQ
            · replace h := (if_pos hc).symm.trans h
              cases h
              exact hQ
          · replace h := (if_pos hc).symm.trans h
            cases h
            exact hQ
        · replace h := (if_pos hc).symm.trans h
          cases h
          exact hQ
  · replace h := (if_pos hc).symm.trans h
    refine go_brn (fun hc : ¬ (a1 = (Int32.ofInt 2)) => ?_) (fun hc : a1 = (Int32.ofInt 2) => ?_)
    · replace h := (if_neg hc).symm.trans h
      refine go_brn (fun hc : ¬ (a1 = (Int32.ofInt 3)) => ?_) (fun hc : a1 = (Int32.ofInt 3) => ?_)
      · replace h := (if_neg hc).symm.trans h
        cases h
        exact hQ
      · replace h := (if_pos hc).symm.trans h
        cases h
        exact hQ
    · replace h := (if_pos hc).symm.trans h
      cases h
      exact hQ
theorem c_M_highest {xs : Nat → Int32} {L d : Nat} {a0 : Int32} {a1 : Int32} {s : S2} {Q : S2 → Option MV → Prop} (hQ : Q s (some (mI (g_M_highest a0 a1 s)))) : kcall (O3 xs L) (d + 1) k_M_highest [mI a0, mI a1] s Q := cr_M_highest rfl hQ
/-! M_isDigit -/
def g_M_isDigit (a0 : Int32) (s : S2) : Bool := (if a0 < (Int32.ofInt 48) then false else (if (Int32.ofInt 57) < a0 then false else true))
theorem cr_M_isDigit {xs : Nat → Int32} {L d : Nat} {a0 : Int32} {s : S2} {res : Bool} {Q : S2 → Option MV → Prop} (h : g_M_isDigit a0 s = res) (hQ : Q s (some (mI (bI res)))) : kcall (O3 xs L) (d + 1) k_M_isDigit [mI a0] s Q := by
  refine kc_of (cd := kd_M_isDigit) (mx := 1) (rt := 2) rfl rfl ?_
  intro P hP
  refine mgo_sound hP [] 260 _ _ _ _ _ ?_
  refine go_br (fun hc : a0 < (Int32.ofInt 48) => ?_) (fun hc : ¬ (a0 < (Int32.ofInt 48)) => ?_)
  · replace h := (if_pos hc).symm.trans h
    cases h
    exact ⟨Or.inl rfl, hQ⟩
  · replace h := (if_neg hc).symm.trans h
    refine go_br (fun hc : (Int32.ofInt 57) < a0 => ?_) (fun hc : ¬ ((Int32.ofInt 57) < a0) => ?_)
    · replace h := (if_pos hc).symm.trans h
      cases h
      exact ⟨Or.inl rfl, hQ⟩
    · replace h := (if_neg hc).symm.trans h
      cases h
      exact ⟨Or.inr rfl, hQ⟩
theorem c_M_isDigit {xs : Nat → Int32} {L d : Nat} {a0 : Int32} {s : S2} {Q : S2 → Option MV → Prop} (hQ : Q s (some (mI (bI (g_M_isDigit a0 s))))) : kcall (O3 xs L) (d + 1) k_M_isDigit [mI a0] s Q := cr_M_isDigit rfl hQ
/-! M_bad -/
def f_M_bad_L20 (y1 : Int32) (s : S2) : Option S2 := ((some (pkS s 60 0 4 y1)).bind fun s1 => some s1)
def f_M_bad (s : S2) : Option S2 := (if (s.1 60 0 4) = (Int32.ofInt (-1)) then (f_M_bad_L20 (s.1 60 0 3) s) else (f_M_bad_L20 (s.1 60 0 4) s))
theorem c_M_bad_L20 {xs : Nat → Int32} {L d : Nat} {P : MK S2} {Q : S2 → Option MV → Prop} {res : S2} (hP : MClosed (O3 xs L) (kcall (O3 xs L) (d + 0)) kd_M_bad 0 Q P) (hQ : Q res none) (y1 : Int32) (s : S2) (h : f_M_bad_L20 y1 s = some res) : P 20 [some (mR 60 0)] [mI y1, mR 60 0] s (0, 0) := by
  refine mgo_from hP [20] 260 ?_
  replace h := bnds h
  cases h
  exact hQ
theorem c_M_bad {xs : Nat → Int32} {L d : Nat} {s : S2} {res : S2} {Q : S2 → Option MV → Prop} (h : f_M_bad s = some res) (hQ : Q res none) : kcall (O3 xs L) (d + 1) k_M_bad [mR 60 0] s Q := by
  refine kc_of (cd := kd_M_bad) (mx := 1) (rt := 0) rfl rfl ?_
  intro P hP
  refine mgo_sound hP [20] 260 _ _ _ _ _ ?_
  refine go_brn (fun hc : ¬ ((s.1 60 0 4) = (Int32.ofInt (-1))) => ?_) (fun hc : (s.1 60 0 4) = (Int32.ofInt (-1)) => ?_)
  · replace h := (if_neg hc).symm.trans h
    exact c_M_bad_L20 hP hQ _ _ h
  · replace h := (if_pos hc).symm.trans h
    exact c_M_bad_L20 hP hQ _ _ h
/-! M_in -/
def g_M_in (a0 : Int32) (a1 : Int32) (a2 : Int32) (s : S2) : Bool := (if a0 < a1 then false else (if a2 < a0 then false else true))
theorem cr_M_in {xs : Nat → Int32} {L d : Nat} {a0 : Int32} {a1 : Int32} {a2 : Int32} {s : S2} {res : Bool} {Q : S2 → Option MV → Prop} (h : g_M_in a0 a1 a2 s = res) (hQ : Q s (some (mI (bI res)))) : kcall (O3 xs L) (d + 1) k_M_in [mI a0, mI a1, mI a2] s Q := by
  refine kc_of (cd := kd_M_in) (mx := 3) (rt := 2) rfl rfl ?_
  intro P hP
  refine mgo_sound hP [] 260 _ _ _ _ _ ?_
  refine go_br (fun hc : a0 < a1 => ?_) (fun hc : ¬ (a0 < a1) => ?_)
  · replace h := (if_pos hc).symm.trans h
    cases h
    exact ⟨Or.inl rfl, hQ⟩
  · replace h := (if_neg hc).symm.trans h
    refine go_br (fun hc : a2 < a0 => ?_) (fun hc : ¬ (a2 < a0) => ?_)
    · replace h := (if_pos hc).symm.trans h
      cases h
      exact ⟨Or.inl rfl, hQ⟩
    · replace h := (if_neg hc).symm.trans h
      cases h
      exact ⟨Or.inr rfl, hQ⟩
theorem c_M_in {xs : Nat → Int32} {L d : Nat} {a0 : Int32} {a1 : Int32} {a2 : Int32} {s : S2} {Q : S2 → Option MV → Prop} (hQ : Q s (some (mI (bI (g_M_in a0 a1 a2 s))))) : kcall (O3 xs L) (d + 1) k_M_in [mI a0, mI a1, mI a2] s Q := cr_M_in rfl hQ
/-! M_areUnlike -/
def g_M_areUnlike (a1 : Int32) (a2 : Int32) (s : S2) : Bool := (if a1 = a2 then false else (if (s.1 60 0 21) ≤ a1 then false else (if (s.1 60 0 21) ≤ a2 then false else true)))
theorem cr_M_areUnlike {xs : Nat → Int32} {L d : Nat} {a1 : Int32} {a2 : Int32} {s : S2} {res : Bool} {Q : S2 → Option MV → Prop} (h : g_M_areUnlike a1 a2 s = res) (hQ : Q s (some (mI (bI res)))) : kcall (O3 xs L) (d + 1) k_M_areUnlike [mR 60 0, mI a1, mI a2] s Q := by
  refine kc_of (cd := kd_M_areUnlike) (mx := 3) (rt := 2) rfl rfl ?_
  intro P hP
  refine mgo_sound hP [] 260 _ _ _ _ _ ?_
  refine go_br (fun hc : a1 = a2 => ?_) (fun hc : ¬ (a1 = a2) => ?_)
  · replace h := (if_pos hc).symm.trans h
    cases h
    exact ⟨Or.inl rfl, hQ⟩
  · replace h := (if_neg hc).symm.trans h
    refine go_br (fun hc : (s.1 60 0 21) ≤ a1 => ?_) (fun hc : ¬ ((s.1 60 0 21) ≤ a1) => ?_)
    · replace h := (if_pos hc).symm.trans h
      cases h
      exact ⟨Or.inl rfl, hQ⟩
    · replace h := (if_neg hc).symm.trans h
      refine go_br (fun hc : (s.1 60 0 21) ≤ a2 => ?_) (fun hc : ¬ ((s.1 60 0 21) ≤ a2) => ?_)
      · replace h := (if_pos hc).symm.trans h
        cases h
        exact ⟨Or.inl rfl, hQ⟩
      · replace h := (if_neg hc).symm.trans h
        cases h
        exact ⟨Or.inr rfl, hQ⟩
theorem c_M_areUnlike {xs : Nat → Int32} {L d : Nat} {a1 : Int32} {a2 : Int32} {s : S2} {Q : S2 → Option MV → Prop} (hQ : Q s (some (mI (bI (g_M_areUnlike a1 a2 s))))) : kcall (O3 xs L) (d + 1) k_M_areUnlike [mR 60 0, mI a1, mI a2] s Q := cr_M_areUnlike rfl hQ
/-! M_open -/
def f_M_open (a1 : Int32) (s : S2) : Option S2 := ((some (pkS s 60 0 14 a1)).bind fun s1 => ((some (pkS s1 60 0 3 (Int32.ofInt 0))).bind fun s2 => ((some (pkS s2 60 0 4 (Int32.ofInt (-1)))).bind fun s3 => ((some (pkS s3 60 0 5 (Int32.ofInt 0))).bind fun s4 => ((ix 5 a1).bind fun j6 => (some (pkS s4 64 0 j6 (Int32.ofInt 0))).bind fun s5 => ((ix 5 a1).bind fun j8 => (some (pkS s5 65 0 j8 (Int32.ofInt 0))).bind fun s7 => some s7))))))
set_option maxRecDepth 20000 in
set_option maxHeartbeats 4000000 in
theorem c_M_open {xs : Nat → Int32} {L d : Nat} {a1 : Int32} {s : S2} {res : S2} {Q : S2 → Option MV → Prop} (h : f_M_open a1 s = some res) (hQ : Q res none) : kcall (O3 xs L) (d + 1) k_M_open [mR 60 0, mI a1] s Q := by
  refine kc_of (cd := kd_M_open) (mx := 2) (rt := 0) rfl rfl ?_
  intro P hP
  refine mgo_sound hP [] 260 _ _ _ _ _ ?_
  replace h := bnds h
  replace h := bnds h
  replace h := bnds h
  replace h := bnds h
  obtain ⟨j6, hj, h⟩ := bnd h
  replace h := bnds h
  refine go_ix j6 (ix_lt hj) (ix_eq hj) ?_
  obtain ⟨j8, hj, h⟩ := bnd h
  replace h := bnds h
  refine go_ix j8 (ix_lt hj) (ix_eq hj) ?_
  cases h
  exact hQ
/-! M_opens -/
def f_M_opens_L13 (s : S2) : Option S2 := ((some (pkS s 60 0 5 ((s.1 60 0 5) + (Int32.ofInt 1)))).bind fun s1 => ((some (pkS s1 60 0 3 ((s1.1 60 0 3) + (Int32.ofInt 1)))).bind fun s2 => some s2))
def f_M_opens (s : S2) : Option S2 := (if (s.1 60 0 5) = (Int32.ofInt 6) then ((f_M_bad s).bind fun q1 => (f_M_opens_L13 q1)) else (f_M_opens_L13 s))
theorem c_M_opens_L13 {xs : Nat → Int32} {L d : Nat} {P : MK S2} {Q : S2 → Option MV → Prop} {res : S2} (hP : MClosed (O3 xs L) (kcall (O3 xs L) (d + 1)) kd_M_opens 0 Q P) (hQ : Q res none) (s : S2) (h : f_M_opens_L13 s = some res) : P 13 [some (mR 60 0)] [] s (0, 0) := by
  refine mgo_from hP [13] 260 ?_
  replace h := bnds h
  replace h := bnds h
  cases h
  exact hQ
theorem c_M_opens {xs : Nat → Int32} {L d : Nat} {s : S2} {res : S2} {Q : S2 → Option MV → Prop} (h : f_M_opens s = some res) (hQ : Q res none) : kcall (O3 xs L) (d + 2) k_M_opens [mR 60 0] s Q := by
  refine kc_of (cd := kd_M_opens) (mx := 1) (rt := 0) rfl rfl ?_
  intro P hP
  refine mgo_sound hP [13] 260 _ _ _ _ _ ?_
  refine go_brn (fun hc : ¬ ((s.1 60 0 5) = (Int32.ofInt 6)) => ?_) (fun hc : (s.1 60 0 5) = (Int32.ofInt 6) => ?_)
  · replace h := (if_neg hc).symm.trans h
    exact c_M_opens_L13 hP hQ _ h
  · replace h := (if_pos hc).symm.trans h
    obtain ⟨q1, hq, h⟩ := bnd h
    refine go_call (fun _ hw => c_M_bad hq hw) ?_
    exact c_M_opens_L13 hP hQ _ h
/-! M_put -/
def f_M_put (a1 : Int32) (a2 : Int32) (s : S2) : Option S2 := ((ix 5 (s.1 60 0 14)).bind fun j1 => ((ix 2600 (((Int32.ofInt 520) * (s.1 60 0 14)) + (s.1 64 0 j1))).bind fun j3 => (some (pkS s 62 0 j3 a1)).bind fun s2 => ((ix 5 (s2.1 60 0 14)).bind fun j4 => ((ix 2600 (((Int32.ofInt 520) * (s2.1 60 0 14)) + (s2.1 64 0 j4))).bind fun j6 => (some (pkS s2 63 0 j6 a2)).bind fun s5 => ((ix 5 (s5.1 60 0 14)).bind fun j7 => ((ix 5 (s5.1 60 0 14)).bind fun j9 => (some (pkS s5 64 0 j9 ((s5.1 64 0 j7) + (Int32.ofInt 1)))).bind fun s8 => some s8))))))
theorem c_M_put {xs : Nat → Int32} {L d : Nat} {a1 : Int32} {a2 : Int32} {s : S2} {res : S2} {Q : S2 → Option MV → Prop} (h : f_M_put a1 a2 s = some res) (hQ : Q res none) : kcall (O3 xs L) (d + 1) k_M_put [mR 60 0, mI a1, mI a2] s Q := by
  refine kc_of (cd := kd_M_put) (mx := 3) (rt := 0) rfl rfl ?_
  intro P hP
  refine mgo_sound hP [] 260 _ _ _ _ _ ?_
  obtain ⟨j1, hj, h⟩ := bnd h
  refine go_ix j1 (ix_lt hj) (ix_eq hj) ?_
  obtain ⟨j3, hj, h⟩ := bnd h
  replace h := bnds h
  refine go_ix j3 (ix_lt hj) (ix_eq hj) ?_
  obtain ⟨j4, hj, h⟩ := bnd h
  refine go_ix j4 (ix_lt hj) (ix_eq hj) ?_
  obtain ⟨j6, hj, h⟩ := bnd h
  replace h := bnds h
  refine go_ix j6 (ix_lt hj) (ix_eq hj) ?_
  obtain ⟨j7, hj, h⟩ := bnd h
  refine go_ix j7 (ix_lt hj) (ix_eq hj) ?_
  obtain ⟨j9, hj, h⟩ := bnd h
  replace h := bnds h
  refine go_ix j9 (ix_lt hj) (ix_eq hj) ?_
  cases h
  exact hQ
/-! M_plainNumber -/
def f_M_plainNumber_L48 (x1 : Int32) (s : S2) : Option (S2 × Int32) := ((f_M_here s).bind fun q1 => (if (bI (g_M_isDigit q1 s)) = 0 then some (s, x1) else ((f_M_bad s).bind fun q2 => some (q2, x1))))
def b_M_plainNumber_L4 (k4 : Int32 → Int32 → S2 → Option (S2 × Int32)) (x1 : Int32) (x2 : Int32) (s : S2) : Option (S2 × Int32) := (if (Int32.ofInt 4) ≤ x2 then (f_M_plainNumber_L48 x1 s) else ((f_M_here s).bind fun q1 => (if (bI (g_M_isDigit q1 s)) = 0 then (f_M_plainNumber_L48 x1 s) else ((f_M_here s).bind fun q2 => ((some (pkS s 60 0 3 ((s.1 60 0 3) + (Int32.ofInt 1)))).bind fun s3 => (k4 ((((Int32.ofInt 10) * x1) + q2) - (Int32.ofInt 48)) (x2 + (Int32.ofInt 1)) s3))))))
def f_M_plainNumber_L4 : Nat → Int32 → Int32 → S2 → Option (S2 × Int32)
  | 0 => fun _ _ _ => none
  | n + 1 => b_M_plainNumber_L4 (f_M_plainNumber_L4 n)
def f_M_plainNumber (s : S2) : Option (S2 × Int32) := (f_M_plainNumber_L4 FU (Int32.ofInt 0) (Int32.ofInt 0) s)
theorem c_M_plainNumber_L48 {xs : Nat → Int32} {L d : Nat} {P : MK S2} {Q : S2 → Option MV → Prop} {res : S2 × Int32} (hP : MClosed (O3 xs L) (kcall (O3 xs L) (d + 1)) kd_M_plainNumber 1 Q P) (hQ : Q res.1 (some (mI res.2))) (x1 : Int32) (x2 : Int32) (s : S2) (h : f_M_plainNumber_L48 x1 s = some res) : P 48 [some (mR 60 0), some (mI x1), some (mI x2)] [] s (0, 0) := by
  refine mgo_from hP [4, 48] 260 ?_
  obtain ⟨q1, hq, h⟩ := bnd h
  refine go_call (fun _ hw => c_M_here hq hw) ?_
  refine go_call (fun _ hw => c_M_isDigit hw) ?_
  refine go_br (fun hc : (bI (g_M_isDigit q1 s)) = 0 => ?_) (fun hc : ¬ ((bI (g_M_isDigit q1 s)) = 0) => ?_)
  · replace h := (if_pos hc).symm.trans h
    cases h
    exact hQ
  · replace h := (if_neg hc).symm.trans h
    obtain ⟨q2, hq, h⟩ := bnd h
    refine go_call (fun _ hw => c_M_bad hq hw) ?_
    cases h
    exact hQ
theorem cb_M_plainNumber_L4 {xs : Nat → Int32} {L d : Nat} {P : MK S2} {Q : S2 → Option MV → Prop} {res : S2 × Int32} (hP : MClosed (O3 xs L) (kcall (O3 xs L) (d + 1)) kd_M_plainNumber 1 Q P) (hQ : Q res.1 (some (mI res.2))) {k4 : Int32 → Int32 → S2 → Option (S2 × Int32)} (hk4 : ∀ (x1 : Int32) (x2 : Int32) (s : S2), k4 x1 x2 s = some res → P 4 [some (mR 60 0), some (mI x1), some (mI x2)] [] s (0, 0)) (x1 : Int32) (x2 : Int32) (s : S2) (h : b_M_plainNumber_L4 k4 x1 x2 s = some res) : P 4 [some (mR 60 0), some (mI x1), some (mI x2)] [] s (0, 0) := by
  refine mgo_from hP [4, 48] 260 ?_
  refine go_br (fun hc : (Int32.ofInt 4) ≤ x2 => ?_) (fun hc : ¬ ((Int32.ofInt 4) ≤ x2) => ?_)
  · replace h := (if_pos hc).symm.trans h
    exact c_M_plainNumber_L48 hP hQ _ _ _ h
  · replace h := (if_neg hc).symm.trans h
    obtain ⟨q1, hq, h⟩ := bnd h
    refine go_call (fun _ hw => c_M_here hq hw) ?_
    refine go_call (fun _ hw => c_M_isDigit hw) ?_
    refine go_br (fun hc : (bI (g_M_isDigit q1 s)) = 0 => ?_) (fun hc : ¬ ((bI (g_M_isDigit q1 s)) = 0) => ?_)
    · replace h := (if_pos hc).symm.trans h
      exact c_M_plainNumber_L48 hP hQ _ _ _ h
    · replace h := (if_neg hc).symm.trans h
      obtain ⟨q2, hq, h⟩ := bnd h
      refine go_call (fun _ hw => c_M_here hq hw) ?_
      replace h := bnds h
      exact hk4 _ _ _ h
theorem c_M_plainNumber_L4 {xs : Nat → Int32} {L d : Nat} {P : MK S2} {Q : S2 → Option MV → Prop} {res : S2 × Int32} (hP : MClosed (O3 xs L) (kcall (O3 xs L) (d + 1)) kd_M_plainNumber 1 Q P) (hQ : Q res.1 (some (mI res.2))) : ∀ (fu : Nat) (x1 : Int32) (x2 : Int32) (s : S2), f_M_plainNumber_L4 fu x1 x2 s = some res → P 4 [some (mR 60 0), some (mI x1), some (mI x2)] [] s (0, 0)
  | 0, _, _, _, h => by cases h
  | fu + 1, x1, x2, s, h => cb_M_plainNumber_L4 hP hQ (c_M_plainNumber_L4 hP hQ fu) x1 x2 s h
theorem c_M_plainNumber {xs : Nat → Int32} {L d : Nat} {s : S2} {res : S2 × Int32} {Q : S2 → Option MV → Prop} (h : f_M_plainNumber s = some res) (hQ : Q res.1 (some (mI res.2))) : kcall (O3 xs L) (d + 2) k_M_plainNumber [mR 60 0] s Q := by
  refine kc_of (cd := kd_M_plainNumber) (mx := 3) (rt := 1) rfl rfl ?_
  intro P hP
  refine mgo_sound hP [4, 48] 260 _ _ _ _ _ ?_
  exact c_M_plainNumber_L4 hP hQ FU _ _ _ h
/-! M_letterOf -/
def g_M_letterOf (a0 : Int32) (s : S2) : Int32 := (if a0 = (Int32.ofInt 100) then (Int32.ofInt 0) else (if a0 = (Int32.ofInt 119) then (Int32.ofInt 1) else (if a0 = (Int32.ofInt 107) then (Int32.ofInt 2) else (if a0 = (Int32.ofInt 109) then (Int32.ofInt 3) else (if a0 = (Int32.ofInt 110) then (Int32.ofInt 4) else (if a0 = (Int32.ofInt 104) then (Int32.ofInt 5) else (Int32.ofInt (-1))))))))
set_option maxRecDepth 20000 in
set_option maxHeartbeats 4000000 in
theorem cr_M_letterOf {xs : Nat → Int32} {L d : Nat} {a0 : Int32} {s : S2} {res : Int32} {Q : S2 → Option MV → Prop} (h : g_M_letterOf a0 s = res) (hQ : Q s (some (mI res))) : kcall (O3 xs L) (d + 1) k_M_letterOf [mI a0] s Q := by
  refine kc_of (cd := kd_M_letterOf) (mx := 1) (rt := 1) rfl rfl ?_
  intro P hP
  refine mgo_sound hP [] 260 _ _ _ _ _ ?_
  refine go_brn (fun hc : ¬ (a0 = (Int32.ofInt 100)) => ?_) (fun hc : a0 = (Int32.ofInt 100) => ?_)
  · replace h := (if_neg hc).symm.trans h
    refine go_brn (fun hc : ¬ (a0 = (Int32.ofInt 119)) => ?_) (fun hc : a0 = (Int32.ofInt 119) => ?_)
    · replace h := (if_neg hc).symm.trans h
      refine go_brn (fun hc : ¬ (a0 = (Int32.ofInt 107)) => ?_) (fun hc : a0 = (Int32.ofInt 107) => ?_)
      · replace h := (if_neg hc).symm.trans h
        refine go_brn (fun hc : ¬ (a0 = (Int32.ofInt 109)) => ?_) (fun hc : a0 = (Int32.ofInt 109) => ?_)
        · replace h := (if_neg hc).symm.trans h
          refine go_brn (fun hc : ¬ (a0 = (Int32.ofInt 110)) => ?_) (fun hc : a0 = (Int32.ofInt 110) => ?_)
          · replace h := (if_neg hc).symm.trans h
            refine go_brn (fun hc : ¬ (a0 = (Int32.ofInt 104)) => ?_) (fun hc : a0 = (Int32.ofInt 104) => ?_)
            · replace h := (if_neg hc).symm.trans h
              cases h
              exact hQ
            · replace h := (if_pos hc).symm.trans h
              cases h
              exact hQ
          · replace h := (if_pos hc).symm.trans h
            cases h
            exact hQ
        · replace h := (if_pos hc).symm.trans h
          cases h
          exact hQ
      · replace h := (if_pos hc).symm.trans h
        cases h
        exact hQ
    · replace h := (if_pos hc).symm.trans h
      cases h
      exact hQ
  · replace h := (if_pos hc).symm.trans h
    cases h
    exact hQ
theorem c_M_letterOf {xs : Nat → Int32} {L d : Nat} {a0 : Int32} {s : S2} {Q : S2 → Option MV → Prop} (hQ : Q s (some (mI (g_M_letterOf a0 s)))) : kcall (O3 xs L) (d + 1) k_M_letterOf [mI a0] s Q := cr_M_letterOf rfl hQ
/-! M_isSign -/
def g_M_isSign (a0 : Int32) (s : S2) : Bool := (if a0 = (Int32.ofInt 61) then true else (if a0 = (Int32.ofInt 60) then true else (if a0 = (Int32.ofInt 62) then true else false)))
theorem cr_M_isSign {xs : Nat → Int32} {L d : Nat} {a0 : Int32} {s : S2} {res : Bool} {Q : S2 → Option MV → Prop} (h : g_M_isSign a0 s = res) (hQ : Q s (some (mI (bI res)))) : kcall (O3 xs L) (d + 1) k_M_isSign [mI a0] s Q := by
  refine kc_of (cd := kd_M_isSign) (mx := 1) (rt := 2) rfl rfl ?_
  intro P hP
  refine mgo_sound hP [] 260 _ _ _ _ _ ?_
  refine go_br (fun hc : a0 = (Int32.ofInt 61) => ?_) (fun hc : ¬ (a0 = (Int32.ofInt 61)) => ?_)
  · replace h := (if_pos hc).symm.trans h
    cases h
    exact ⟨Or.inr rfl, hQ⟩
  · replace h := (if_neg hc).symm.trans h
    refine go_br (fun hc : a0 = (Int32.ofInt 60) => ?_) (fun hc : ¬ (a0 = (Int32.ofInt 60)) => ?_)
    · replace h := (if_pos hc).symm.trans h
      cases h
      exact ⟨Or.inr rfl, hQ⟩
    · replace h := (if_neg hc).symm.trans h
      refine go_brn (fun hc : ¬ (a0 = (Int32.ofInt 62)) => ?_) (fun hc : a0 = (Int32.ofInt 62) => ?_)
      · replace h := (if_neg hc).symm.trans h
        cases h
        exact ⟨Or.inl rfl, hQ⟩
      · replace h := (if_pos hc).symm.trans h
        cases h
        exact ⟨Or.inr rfl, hQ⟩
theorem c_M_isSign {xs : Nat → Int32} {L d : Nat} {a0 : Int32} {s : S2} {Q : S2 → Option MV → Prop} (hQ : Q s (some (mI (bI (g_M_isSign a0 s))))) : kcall (O3 xs L) (d + 1) k_M_isSign [mI a0] s Q := cr_M_isSign rfl hQ
/-! M_takeSea -/
def b_M_takeSea_L129 (k129 : Int32 → S2 → Option (S2 × Int32)) (x1 : Int32) (s : S2) : Option (S2 × Int32) := (if (Int32.ofInt 6) ≤ x1 then ((some (pkS s 60 0 36 (((Int32.ofInt 1) <<< ((s.1 60 0 30) &&& 31)) - (Int32.ofInt 1)))).bind fun s1 => ((some (pkS s1 60 0 37 (Int32.ofInt 0))).bind fun s2 => ((some (pkS s2 60 0 76 (Int32.ofInt 0))).bind fun s3 => ((some (pkS s3 60 0 55 (Int32.ofInt 0))).bind fun s4 => ((some (pkS s4 60 0 57 (Int32.ofInt 0))).bind fun s5 => ((some (pkS s5 60 0 78 (Int32.ofInt 0))).bind fun s6 => some (s6, (s6.1 60 0 28)))))))) else ((ix 48 (((Int32.ofInt 8) * x1) + (Int32.ofInt 0))).bind fun j7 => ((ix 6 x1).bind fun j9 => (some (pkS s 79 0 j9 (s.1 76 0 j7))).bind fun s8 => ((ix 48 (((Int32.ofInt 8) * x1) + (Int32.ofInt 1))).bind fun j10 => ((ix 6 x1).bind fun j12 => (some (pkS s8 80 0 j12 (s8.1 76 0 j10))).bind fun s11 => ((ix 48 (((Int32.ofInt 8) * x1) + (Int32.ofInt 2))).bind fun j13 => ((ix 6 x1).bind fun j15 => (some (pkS s11 81 0 j15 (s11.1 76 0 j13))).bind fun s14 => ((ix 6 x1).bind fun j17 => (some (pkS s14 82 0 j17 x1)).bind fun s16 => ((ix 6 x1).bind fun j19 => (some (pkS s16 83 0 j19 (Int32.ofInt 0))).bind fun s18 => (k129 (x1 + (Int32.ofInt 1)) s18))))))))))
def f_M_takeSea_L129 : Nat → Int32 → S2 → Option (S2 × Int32)
  | 0 => fun _ _ => none
  | n + 1 => b_M_takeSea_L129 (f_M_takeSea_L129 n)
def b_M_takeSea_L103 (k103 : Int32 → S2 → Option (S2 × Int32)) (x1 : Int32) (s : S2) : Option (S2 × Int32) := (if (Int32.ofInt 12) ≤ x1 then (f_M_takeSea_L129 FU (Int32.ofInt 0) s) else ((ix 12 x1).bind fun j1 => ((ix 12 x1).bind fun j3 => (some (pkS s 78 0 j3 (s.1 74 0 j1))).bind fun s2 => (k103 (x1 + (Int32.ofInt 1)) s2))))
def f_M_takeSea_L103 : Nat → Int32 → S2 → Option (S2 × Int32)
  | 0 => fun _ _ => none
  | n + 1 => b_M_takeSea_L103 (f_M_takeSea_L103 n)
def b_M_takeSea_L77 (k77 : Int32 → S2 → Option (S2 × Int32)) (x1 : Int32) (s : S2) : Option (S2 × Int32) := (if (Int32.ofInt 32) ≤ x1 then (f_M_takeSea_L103 FU (Int32.ofInt 0) s) else ((ix 32 x1).bind fun j1 => ((ix 44 x1).bind fun j3 => (some (pkS s 77 0 j3 (s.1 73 0 j1))).bind fun s2 => (k77 (x1 + (Int32.ofInt 1)) s2))))
def f_M_takeSea_L77 : Nat → Int32 → S2 → Option (S2 × Int32)
  | 0 => fun _ _ => none
  | n + 1 => b_M_takeSea_L77 (f_M_takeSea_L77 n)
def b_M_takeSea_L51 (k51 : Int32 → S2 → Option (S2 × Int32)) (x1 : Int32) (s : S2) : Option (S2 × Int32) := (if (Int32.ofInt 48) ≤ x1 then (f_M_takeSea_L77 FU (Int32.ofInt 0) s) else ((ix 48 x1).bind fun j1 => ((ix 48 x1).bind fun j3 => (some (pkS s 76 0 j3 (s.1 72 0 j1))).bind fun s2 => (k51 (x1 + (Int32.ofInt 1)) s2))))
def f_M_takeSea_L51 : Nat → Int32 → S2 → Option (S2 × Int32)
  | 0 => fun _ _ => none
  | n + 1 => b_M_takeSea_L51 (f_M_takeSea_L51 n)
def b_M_takeSea_L26 (k26 : Int32 → S2 → Option (S2 × Int32)) (x1 : Int32) (s : S2) : Option (S2 × Int32) := (if (Int32.ofInt 4) ≤ x1 then (f_M_takeSea_L51 FU (Int32.ofInt 0) s) else ((ix 4 x1).bind fun j1 => ((ix 4 x1).bind fun j3 => (some (pkS s 75 0 j3 (s.1 71 0 j1))).bind fun s2 => (k26 (x1 + (Int32.ofInt 1)) s2))))
def f_M_takeSea_L26 : Nat → Int32 → S2 → Option (S2 × Int32)
  | 0 => fun _ _ => none
  | n + 1 => b_M_takeSea_L26 (f_M_takeSea_L26 n)
def f_M_takeSea (s : S2) : Option (S2 × Int32) := ((some (pkS s 60 0 28 (s.1 60 0 21))).bind fun s1 => ((some (pkS s1 60 0 29 (s1.1 60 0 22))).bind fun s2 => ((some (pkS s2 60 0 30 (s2.1 60 0 23))).bind fun s3 => (f_M_takeSea_L26 FU (Int32.ofInt 0) s3))))
set_option maxRecDepth 20000 in
set_option maxHeartbeats 4000000 in
theorem cb_M_takeSea_L129 {xs : Nat → Int32} {L d : Nat} {P : MK S2} {Q : S2 → Option MV → Prop} {res : S2 × Int32} (hP : MClosed (O3 xs L) (kcall (O3 xs L) (d + 0)) kd_M_takeSea 1 Q P) (hQ : Q res.1 (some (mI res.2))) {k129 : Int32 → S2 → Option (S2 × Int32)} (hk129 : ∀ (x1 : Int32) (s : S2), k129 x1 s = some res → P 129 [some (mR 60 0), some (mI x1)] [] s (0, 0)) (x1 : Int32) (s : S2) (h : b_M_takeSea_L129 k129 x1 s = some res) : P 129 [some (mR 60 0), some (mI x1)] [] s (0, 0) := by
  refine mgo_from hP [26, 51, 77, 103, 129] 260 ?_
  refine go_br (fun hc : (Int32.ofInt 6) ≤ x1 => ?_) (fun hc : ¬ ((Int32.ofInt 6) ≤ x1) => ?_)
  · replace h := (if_pos hc).symm.trans h
    replace h := bnds h
    replace h := bnds h
    replace h := bnds h
    replace h := bnds h
    replace h := bnds h
    replace h := bnds h
    cases h
    exact hQ
  · replace h := (if_neg hc).symm.trans h
    obtain ⟨j7, hj, h⟩ := bnd h
    refine go_ix j7 (ix_lt hj) (ix_eq hj) ?_
    obtain ⟨j9, hj, h⟩ := bnd h
    replace h := bnds h
    refine go_ix j9 (ix_lt hj) (ix_eq hj) ?_
    obtain ⟨j10, hj, h⟩ := bnd h
    refine go_ix j10 (ix_lt hj) (ix_eq hj) ?_
    obtain ⟨j12, hj, h⟩ := bnd h
    replace h := bnds h
    refine go_ix j12 (ix_lt hj) (ix_eq hj) ?_
    obtain ⟨j13, hj, h⟩ := bnd h
    refine go_ix j13 (ix_lt hj) (ix_eq hj) ?_
    obtain ⟨j15, hj, h⟩ := bnd h
    replace h := bnds h
    refine go_ix j15 (ix_lt hj) (ix_eq hj) ?_
    obtain ⟨j17, hj, h⟩ := bnd h
    replace h := bnds h
    refine go_ix j17 (ix_lt hj) (ix_eq hj) ?_
    obtain ⟨j19, hj, h⟩ := bnd h
    replace h := bnds h
    refine go_ix j19 (ix_lt hj) (ix_eq hj) ?_
    exact hk129 _ _ h
theorem c_M_takeSea_L129 {xs : Nat → Int32} {L d : Nat} {P : MK S2} {Q : S2 → Option MV → Prop} {res : S2 × Int32} (hP : MClosed (O3 xs L) (kcall (O3 xs L) (d + 0)) kd_M_takeSea 1 Q P) (hQ : Q res.1 (some (mI res.2))) : ∀ (fu : Nat) (x1 : Int32) (s : S2), f_M_takeSea_L129 fu x1 s = some res → P 129 [some (mR 60 0), some (mI x1)] [] s (0, 0)
  | 0, _, _, h => by cases h
  | fu + 1, x1, s, h => cb_M_takeSea_L129 hP hQ (c_M_takeSea_L129 hP hQ fu) x1 s h
theorem cb_M_takeSea_L103 {xs : Nat → Int32} {L d : Nat} {P : MK S2} {Q : S2 → Option MV → Prop} {res : S2 × Int32} (hP : MClosed (O3 xs L) (kcall (O3 xs L) (d + 0)) kd_M_takeSea 1 Q P) (hQ : Q res.1 (some (mI res.2))) {k103 : Int32 → S2 → Option (S2 × Int32)} (hk103 : ∀ (x1 : Int32) (s : S2), k103 x1 s = some res → P 103 [some (mR 60 0), some (mI x1)] [] s (0, 0)) (x1 : Int32) (s : S2) (h : b_M_takeSea_L103 k103 x1 s = some res) : P 103 [some (mR 60 0), some (mI x1)] [] s (0, 0) := by
  refine mgo_from hP [26, 51, 77, 103, 129] 260 ?_
  refine go_br (fun hc : (Int32.ofInt 12) ≤ x1 => ?_) (fun hc : ¬ ((Int32.ofInt 12) ≤ x1) => ?_)
  · replace h := (if_pos hc).symm.trans h
    exact c_M_takeSea_L129 hP hQ FU _ _ h
  · replace h := (if_neg hc).symm.trans h
    obtain ⟨j1, hj, h⟩ := bnd h
    refine go_ix j1 (ix_lt hj) (ix_eq hj) ?_
    obtain ⟨j3, hj, h⟩ := bnd h
    replace h := bnds h
    refine go_ix j3 (ix_lt hj) (ix_eq hj) ?_
    exact hk103 _ _ h
theorem c_M_takeSea_L103 {xs : Nat → Int32} {L d : Nat} {P : MK S2} {Q : S2 → Option MV → Prop} {res : S2 × Int32} (hP : MClosed (O3 xs L) (kcall (O3 xs L) (d + 0)) kd_M_takeSea 1 Q P) (hQ : Q res.1 (some (mI res.2))) : ∀ (fu : Nat) (x1 : Int32) (s : S2), f_M_takeSea_L103 fu x1 s = some res → P 103 [some (mR 60 0), some (mI x1)] [] s (0, 0)
  | 0, _, _, h => by cases h
  | fu + 1, x1, s, h => cb_M_takeSea_L103 hP hQ (c_M_takeSea_L103 hP hQ fu) x1 s h
theorem cb_M_takeSea_L77 {xs : Nat → Int32} {L d : Nat} {P : MK S2} {Q : S2 → Option MV → Prop} {res : S2 × Int32} (hP : MClosed (O3 xs L) (kcall (O3 xs L) (d + 0)) kd_M_takeSea 1 Q P) (hQ : Q res.1 (some (mI res.2))) {k77 : Int32 → S2 → Option (S2 × Int32)} (hk77 : ∀ (x1 : Int32) (s : S2), k77 x1 s = some res → P 77 [some (mR 60 0), some (mI x1)] [] s (0, 0)) (x1 : Int32) (s : S2) (h : b_M_takeSea_L77 k77 x1 s = some res) : P 77 [some (mR 60 0), some (mI x1)] [] s (0, 0) := by
  refine mgo_from hP [26, 51, 77, 103, 129] 260 ?_
  refine go_br (fun hc : (Int32.ofInt 32) ≤ x1 => ?_) (fun hc : ¬ ((Int32.ofInt 32) ≤ x1) => ?_)
  · replace h := (if_pos hc).symm.trans h
    exact c_M_takeSea_L103 hP hQ FU _ _ h
  · replace h := (if_neg hc).symm.trans h
    obtain ⟨j1, hj, h⟩ := bnd h
    refine go_ix j1 (ix_lt hj) (ix_eq hj) ?_
    obtain ⟨j3, hj, h⟩ := bnd h
    replace h := bnds h
    refine go_ix j3 (ix_lt hj) (ix_eq hj) ?_
    exact hk77 _ _ h
theorem c_M_takeSea_L77 {xs : Nat → Int32} {L d : Nat} {P : MK S2} {Q : S2 → Option MV → Prop} {res : S2 × Int32} (hP : MClosed (O3 xs L) (kcall (O3 xs L) (d + 0)) kd_M_takeSea 1 Q P) (hQ : Q res.1 (some (mI res.2))) : ∀ (fu : Nat) (x1 : Int32) (s : S2), f_M_takeSea_L77 fu x1 s = some res → P 77 [some (mR 60 0), some (mI x1)] [] s (0, 0)
  | 0, _, _, h => by cases h
  | fu + 1, x1, s, h => cb_M_takeSea_L77 hP hQ (c_M_takeSea_L77 hP hQ fu) x1 s h
theorem cb_M_takeSea_L51 {xs : Nat → Int32} {L d : Nat} {P : MK S2} {Q : S2 → Option MV → Prop} {res : S2 × Int32} (hP : MClosed (O3 xs L) (kcall (O3 xs L) (d + 0)) kd_M_takeSea 1 Q P) (hQ : Q res.1 (some (mI res.2))) {k51 : Int32 → S2 → Option (S2 × Int32)} (hk51 : ∀ (x1 : Int32) (s : S2), k51 x1 s = some res → P 51 [some (mR 60 0), some (mI x1)] [] s (0, 0)) (x1 : Int32) (s : S2) (h : b_M_takeSea_L51 k51 x1 s = some res) : P 51 [some (mR 60 0), some (mI x1)] [] s (0, 0) := by
  refine mgo_from hP [26, 51, 77, 103, 129] 260 ?_
  refine go_br (fun hc : (Int32.ofInt 48) ≤ x1 => ?_) (fun hc : ¬ ((Int32.ofInt 48) ≤ x1) => ?_)
  · replace h := (if_pos hc).symm.trans h
    exact c_M_takeSea_L77 hP hQ FU _ _ h
  · replace h := (if_neg hc).symm.trans h
    obtain ⟨j1, hj, h⟩ := bnd h
    refine go_ix j1 (ix_lt hj) (ix_eq hj) ?_
    obtain ⟨j3, hj, h⟩ := bnd h
    replace h := bnds h
    refine go_ix j3 (ix_lt hj) (ix_eq hj) ?_
    exact hk51 _ _ h
theorem c_M_takeSea_L51 {xs : Nat → Int32} {L d : Nat} {P : MK S2} {Q : S2 → Option MV → Prop} {res : S2 × Int32} (hP : MClosed (O3 xs L) (kcall (O3 xs L) (d + 0)) kd_M_takeSea 1 Q P) (hQ : Q res.1 (some (mI res.2))) : ∀ (fu : Nat) (x1 : Int32) (s : S2), f_M_takeSea_L51 fu x1 s = some res → P 51 [some (mR 60 0), some (mI x1)] [] s (0, 0)
  | 0, _, _, h => by cases h
  | fu + 1, x1, s, h => cb_M_takeSea_L51 hP hQ (c_M_takeSea_L51 hP hQ fu) x1 s h
theorem cb_M_takeSea_L26 {xs : Nat → Int32} {L d : Nat} {P : MK S2} {Q : S2 → Option MV → Prop} {res : S2 × Int32} (hP : MClosed (O3 xs L) (kcall (O3 xs L) (d + 0)) kd_M_takeSea 1 Q P) (hQ : Q res.1 (some (mI res.2))) {k26 : Int32 → S2 → Option (S2 × Int32)} (hk26 : ∀ (x1 : Int32) (s : S2), k26 x1 s = some res → P 26 [some (mR 60 0), some (mI x1)] [] s (0, 0)) (x1 : Int32) (s : S2) (h : b_M_takeSea_L26 k26 x1 s = some res) : P 26 [some (mR 60 0), some (mI x1)] [] s (0, 0) := by
  refine mgo_from hP [26, 51, 77, 103, 129] 260 ?_
  refine go_br (fun hc : (Int32.ofInt 4) ≤ x1 => ?_) (fun hc : ¬ ((Int32.ofInt 4) ≤ x1) => ?_)
  · replace h := (if_pos hc).symm.trans h
    exact c_M_takeSea_L51 hP hQ FU _ _ h
  · replace h := (if_neg hc).symm.trans h
    obtain ⟨j1, hj, h⟩ := bnd h
    refine go_ix j1 (ix_lt hj) (ix_eq hj) ?_
    obtain ⟨j3, hj, h⟩ := bnd h
    replace h := bnds h
    refine go_ix j3 (ix_lt hj) (ix_eq hj) ?_
    exact hk26 _ _ h
theorem c_M_takeSea_L26 {xs : Nat → Int32} {L d : Nat} {P : MK S2} {Q : S2 → Option MV → Prop} {res : S2 × Int32} (hP : MClosed (O3 xs L) (kcall (O3 xs L) (d + 0)) kd_M_takeSea 1 Q P) (hQ : Q res.1 (some (mI res.2))) : ∀ (fu : Nat) (x1 : Int32) (s : S2), f_M_takeSea_L26 fu x1 s = some res → P 26 [some (mR 60 0), some (mI x1)] [] s (0, 0)
  | 0, _, _, h => by cases h
  | fu + 1, x1, s, h => cb_M_takeSea_L26 hP hQ (c_M_takeSea_L26 hP hQ fu) x1 s h
theorem c_M_takeSea {xs : Nat → Int32} {L d : Nat} {s : S2} {res : S2 × Int32} {Q : S2 → Option MV → Prop} (h : f_M_takeSea s = some res) (hQ : Q res.1 (some (mI res.2))) : kcall (O3 xs L) (d + 1) k_M_takeSea [mR 60 0] s Q := by
  refine kc_of (cd := kd_M_takeSea) (mx := 2) (rt := 1) rfl rfl ?_
  intro P hP
  refine mgo_sound hP [26, 51, 77, 103, 129] 260 _ _ _ _ _ ?_
  replace h := bnds h
  replace h := bnds h
  replace h := bnds h
  exact c_M_takeSea_L26 hP hQ FU _ _ h
/-! M_isIsle -/
def g_M_isIsle (a1 : Int32) (s : S2) : Bool := (g_M_in a1 (Int32.ofInt 0) ((s.1 60 0 28) - (Int32.ofInt 1)) s)
theorem cr_M_isIsle {xs : Nat → Int32} {L d : Nat} {a1 : Int32} {s : S2} {res : Bool} {Q : S2 → Option MV → Prop} (h : g_M_isIsle a1 s = res) (hQ : Q s (some (mI (bI res)))) : kcall (O3 xs L) (d + 2) k_M_isIsle [mR 60 0, mI a1] s Q := by
  refine kc_of (cd := kd_M_isIsle) (mx := 2) (rt := 2) rfl rfl ?_
  intro P hP
  refine mgo_sound hP [] 260 _ _ _ _ _ ?_
  refine go_call (fun _ hw => c_M_in hw) ?_
  cases h
  exact ⟨bI_01 _, hQ⟩
theorem c_M_isIsle {xs : Nat → Int32} {L d : Nat} {a1 : Int32} {s : S2} {Q : S2 → Option MV → Prop} (hQ : Q s (some (mI (bI (g_M_isIsle a1 s))))) : kcall (O3 xs L) (d + 2) k_M_isIsle [mR 60 0, mI a1] s Q := cr_M_isIsle rfl hQ
/-! M_of -/
def f_M_of (a1 : Int32) (a2 : Int32) (s : S2) : Option Int32 := ((ix 48 (((Int32.ofInt 8) * a1) + a2)).bind fun j1 => some (s.1 76 0 j1))
theorem c_M_of {xs : Nat → Int32} {L d : Nat} {a1 : Int32} {a2 : Int32} {s : S2} {res : Int32} {Q : S2 → Option MV → Prop} (h : f_M_of a1 a2 s = some res) (hQ : Q s (some (mI res))) : kcall (O3 xs L) (d + 1) k_M_of [mR 60 0, mI a1, mI a2] s Q := by
  refine kc_of (cd := kd_M_of) (mx := 3) (rt := 1) rfl rfl ?_
  intro P hP
  refine mgo_sound hP [] 260 _ _ _ _ _ ?_
  obtain ⟨j1, hj, h⟩ := bnd h
  refine go_ix j1 (ix_lt hj) (ix_eq hj) ?_
  cases h
  exact hQ
/-! M_farOf -/
def f_M_farOf (a1 : Int32) (a2 : Int32) (s : S2) : Option Int32 := ((ix 6 a1).bind fun j1 => ((ix 6 (s.1 82 0 j1)).bind fun j2 => ((ix 6 a2).bind fun j3 => ((ix 6 (s.1 82 0 j3)).bind fun j4 => ((ix 6 a1).bind fun j5 => ((ix 6 (s.1 82 0 j5)).bind fun j6 => ((ix 6 a2).bind fun j7 => ((ix 6 (s.1 82 0 j7)).bind fun j8 => some ((jabs ((s.1 79 0 j2) - (s.1 79 0 j4))) + (jabs ((s.1 80 0 j6) - (s.1 80 0 j8))))))))))))
theorem c_M_farOf {xs : Nat → Int32} {L d : Nat} {a1 : Int32} {a2 : Int32} {s : S2} {res : Int32} {Q : S2 → Option MV → Prop} (h : f_M_farOf a1 a2 s = some res) (hQ : Q s (some (mI res))) : kcall (O3 xs L) (d + 1) k_M_farOf [mR 60 0, mI a1, mI a2] s Q := by
  refine kc_of (cd := kd_M_farOf) (mx := 3) (rt := 1) rfl rfl ?_
  intro P hP
  refine mgo_sound hP [] 260 _ _ _ _ _ ?_
  obtain ⟨j1, hj, h⟩ := bnd h
  refine go_ix j1 (ix_lt hj) (ix_eq hj) ?_
  obtain ⟨j2, hj, h⟩ := bnd h
  refine go_ix j2 (ix_lt hj) (ix_eq hj) ?_
  obtain ⟨j3, hj, h⟩ := bnd h
  refine go_ix j3 (ix_lt hj) (ix_eq hj) ?_
  obtain ⟨j4, hj, h⟩ := bnd h
  refine go_ix j4 (ix_lt hj) (ix_eq hj) ?_
  obtain ⟨j5, hj, h⟩ := bnd h
  refine go_ix j5 (ix_lt hj) (ix_eq hj) ?_
  obtain ⟨j6, hj, h⟩ := bnd h
  refine go_ix j6 (ix_lt hj) (ix_eq hj) ?_
  obtain ⟨j7, hj, h⟩ := bnd h
  refine go_ix j7 (ix_lt hj) (ix_eq hj) ?_
  obtain ⟨j8, hj, h⟩ := bnd h
  refine go_ix j8 (ix_lt hj) (ix_eq hj) ?_
  cases h
  exact hQ
/-! M_pull -/
def f_M_pull (a1 : Int32) (s : S2) : Option (S2 × Bool) := (if (bI (g_M_in a1 (Int32.ofInt (-1)) ((s.1 60 0 13) - (Int32.ofInt 1)) s)) = 0 then some (s, false) else ((some (pkS s 60 0 40 a1)).bind fun s1 => some (s1, true)))
theorem c_M_pull {xs : Nat → Int32} {L d : Nat} {a1 : Int32} {s : S2} {res : S2 × Bool} {Q : S2 → Option MV → Prop} (h : f_M_pull a1 s = some res) (hQ : Q res.1 (some (mI (bI res.2)))) : kcall (O3 xs L) (d + 2) k_M_pull [mR 60 0, mI a1] s Q := by
  refine kc_of (cd := kd_M_pull) (mx := 2) (rt := 2) rfl rfl ?_
  intro P hP
  refine mgo_sound hP [] 260 _ _ _ _ _ ?_
  refine go_call (fun _ hw => c_M_in hw) ?_
  refine go_brn (fun hc : ¬ ((bI (g_M_in a1 (Int32.ofInt (-1)) ((s.1 60 0 13) - (Int32.ofInt 1)) s)) = 0) => ?_) (fun hc : (bI (g_M_in a1 (Int32.ofInt (-1)) ((s.1 60 0 13) - (Int32.ofInt 1)) s)) = 0 => ?_)
  · replace h := (if_neg hc).symm.trans h
    replace h := bnds h
    cases h
    exact ⟨Or.inr rfl, hQ⟩
  · replace h := (if_pos hc).symm.trans h
    cases h
    exact ⟨Or.inl rfl, hQ⟩
/-! M_isTie -/
def g_M_isTie (a1 : Int32) (s : S2) : Bool := (g_M_in a1 (Int32.ofInt 0) ((s.1 60 0 29) - (Int32.ofInt 1)) s)
theorem cr_M_isTie {xs : Nat → Int32} {L d : Nat} {a1 : Int32} {s : S2} {res : Bool} {Q : S2 → Option MV → Prop} (h : g_M_isTie a1 s = res) (hQ : Q s (some (mI (bI res)))) : kcall (O3 xs L) (d + 2) k_M_isTie [mR 60 0, mI a1] s Q := by
  refine kc_of (cd := kd_M_isTie) (mx := 2) (rt := 2) rfl rfl ?_
  intro P hP
  refine mgo_sound hP [] 260 _ _ _ _ _ ?_
  refine go_call (fun _ hw => c_M_in hw) ?_
  cases h
  exact ⟨bI_01 _, hQ⟩
theorem c_M_isTie {xs : Nat → Int32} {L d : Nat} {a1 : Int32} {s : S2} {Q : S2 → Option MV → Prop} (hQ : Q s (some (mI (bI (g_M_isTie a1 s))))) : kcall (O3 xs L) (d + 2) k_M_isTie [mR 60 0, mI a1] s Q := cr_M_isTie rfl hQ
/-! M_price -/
def f_M_price (a1 : Int32) (a2 : Int32) (s : S2) : Option (S2 × Bool) := (if (bI (g_M_isIsle a1 s)) = 0 then some (s, false) else (if (bI (g_M_in a2 (Int32.ofInt 0) (Int32.ofInt 99) s)) = 0 then some (s, false) else ((f_M_of a1 (Int32.ofInt 7) s).bind fun q1 => (if q1 = a2 then some (s, false) else ((ix 48 (((Int32.ofInt 8) * a1) + (Int32.ofInt 7))).bind fun j3 => (some (pkS s 76 0 j3 a2)).bind fun s2 => some (s2, true))))))
set_option maxRecDepth 20000 in
set_option maxHeartbeats 4000000 in
theorem c_M_price {xs : Nat → Int32} {L d : Nat} {a1 : Int32} {a2 : Int32} {s : S2} {res : S2 × Bool} {Q : S2 → Option MV → Prop} (h : f_M_price a1 a2 s = some res) (hQ : Q res.1 (some (mI (bI res.2)))) : kcall (O3 xs L) (d + 3) k_M_price [mR 60 0, mI a1, mI a2] s Q := by
  refine kc_of (cd := kd_M_price) (mx := 3) (rt := 2) rfl rfl ?_
  intro P hP
  refine mgo_sound hP [] 260 _ _ _ _ _ ?_
  refine go_call (fun _ hw => c_M_isIsle hw) ?_
  refine go_br (fun hc : (bI (g_M_isIsle a1 s)) = 0 => ?_) (fun hc : ¬ ((bI (g_M_isIsle a1 s)) = 0) => ?_)
  · replace h := (if_pos hc).symm.trans h
    cases h
    exact ⟨Or.inl rfl, hQ⟩
  · replace h := (if_neg hc).symm.trans h
    refine go_call (fun _ hw => c_M_in hw) ?_
    refine go_br (fun hc : (bI (g_M_in a2 (Int32.ofInt 0) (Int32.ofInt 99) s)) = 0 => ?_) (fun hc : ¬ ((bI (g_M_in a2 (Int32.ofInt 0) (Int32.ofInt 99) s)) = 0) => ?_)
    · replace h := (if_pos hc).symm.trans h
      cases h
      exact ⟨Or.inl rfl, hQ⟩
    · replace h := (if_neg hc).symm.trans h
      obtain ⟨q1, hq, h⟩ := bnd h
      refine go_call (fun _ hw => c_M_of hq hw) ?_
      refine go_brn (fun hc : ¬ (q1 = a2) => ?_) (fun hc : q1 = a2 => ?_)
      · replace h := (if_neg hc).symm.trans h
        obtain ⟨j3, hj, h⟩ := bnd h
        replace h := bnds h
        refine go_ix j3 (ix_lt hj) (ix_eq hj) ?_
        cases h
        exact ⟨Or.inr rfl, hQ⟩
      · replace h := (if_pos hc).symm.trans h
        cases h
        exact ⟨Or.inl rfl, hQ⟩
/-! M_chance -/
def f_M_chance_L70 (y1 : Int32) (s : S2) : Option (S2 × Bool) := ((some (pkS s 60 0 39 y1)).bind fun s1 => some (s1, true))
def f_M_chance_L53 (x1 : Int32) (x2 : Int32) (y1 : Int32) (s : S2) : Option (S2 × Bool) := ((some (pkS s 60 0 38 y1)).bind fun s1 => (if x1 = (Int32.ofInt 1) then (f_M_chance_L70 x2 s1) else (f_M_chance_L70 (s1.1 60 0 39) s1)))
def f_M_chance_L35 (x1 : Int32) (x2 : Int32) (y0 : Int32) (y1 : Int32) (s : S2) : Option (S2 × Bool) := (if y0 = y1 then some (s, false) else (if x1 = 0 then (f_M_chance_L53 x1 x2 x2 s) else (f_M_chance_L53 x1 x2 (s.1 60 0 38) s)))
def f_M_chance (a1 : Int32) (a2 : Int32) (s : S2) : Option (S2 × Bool) := (if (bI (g_M_in a1 (Int32.ofInt 0) (Int32.ofInt 1) s)) = 0 then some (s, false) else (if (bI (g_M_in a2 (Int32.ofInt 0) (Int32.ofInt 99) s)) = 0 then some (s, false) else (if a1 = 0 then (f_M_chance_L35 a1 a2 a2 (s.1 60 0 38) s) else (f_M_chance_L35 a1 a2 a2 (s.1 60 0 39) s))))
theorem c_M_chance_L70 {xs : Nat → Int32} {L d : Nat} {P : MK S2} {Q : S2 → Option MV → Prop} {res : S2 × Bool} (hP : MClosed (O3 xs L) (kcall (O3 xs L) (d + 1)) kd_M_chance 2 Q P) (hQ : Q res.1 (some (mI (bI res.2)))) (y1 : Int32) (x1 : Int32) (x2 : Int32) (s : S2) (h : f_M_chance_L70 y1 s = some res) : P 70 [some (mR 60 0), some (mI x1), some (mI x2)] [mI y1, mR 60 0] s (0, 0) := by
  refine mgo_from hP [35, 53, 70] 260 ?_
  replace h := bnds h
  cases h
  exact ⟨Or.inr rfl, hQ⟩
theorem c_M_chance_L53 {xs : Nat → Int32} {L d : Nat} {P : MK S2} {Q : S2 → Option MV → Prop} {res : S2 × Bool} (hP : MClosed (O3 xs L) (kcall (O3 xs L) (d + 1)) kd_M_chance 2 Q P) (hQ : Q res.1 (some (mI (bI res.2)))) (x1 : Int32) (x2 : Int32) (y1 : Int32) (s : S2) (h : f_M_chance_L53 x1 x2 y1 s = some res) : P 53 [some (mR 60 0), some (mI x1), some (mI x2)] [mI y1, mR 60 0] s (0, 0) := by
  refine mgo_from hP [35, 53, 70] 260 ?_
  replace h := bnds h
  refine go_brn (fun hc : ¬ (x1 = (Int32.ofInt 1)) => ?_) (fun hc : x1 = (Int32.ofInt 1) => ?_)
  · replace h := (if_neg hc).symm.trans h
    exact c_M_chance_L70 hP hQ _ _ _ _ h
  · replace h := (if_pos hc).symm.trans h
    exact c_M_chance_L70 hP hQ _ _ _ _ h
theorem c_M_chance_L35 {xs : Nat → Int32} {L d : Nat} {P : MK S2} {Q : S2 → Option MV → Prop} {res : S2 × Bool} (hP : MClosed (O3 xs L) (kcall (O3 xs L) (d + 1)) kd_M_chance 2 Q P) (hQ : Q res.1 (some (mI (bI res.2)))) (x1 : Int32) (x2 : Int32) (y0 : Int32) (y1 : Int32) (s : S2) (h : f_M_chance_L35 x1 x2 y0 y1 s = some res) : P 35 [some (mR 60 0), some (mI x1), some (mI x2)] [mI y1, mI y0] s (0, 0) := by
  refine mgo_from hP [35, 53, 70] 260 ?_
  refine go_brn (fun hc : ¬ (y0 = y1) => ?_) (fun hc : y0 = y1 => ?_)
  · replace h := (if_neg hc).symm.trans h
    refine go_brn (fun hc : ¬ (x1 = 0) => ?_) (fun hc : x1 = 0 => ?_)
    · replace h := (if_neg hc).symm.trans h
      exact c_M_chance_L53 hP hQ _ _ _ _ h
    · replace h := (if_pos hc).symm.trans h
      exact c_M_chance_L53 hP hQ _ _ _ _ h
  · replace h := (if_pos hc).symm.trans h
    cases h
    exact ⟨Or.inl rfl, hQ⟩
theorem c_M_chance {xs : Nat → Int32} {L d : Nat} {a1 : Int32} {a2 : Int32} {s : S2} {res : S2 × Bool} {Q : S2 → Option MV → Prop} (h : f_M_chance a1 a2 s = some res) (hQ : Q res.1 (some (mI (bI res.2)))) : kcall (O3 xs L) (d + 2) k_M_chance [mR 60 0, mI a1, mI a2] s Q := by
  refine kc_of (cd := kd_M_chance) (mx := 3) (rt := 2) rfl rfl ?_
  intro P hP
  refine mgo_sound hP [35, 53, 70] 260 _ _ _ _ _ ?_
  refine go_call (fun _ hw => c_M_in hw) ?_
  refine go_br (fun hc : (bI (g_M_in a1 (Int32.ofInt 0) (Int32.ofInt 1) s)) = 0 => ?_) (fun hc : ¬ ((bI (g_M_in a1 (Int32.ofInt 0) (Int32.ofInt 1) s)) = 0) => ?_)
  · replace h := (if_pos hc).symm.trans h
    cases h
    exact ⟨Or.inl rfl, hQ⟩
  · replace h := (if_neg hc).symm.trans h
    refine go_call (fun _ hw => c_M_in hw) ?_
    refine go_br (fun hc : (bI (g_M_in a2 (Int32.ofInt 0) (Int32.ofInt 99) s)) = 0 => ?_) (fun hc : ¬ ((bI (g_M_in a2 (Int32.ofInt 0) (Int32.ofInt 99) s)) = 0) => ?_)
    · replace h := (if_pos hc).symm.trans h
      cases h
      exact ⟨Or.inl rfl, hQ⟩
    · replace h := (if_neg hc).symm.trans h
      refine go_brn (fun hc : ¬ (a1 = 0) => ?_) (fun hc : a1 = 0 => ?_)
      · replace h := (if_neg hc).symm.trans h
        exact c_M_chance_L35 hP hQ _ _ _ _ _ h
      · replace h := (if_pos hc).symm.trans h
        exact c_M_chance_L35 hP hQ _ _ _ _ _ h
/-! M_bridge -/
def f_M_bridge (a1 : Int32) (a2 : Int32) (s : S2) : Option Int32 := (if (bI (g_M_in a1 (Int32.ofInt 0) ((s.1 60 0 30) - (Int32.ofInt 1)) s)) = 0 then some (Int32.ofInt (-1)) else (if (bI (g_M_in a2 (Int32.ofInt 0) (Int32.ofInt 3) s)) = 0 then some (Int32.ofInt (-1)) else (if (Int32.ofInt 3) ≤ a2 then (if (bI (g_M_has (s.1 60 0 36) a1 s)) = 0 then some (Int32.ofInt 0) else some (Int32.ofInt 1)) else ((ix 12 (((Int32.ofInt 3) * a1) + a2)).bind fun j1 => some (s.1 78 0 j1)))))
set_option maxRecDepth 20000 in
set_option maxHeartbeats 4000000 in
theorem c_M_bridge {xs : Nat → Int32} {L d : Nat} {a1 : Int32} {a2 : Int32} {s : S2} {res : Int32} {Q : S2 → Option MV → Prop} (h : f_M_bridge a1 a2 s = some res) (hQ : Q s (some (mI res))) : kcall (O3 xs L) (d + 2) k_M_bridge [mR 60 0, mI a1, mI a2] s Q := by
  refine kc_of (cd := kd_M_bridge) (mx := 3) (rt := 1) rfl rfl ?_
  intro P hP
  refine mgo_sound hP [] 260 _ _ _ _ _ ?_
  refine go_call (fun _ hw => c_M_in hw) ?_
  refine go_br (fun hc : (bI (g_M_in a1 (Int32.ofInt 0) ((s.1 60 0 30) - (Int32.ofInt 1)) s)) = 0 => ?_) (fun hc : ¬ ((bI (g_M_in a1 (Int32.ofInt 0) ((s.1 60 0 30) - (Int32.ofInt 1)) s)) = 0) => ?_)
  · replace h := (if_pos hc).symm.trans h
    cases h
    exact hQ
  · replace h := (if_neg hc).symm.trans h
    refine go_call (fun _ hw => c_M_in hw) ?_
    refine go_brn (fun hc : ¬ ((bI (g_M_in a2 (Int32.ofInt 0) (Int32.ofInt 3) s)) = 0) => ?_) (fun hc : (bI (g_M_in a2 (Int32.ofInt 0) (Int32.ofInt 3) s)) = 0 => ?_)
    · replace h := (if_neg hc).symm.trans h
      refine go_br (fun hc : (Int32.ofInt 3) ≤ a2 => ?_) (fun hc : ¬ ((Int32.ofInt 3) ≤ a2) => ?_)
      · replace h := (if_pos hc).symm.trans h
        refine go_call (fun _ hw => c_M_has hw) ?_
        refine go_br (fun hc : (bI (g_M_has (s.1 60 0 36) a1 s)) = 0 => ?_) (fun hc : ¬ ((bI (g_M_has (s.1 60 0 36) a1 s)) = 0) => ?_)
        · replace h := (if_pos hc).symm.trans h
          cases h
          exact hQ
        · replace h := (if_neg hc).symm.trans h
          cases h
          exact hQ
      · replace h := (if_neg hc).symm.trans h
        obtain ⟨j1, hj, h⟩ := bnd h
        refine go_ix j1 (ix_lt hj) (ix_eq hj) ?_
        cases h
        exact hQ
    · replace h := (if_pos hc).symm.trans h
      cases h
      exact hQ
/-! M_areSeasons -/
def g_M_areSeasons (a1 : Int32) (a2 : Int32) (a3 : Int32) (s : S2) : Bool := (if (s.1 60 0 28) ≤ 0 then false else (if (bI (g_M_in a1 a2 a3 s)) = 0 then false else true))
theorem cr_M_areSeasons {xs : Nat → Int32} {L d : Nat} {a1 : Int32} {a2 : Int32} {a3 : Int32} {s : S2} {res : Bool} {Q : S2 → Option MV → Prop} (h : g_M_areSeasons a1 a2 a3 s = res) (hQ : Q s (some (mI (bI res)))) : kcall (O3 xs L) (d + 2) k_M_areSeasons [mR 60 0, mI a1, mI a2, mI a3] s Q := by
  refine kc_of (cd := kd_M_areSeasons) (mx := 4) (rt := 2) rfl rfl ?_
  intro P hP
  refine mgo_sound hP [] 260 _ _ _ _ _ ?_
  refine go_br (fun hc : (s.1 60 0 28) ≤ 0 => ?_) (fun hc : ¬ ((s.1 60 0 28) ≤ 0) => ?_)
  · replace h := (if_pos hc).symm.trans h
    cases h
    exact ⟨Or.inl rfl, hQ⟩
  · replace h := (if_neg hc).symm.trans h
    refine go_call (fun _ hw => c_M_in hw) ?_
    refine go_br (fun hc : (bI (g_M_in a1 a2 a3 s)) = 0 => ?_) (fun hc : ¬ ((bI (g_M_in a1 a2 a3 s)) = 0) => ?_)
    · replace h := (if_pos hc).symm.trans h
      cases h
      exact ⟨Or.inl rfl, hQ⟩
    · replace h := (if_neg hc).symm.trans h
      cases h
      exact ⟨Or.inr rfl, hQ⟩
theorem c_M_areSeasons {xs : Nat → Int32} {L d : Nat} {a1 : Int32} {a2 : Int32} {a3 : Int32} {s : S2} {Q : S2 → Option MV → Prop} (hQ : Q s (some (mI (bI (g_M_areSeasons a1 a2 a3 s))))) : kcall (O3 xs L) (d + 2) k_M_areSeasons [mR 60 0, mI a1, mI a2, mI a3] s Q := cr_M_areSeasons rfl hQ
/-! M_write -/
def b_M_write_L107 (c1 : Nat) (i1 : Nat) (n1 : Nat) (k107 : Int32 → Int32 → S2 → Option S2) (x2 : Int32) (x3 : Int32) (s : S2) : Option S2 := (if (Int32.ofInt 8) ≤ x3 then ((ix n1 ((x2 + (Int32.ofInt 46)) - (Int32.ofInt 2))).bind fun j2 => (some (pkS s c1 i1 j2 (s.1 60 0 36))).bind fun s1 => ((ix n1 ((x2 + (Int32.ofInt 46)) - (Int32.ofInt 1))).bind fun j4 => (some (pkS s1 c1 i1 j4 (s1.1 60 0 37))).bind fun s3 => some s3)) else ((ix 44 (((Int32.ofInt 4) * x3) + (Int32.ofInt 2))).bind fun j5 => ((ix n1 ((x2 + (Int32.ofInt 30)) + x3)).bind fun j7 => (some (pkS s c1 i1 j7 (s.1 77 0 j5))).bind fun s6 => (k107 x2 (x3 + (Int32.ofInt 1)) s6))))
def f_M_write_L107 (c1 : Nat) (i1 : Nat) (n1 : Nat) : Nat → Int32 → Int32 → S2 → Option S2
  | 0 => fun _ _ _ => none
  | n + 1 => b_M_write_L107 c1 i1 n1 (f_M_write_L107 c1 i1 n1 n)
def b_M_write_L2 (c1 : Nat) (i1 : Nat) (n1 : Nat) (k2 : Int32 → Int32 → S2 → Option S2) (x2 : Int32) (x3 : Int32) (s : S2) : Option S2 := (if (Int32.ofInt 6) ≤ x3 then (f_M_write_L107 c1 i1 n1 FU x2 (Int32.ofInt 0) s) else ((ix 6 x3).bind fun j1 => ((ix n1 (x2 + ((Int32.ofInt 5) * x3))).bind fun j3 => (some (pkS s c1 i1 j3 (s.1 79 0 j1))).bind fun s2 => ((ix 6 x3).bind fun j4 => ((ix n1 ((x2 + ((Int32.ofInt 5) * x3)) + (Int32.ofInt 1))).bind fun j6 => (some (pkS s2 c1 i1 j6 (s2.1 80 0 j4))).bind fun s5 => ((ix 6 x3).bind fun j7 => ((ix n1 ((x2 + ((Int32.ofInt 5) * x3)) + (Int32.ofInt 2))).bind fun j9 => (some (pkS s5 c1 i1 j9 (s5.1 81 0 j7))).bind fun s8 => ((ix 6 x3).bind fun j10 => ((ix n1 ((x2 + ((Int32.ofInt 5) * x3)) + (Int32.ofInt 3))).bind fun j12 => (some (pkS s8 c1 i1 j12 (s8.1 82 0 j10))).bind fun s11 => ((ix 6 x3).bind fun j13 => ((ix n1 ((x2 + ((Int32.ofInt 5) * x3)) + (Int32.ofInt 4))).bind fun j15 => (some (pkS s11 c1 i1 j15 (s11.1 83 0 j13))).bind fun s14 => ((f_M_of x3 (Int32.ofInt 7) s14).bind fun q16 => ((ix n1 (((x2 + (Int32.ofInt 30)) + (Int32.ofInt 8)) + x3)).bind fun j18 => (some (pkS s14 c1 i1 j18 q16)).bind fun s17 => (k2 x2 (x3 + (Int32.ofInt 1)) s17))))))))))))))
def f_M_write_L2 (c1 : Nat) (i1 : Nat) (n1 : Nat) : Nat → Int32 → Int32 → S2 → Option S2
  | 0 => fun _ _ _ => none
  | n + 1 => b_M_write_L2 c1 i1 n1 (f_M_write_L2 c1 i1 n1 n)
def f_M_write (c1 : Nat) (i1 : Nat) (n1 : Nat) (a2 : Int32) (s : S2) : Option S2 := (f_M_write_L2 c1 i1 n1 FU a2 (Int32.ofInt 0) s)
theorem cb_M_write_91_L107 {xs : Nat → Int32} {L d : Nat} {i1 : Nat} {P : MK S2} {Q : S2 → Option MV → Prop} {res : S2} (hP : MClosed (O3 xs L) (kcall (O3 xs L) (d + 1)) kd_M_write 0 Q P) (hQ : Q res none) {k107 : Int32 → Int32 → S2 → Option S2} (hk107 : ∀ (x2 : Int32) (x3 : Int32) (s : S2), k107 x2 x3 s = some res → P 107 [some (mR 60 0), some (mR 91 i1), some (mI x2), some (mI x3)] [] s (0, 0)) (x2 : Int32) (x3 : Int32) (s : S2) (h : b_M_write_L107 91 i1 46 k107 x2 x3 s = some res) : P 107 [some (mR 60 0), some (mR 91 i1), some (mI x2), some (mI x3)] [] s (0, 0) := by
  refine mgo_from hP [2, 107] 260 ?_
  refine go_br (fun hc : (Int32.ofInt 8) ≤ x3 => ?_) (fun hc : ¬ ((Int32.ofInt 8) ≤ x3) => ?_)
  · replace h := (if_pos hc).symm.trans h
    obtain ⟨j2, hj, h⟩ := bnd h
    replace h := bnds h
    refine go_ix j2 (ix_lt hj) (ix_eq hj) ?_
    obtain ⟨j4, hj, h⟩ := bnd h
    replace h := bnds h
    refine go_ix j4 (ix_lt hj) (ix_eq hj) ?_
    cases h
    exact hQ
  · replace h := (if_neg hc).symm.trans h
    obtain ⟨j5, hj, h⟩ := bnd h
    refine go_ix j5 (ix_lt hj) (ix_eq hj) ?_
    obtain ⟨j7, hj, h⟩ := bnd h
    replace h := bnds h
    refine go_ix j7 (ix_lt hj) (ix_eq hj) ?_
    exact hk107 _ _ _ h
theorem c_M_write_91_L107 {xs : Nat → Int32} {L d : Nat} {i1 : Nat} {P : MK S2} {Q : S2 → Option MV → Prop} {res : S2} (hP : MClosed (O3 xs L) (kcall (O3 xs L) (d + 1)) kd_M_write 0 Q P) (hQ : Q res none) : ∀ (fu : Nat) (x2 : Int32) (x3 : Int32) (s : S2), f_M_write_L107 91 i1 46 fu x2 x3 s = some res → P 107 [some (mR 60 0), some (mR 91 i1), some (mI x2), some (mI x3)] [] s (0, 0)
  | 0, _, _, _, h => by cases h
  | fu + 1, x2, x3, s, h => cb_M_write_91_L107 hP hQ (c_M_write_91_L107 hP hQ fu) x2 x3 s h
set_option maxRecDepth 20000 in
set_option maxHeartbeats 4000000 in
theorem cb_M_write_91_L2 {xs : Nat → Int32} {L d : Nat} {i1 : Nat} {P : MK S2} {Q : S2 → Option MV → Prop} {res : S2} (hP : MClosed (O3 xs L) (kcall (O3 xs L) (d + 1)) kd_M_write 0 Q P) (hQ : Q res none) {k2 : Int32 → Int32 → S2 → Option S2} (hk2 : ∀ (x2 : Int32) (x3 : Int32) (s : S2), k2 x2 x3 s = some res → P 2 [some (mR 60 0), some (mR 91 i1), some (mI x2), some (mI x3)] [] s (0, 0)) (x2 : Int32) (x3 : Int32) (s : S2) (h : b_M_write_L2 91 i1 46 k2 x2 x3 s = some res) : P 2 [some (mR 60 0), some (mR 91 i1), some (mI x2), some (mI x3)] [] s (0, 0) := by
  refine mgo_from hP [2, 107] 260 ?_
  refine go_br (fun hc : (Int32.ofInt 6) ≤ x3 => ?_) (fun hc : ¬ ((Int32.ofInt 6) ≤ x3) => ?_)
  · replace h := (if_pos hc).symm.trans h
    exact c_M_write_91_L107 hP hQ FU _ _ _ h
  · replace h := (if_neg hc).symm.trans h
    obtain ⟨j1, hj, h⟩ := bnd h
    refine go_ix j1 (ix_lt hj) (ix_eq hj) ?_
    obtain ⟨j3, hj, h⟩ := bnd h
    replace h := bnds h
    refine go_ix j3 (ix_lt hj) (ix_eq hj) ?_
    obtain ⟨j4, hj, h⟩ := bnd h
    refine go_ix j4 (ix_lt hj) (ix_eq hj) ?_
    obtain ⟨j6, hj, h⟩ := bnd h
    replace h := bnds h
    refine go_ix j6 (ix_lt hj) (ix_eq hj) ?_
    obtain ⟨j7, hj, h⟩ := bnd h
    refine go_ix j7 (ix_lt hj) (ix_eq hj) ?_
    obtain ⟨j9, hj, h⟩ := bnd h
    replace h := bnds h
    refine go_ix j9 (ix_lt hj) (ix_eq hj) ?_
    obtain ⟨j10, hj, h⟩ := bnd h
    refine go_ix j10 (ix_lt hj) (ix_eq hj) ?_
    obtain ⟨j12, hj, h⟩ := bnd h
    replace h := bnds h
    refine go_ix j12 (ix_lt hj) (ix_eq hj) ?_
    obtain ⟨j13, hj, h⟩ := bnd h
    refine go_ix j13 (ix_lt hj) (ix_eq hj) ?_
    obtain ⟨j15, hj, h⟩ := bnd h
    replace h := bnds h
    refine go_ix j15 (ix_lt hj) (ix_eq hj) ?_
    obtain ⟨q16, hq, h⟩ := bnd h
    refine go_call (fun _ hw => c_M_of hq hw) ?_
    obtain ⟨j18, hj, h⟩ := bnd h
    replace h := bnds h
    refine go_ix j18 (ix_lt hj) (ix_eq hj) ?_
    exact hk2 _ _ _ h
theorem c_M_write_91_L2 {xs : Nat → Int32} {L d : Nat} {i1 : Nat} {P : MK S2} {Q : S2 → Option MV → Prop} {res : S2} (hP : MClosed (O3 xs L) (kcall (O3 xs L) (d + 1)) kd_M_write 0 Q P) (hQ : Q res none) : ∀ (fu : Nat) (x2 : Int32) (x3 : Int32) (s : S2), f_M_write_L2 91 i1 46 fu x2 x3 s = some res → P 2 [some (mR 60 0), some (mR 91 i1), some (mI x2), some (mI x3)] [] s (0, 0)
  | 0, _, _, _, h => by cases h
  | fu + 1, x2, x3, s, h => cb_M_write_91_L2 hP hQ (c_M_write_91_L2 hP hQ fu) x2 x3 s h
theorem c_M_write_91 {xs : Nat → Int32} {L d : Nat} {i1 : Nat} {a2 : Int32} {s : S2} {res : S2} {Q : S2 → Option MV → Prop} (h : f_M_write 91 i1 46 a2 s = some res) (hQ : Q res none) : kcall (O3 xs L) (d + 2) k_M_write [mR 60 0, mR 91 i1, mI a2] s Q := by
  refine kc_of (cd := kd_M_write) (mx := 4) (rt := 0) rfl rfl ?_
  intro P hP
  refine mgo_sound hP [2, 107] 260 _ _ _ _ _ ?_
  exact c_M_write_91_L2 hP hQ FU _ _ _ h
theorem cb_M_write_92_L107 {xs : Nat → Int32} {L d : Nat} {i1 : Nat} {P : MK S2} {Q : S2 → Option MV → Prop} {res : S2} (hP : MClosed (O3 xs L) (kcall (O3 xs L) (d + 1)) kd_M_write 0 Q P) (hQ : Q res none) {k107 : Int32 → Int32 → S2 → Option S2} (hk107 : ∀ (x2 : Int32) (x3 : Int32) (s : S2), k107 x2 x3 s = some res → P 107 [some (mR 60 0), some (mR 92 i1), some (mI x2), some (mI x3)] [] s (0, 0)) (x2 : Int32) (x3 : Int32) (s : S2) (h : b_M_write_L107 92 i1 1380 k107 x2 x3 s = some res) : P 107 [some (mR 60 0), some (mR 92 i1), some (mI x2), some (mI x3)] [] s (0, 0) := by
  refine mgo_from hP [2, 107] 260 ?_
  refine go_br (fun hc : (Int32.ofInt 8) ≤ x3 => ?_) (fun hc : ¬ ((Int32.ofInt 8) ≤ x3) => ?_)
  · replace h := (if_pos hc).symm.trans h
    obtain ⟨j2, hj, h⟩ := bnd h
    replace h := bnds h
    refine go_ix j2 (ix_lt hj) (ix_eq hj) ?_
    obtain ⟨j4, hj, h⟩ := bnd h
    replace h := bnds h
    refine go_ix j4 (ix_lt hj) (ix_eq hj) ?_
    cases h
    exact hQ
  · replace h := (if_neg hc).symm.trans h
    obtain ⟨j5, hj, h⟩ := bnd h
    refine go_ix j5 (ix_lt hj) (ix_eq hj) ?_
    obtain ⟨j7, hj, h⟩ := bnd h
    replace h := bnds h
    refine go_ix j7 (ix_lt hj) (ix_eq hj) ?_
    exact hk107 _ _ _ h
theorem c_M_write_92_L107 {xs : Nat → Int32} {L d : Nat} {i1 : Nat} {P : MK S2} {Q : S2 → Option MV → Prop} {res : S2} (hP : MClosed (O3 xs L) (kcall (O3 xs L) (d + 1)) kd_M_write 0 Q P) (hQ : Q res none) : ∀ (fu : Nat) (x2 : Int32) (x3 : Int32) (s : S2), f_M_write_L107 92 i1 1380 fu x2 x3 s = some res → P 107 [some (mR 60 0), some (mR 92 i1), some (mI x2), some (mI x3)] [] s (0, 0)
  | 0, _, _, _, h => by cases h
  | fu + 1, x2, x3, s, h => cb_M_write_92_L107 hP hQ (c_M_write_92_L107 hP hQ fu) x2 x3 s h
set_option maxRecDepth 20000 in
set_option maxHeartbeats 4000000 in
theorem cb_M_write_92_L2 {xs : Nat → Int32} {L d : Nat} {i1 : Nat} {P : MK S2} {Q : S2 → Option MV → Prop} {res : S2} (hP : MClosed (O3 xs L) (kcall (O3 xs L) (d + 1)) kd_M_write 0 Q P) (hQ : Q res none) {k2 : Int32 → Int32 → S2 → Option S2} (hk2 : ∀ (x2 : Int32) (x3 : Int32) (s : S2), k2 x2 x3 s = some res → P 2 [some (mR 60 0), some (mR 92 i1), some (mI x2), some (mI x3)] [] s (0, 0)) (x2 : Int32) (x3 : Int32) (s : S2) (h : b_M_write_L2 92 i1 1380 k2 x2 x3 s = some res) : P 2 [some (mR 60 0), some (mR 92 i1), some (mI x2), some (mI x3)] [] s (0, 0) := by
  refine mgo_from hP [2, 107] 260 ?_
  refine go_br (fun hc : (Int32.ofInt 6) ≤ x3 => ?_) (fun hc : ¬ ((Int32.ofInt 6) ≤ x3) => ?_)
  · replace h := (if_pos hc).symm.trans h
    exact c_M_write_92_L107 hP hQ FU _ _ _ h
  · replace h := (if_neg hc).symm.trans h
    obtain ⟨j1, hj, h⟩ := bnd h
    refine go_ix j1 (ix_lt hj) (ix_eq hj) ?_
    obtain ⟨j3, hj, h⟩ := bnd h
    replace h := bnds h
    refine go_ix j3 (ix_lt hj) (ix_eq hj) ?_
    obtain ⟨j4, hj, h⟩ := bnd h
    refine go_ix j4 (ix_lt hj) (ix_eq hj) ?_
    obtain ⟨j6, hj, h⟩ := bnd h
    replace h := bnds h
    refine go_ix j6 (ix_lt hj) (ix_eq hj) ?_
    obtain ⟨j7, hj, h⟩ := bnd h
    refine go_ix j7 (ix_lt hj) (ix_eq hj) ?_
    obtain ⟨j9, hj, h⟩ := bnd h
    replace h := bnds h
    refine go_ix j9 (ix_lt hj) (ix_eq hj) ?_
    obtain ⟨j10, hj, h⟩ := bnd h
    refine go_ix j10 (ix_lt hj) (ix_eq hj) ?_
    obtain ⟨j12, hj, h⟩ := bnd h
    replace h := bnds h
    refine go_ix j12 (ix_lt hj) (ix_eq hj) ?_
    obtain ⟨j13, hj, h⟩ := bnd h
    refine go_ix j13 (ix_lt hj) (ix_eq hj) ?_
    obtain ⟨j15, hj, h⟩ := bnd h
    replace h := bnds h
    refine go_ix j15 (ix_lt hj) (ix_eq hj) ?_
    obtain ⟨q16, hq, h⟩ := bnd h
    refine go_call (fun _ hw => c_M_of hq hw) ?_
    obtain ⟨j18, hj, h⟩ := bnd h
    replace h := bnds h
    refine go_ix j18 (ix_lt hj) (ix_eq hj) ?_
    exact hk2 _ _ _ h
theorem c_M_write_92_L2 {xs : Nat → Int32} {L d : Nat} {i1 : Nat} {P : MK S2} {Q : S2 → Option MV → Prop} {res : S2} (hP : MClosed (O3 xs L) (kcall (O3 xs L) (d + 1)) kd_M_write 0 Q P) (hQ : Q res none) : ∀ (fu : Nat) (x2 : Int32) (x3 : Int32) (s : S2), f_M_write_L2 92 i1 1380 fu x2 x3 s = some res → P 2 [some (mR 60 0), some (mR 92 i1), some (mI x2), some (mI x3)] [] s (0, 0)
  | 0, _, _, _, h => by cases h
  | fu + 1, x2, x3, s, h => cb_M_write_92_L2 hP hQ (c_M_write_92_L2 hP hQ fu) x2 x3 s h
theorem c_M_write_92 {xs : Nat → Int32} {L d : Nat} {i1 : Nat} {a2 : Int32} {s : S2} {res : S2} {Q : S2 → Option MV → Prop} (h : f_M_write 92 i1 1380 a2 s = some res) (hQ : Q res none) : kcall (O3 xs L) (d + 2) k_M_write [mR 60 0, mR 92 i1, mI a2] s Q := by
  refine kc_of (cd := kd_M_write) (mx := 4) (rt := 0) rfl rfl ?_
  intro P hP
  refine mgo_sound hP [2, 107] 260 _ _ _ _ _ ?_
  exact c_M_write_92_L2 hP hQ FU _ _ _ h
theorem cb_M_write_96_L107 {xs : Nat → Int32} {L d : Nat} {i1 : Nat} {P : MK S2} {Q : S2 → Option MV → Prop} {res : S2} (hP : MClosed (O3 xs L) (kcall (O3 xs L) (d + 1)) kd_M_write 0 Q P) (hQ : Q res none) {k107 : Int32 → Int32 → S2 → Option S2} (hk107 : ∀ (x2 : Int32) (x3 : Int32) (s : S2), k107 x2 x3 s = some res → P 107 [some (mR 60 0), some (mR 96 i1), some (mI x2), some (mI x3)] [] s (0, 0)) (x2 : Int32) (x3 : Int32) (s : S2) (h : b_M_write_L107 96 i1 322 k107 x2 x3 s = some res) : P 107 [some (mR 60 0), some (mR 96 i1), some (mI x2), some (mI x3)] [] s (0, 0) := by
  refine mgo_from hP [2, 107] 260 ?_
  refine go_br (fun hc : (Int32.ofInt 8) ≤ x3 => ?_) (fun hc : ¬ ((Int32.ofInt 8) ≤ x3) => ?_)
  · replace h := (if_pos hc).symm.trans h
    obtain ⟨j2, hj, h⟩ := bnd h
    replace h := bnds h
    refine go_ix j2 (ix_lt hj) (ix_eq hj) ?_
    obtain ⟨j4, hj, h⟩ := bnd h
    replace h := bnds h
    refine go_ix j4 (ix_lt hj) (ix_eq hj) ?_
    cases h
    exact hQ
  · replace h := (if_neg hc).symm.trans h
    obtain ⟨j5, hj, h⟩ := bnd h
    refine go_ix j5 (ix_lt hj) (ix_eq hj) ?_
    obtain ⟨j7, hj, h⟩ := bnd h
    replace h := bnds h
    refine go_ix j7 (ix_lt hj) (ix_eq hj) ?_
    exact hk107 _ _ _ h
theorem c_M_write_96_L107 {xs : Nat → Int32} {L d : Nat} {i1 : Nat} {P : MK S2} {Q : S2 → Option MV → Prop} {res : S2} (hP : MClosed (O3 xs L) (kcall (O3 xs L) (d + 1)) kd_M_write 0 Q P) (hQ : Q res none) : ∀ (fu : Nat) (x2 : Int32) (x3 : Int32) (s : S2), f_M_write_L107 96 i1 322 fu x2 x3 s = some res → P 107 [some (mR 60 0), some (mR 96 i1), some (mI x2), some (mI x3)] [] s (0, 0)
  | 0, _, _, _, h => by cases h
  | fu + 1, x2, x3, s, h => cb_M_write_96_L107 hP hQ (c_M_write_96_L107 hP hQ fu) x2 x3 s h
set_option maxRecDepth 20000 in
set_option maxHeartbeats 4000000 in
theorem cb_M_write_96_L2 {xs : Nat → Int32} {L d : Nat} {i1 : Nat} {P : MK S2} {Q : S2 → Option MV → Prop} {res : S2} (hP : MClosed (O3 xs L) (kcall (O3 xs L) (d + 1)) kd_M_write 0 Q P) (hQ : Q res none) {k2 : Int32 → Int32 → S2 → Option S2} (hk2 : ∀ (x2 : Int32) (x3 : Int32) (s : S2), k2 x2 x3 s = some res → P 2 [some (mR 60 0), some (mR 96 i1), some (mI x2), some (mI x3)] [] s (0, 0)) (x2 : Int32) (x3 : Int32) (s : S2) (h : b_M_write_L2 96 i1 322 k2 x2 x3 s = some res) : P 2 [some (mR 60 0), some (mR 96 i1), some (mI x2), some (mI x3)] [] s (0, 0) := by
  refine mgo_from hP [2, 107] 260 ?_
  refine go_br (fun hc : (Int32.ofInt 6) ≤ x3 => ?_) (fun hc : ¬ ((Int32.ofInt 6) ≤ x3) => ?_)
  · replace h := (if_pos hc).symm.trans h
    exact c_M_write_96_L107 hP hQ FU _ _ _ h
  · replace h := (if_neg hc).symm.trans h
    obtain ⟨j1, hj, h⟩ := bnd h
    refine go_ix j1 (ix_lt hj) (ix_eq hj) ?_
    obtain ⟨j3, hj, h⟩ := bnd h
    replace h := bnds h
    refine go_ix j3 (ix_lt hj) (ix_eq hj) ?_
    obtain ⟨j4, hj, h⟩ := bnd h
    refine go_ix j4 (ix_lt hj) (ix_eq hj) ?_
    obtain ⟨j6, hj, h⟩ := bnd h
    replace h := bnds h
    refine go_ix j6 (ix_lt hj) (ix_eq hj) ?_
    obtain ⟨j7, hj, h⟩ := bnd h
    refine go_ix j7 (ix_lt hj) (ix_eq hj) ?_
    obtain ⟨j9, hj, h⟩ := bnd h
    replace h := bnds h
    refine go_ix j9 (ix_lt hj) (ix_eq hj) ?_
    obtain ⟨j10, hj, h⟩ := bnd h
    refine go_ix j10 (ix_lt hj) (ix_eq hj) ?_
    obtain ⟨j12, hj, h⟩ := bnd h
    replace h := bnds h
    refine go_ix j12 (ix_lt hj) (ix_eq hj) ?_
    obtain ⟨j13, hj, h⟩ := bnd h
    refine go_ix j13 (ix_lt hj) (ix_eq hj) ?_
    obtain ⟨j15, hj, h⟩ := bnd h
    replace h := bnds h
    refine go_ix j15 (ix_lt hj) (ix_eq hj) ?_
    obtain ⟨q16, hq, h⟩ := bnd h
    refine go_call (fun _ hw => c_M_of hq hw) ?_
    obtain ⟨j18, hj, h⟩ := bnd h
    replace h := bnds h
    refine go_ix j18 (ix_lt hj) (ix_eq hj) ?_
    exact hk2 _ _ _ h
theorem c_M_write_96_L2 {xs : Nat → Int32} {L d : Nat} {i1 : Nat} {P : MK S2} {Q : S2 → Option MV → Prop} {res : S2} (hP : MClosed (O3 xs L) (kcall (O3 xs L) (d + 1)) kd_M_write 0 Q P) (hQ : Q res none) : ∀ (fu : Nat) (x2 : Int32) (x3 : Int32) (s : S2), f_M_write_L2 96 i1 322 fu x2 x3 s = some res → P 2 [some (mR 60 0), some (mR 96 i1), some (mI x2), some (mI x3)] [] s (0, 0)
  | 0, _, _, _, h => by cases h
  | fu + 1, x2, x3, s, h => cb_M_write_96_L2 hP hQ (c_M_write_96_L2 hP hQ fu) x2 x3 s h
theorem c_M_write_96 {xs : Nat → Int32} {L d : Nat} {i1 : Nat} {a2 : Int32} {s : S2} {res : S2} {Q : S2 → Option MV → Prop} (h : f_M_write 96 i1 322 a2 s = some res) (hQ : Q res none) : kcall (O3 xs L) (d + 2) k_M_write [mR 60 0, mR 96 i1, mI a2] s Q := by
  refine kc_of (cd := kd_M_write) (mx := 4) (rt := 0) rfl rfl ?_
  intro P hP
  refine mgo_sound hP [2, 107] 260 _ _ _ _ _ ?_
  exact c_M_write_96_L2 hP hQ FU _ _ _ h
theorem cb_M_write_101_L107 {xs : Nat → Int32} {L d : Nat} {i1 : Nat} {P : MK S2} {Q : S2 → Option MV → Prop} {res : S2} (hP : MClosed (O3 xs L) (kcall (O3 xs L) (d + 1)) kd_M_write 0 Q P) (hQ : Q res none) {k107 : Int32 → Int32 → S2 → Option S2} (hk107 : ∀ (x2 : Int32) (x3 : Int32) (s : S2), k107 x2 x3 s = some res → P 107 [some (mR 60 0), some (mR 101 i1), some (mI x2), some (mI x3)] [] s (0, 0)) (x2 : Int32) (x3 : Int32) (s : S2) (h : b_M_write_L107 101 i1 46 k107 x2 x3 s = some res) : P 107 [some (mR 60 0), some (mR 101 i1), some (mI x2), some (mI x3)] [] s (0, 0) := by
  refine mgo_from hP [2, 107] 260 ?_
  refine go_br (fun hc : (Int32.ofInt 8) ≤ x3 => ?_) (fun hc : ¬ ((Int32.ofInt 8) ≤ x3) => ?_)
  · replace h := (if_pos hc).symm.trans h
    obtain ⟨j2, hj, h⟩ := bnd h
    replace h := bnds h
    refine go_ix j2 (ix_lt hj) (ix_eq hj) ?_
    obtain ⟨j4, hj, h⟩ := bnd h
    replace h := bnds h
    refine go_ix j4 (ix_lt hj) (ix_eq hj) ?_
    cases h
    exact hQ
  · replace h := (if_neg hc).symm.trans h
    obtain ⟨j5, hj, h⟩ := bnd h
    refine go_ix j5 (ix_lt hj) (ix_eq hj) ?_
    obtain ⟨j7, hj, h⟩ := bnd h
    replace h := bnds h
    refine go_ix j7 (ix_lt hj) (ix_eq hj) ?_
    exact hk107 _ _ _ h
theorem c_M_write_101_L107 {xs : Nat → Int32} {L d : Nat} {i1 : Nat} {P : MK S2} {Q : S2 → Option MV → Prop} {res : S2} (hP : MClosed (O3 xs L) (kcall (O3 xs L) (d + 1)) kd_M_write 0 Q P) (hQ : Q res none) : ∀ (fu : Nat) (x2 : Int32) (x3 : Int32) (s : S2), f_M_write_L107 101 i1 46 fu x2 x3 s = some res → P 107 [some (mR 60 0), some (mR 101 i1), some (mI x2), some (mI x3)] [] s (0, 0)
  | 0, _, _, _, h => by cases h
  | fu + 1, x2, x3, s, h => cb_M_write_101_L107 hP hQ (c_M_write_101_L107 hP hQ fu) x2 x3 s h
set_option maxRecDepth 20000 in
set_option maxHeartbeats 4000000 in
theorem cb_M_write_101_L2 {xs : Nat → Int32} {L d : Nat} {i1 : Nat} {P : MK S2} {Q : S2 → Option MV → Prop} {res : S2} (hP : MClosed (O3 xs L) (kcall (O3 xs L) (d + 1)) kd_M_write 0 Q P) (hQ : Q res none) {k2 : Int32 → Int32 → S2 → Option S2} (hk2 : ∀ (x2 : Int32) (x3 : Int32) (s : S2), k2 x2 x3 s = some res → P 2 [some (mR 60 0), some (mR 101 i1), some (mI x2), some (mI x3)] [] s (0, 0)) (x2 : Int32) (x3 : Int32) (s : S2) (h : b_M_write_L2 101 i1 46 k2 x2 x3 s = some res) : P 2 [some (mR 60 0), some (mR 101 i1), some (mI x2), some (mI x3)] [] s (0, 0) := by
  refine mgo_from hP [2, 107] 260 ?_
  refine go_br (fun hc : (Int32.ofInt 6) ≤ x3 => ?_) (fun hc : ¬ ((Int32.ofInt 6) ≤ x3) => ?_)
  · replace h := (if_pos hc).symm.trans h
    exact c_M_write_101_L107 hP hQ FU _ _ _ h
  · replace h := (if_neg hc).symm.trans h
    obtain ⟨j1, hj, h⟩ := bnd h
    refine go_ix j1 (ix_lt hj) (ix_eq hj) ?_
    obtain ⟨j3, hj, h⟩ := bnd h
    replace h := bnds h
    refine go_ix j3 (ix_lt hj) (ix_eq hj) ?_
    obtain ⟨j4, hj, h⟩ := bnd h
    refine go_ix j4 (ix_lt hj) (ix_eq hj) ?_
    obtain ⟨j6, hj, h⟩ := bnd h
    replace h := bnds h
    refine go_ix j6 (ix_lt hj) (ix_eq hj) ?_
    obtain ⟨j7, hj, h⟩ := bnd h
    refine go_ix j7 (ix_lt hj) (ix_eq hj) ?_
    obtain ⟨j9, hj, h⟩ := bnd h
    replace h := bnds h
    refine go_ix j9 (ix_lt hj) (ix_eq hj) ?_
    obtain ⟨j10, hj, h⟩ := bnd h
    refine go_ix j10 (ix_lt hj) (ix_eq hj) ?_
    obtain ⟨j12, hj, h⟩ := bnd h
    replace h := bnds h
    refine go_ix j12 (ix_lt hj) (ix_eq hj) ?_
    obtain ⟨j13, hj, h⟩ := bnd h
    refine go_ix j13 (ix_lt hj) (ix_eq hj) ?_
    obtain ⟨j15, hj, h⟩ := bnd h
    replace h := bnds h
    refine go_ix j15 (ix_lt hj) (ix_eq hj) ?_
    obtain ⟨q16, hq, h⟩ := bnd h
    refine go_call (fun _ hw => c_M_of hq hw) ?_
    obtain ⟨j18, hj, h⟩ := bnd h
    replace h := bnds h
    refine go_ix j18 (ix_lt hj) (ix_eq hj) ?_
    exact hk2 _ _ _ h
theorem c_M_write_101_L2 {xs : Nat → Int32} {L d : Nat} {i1 : Nat} {P : MK S2} {Q : S2 → Option MV → Prop} {res : S2} (hP : MClosed (O3 xs L) (kcall (O3 xs L) (d + 1)) kd_M_write 0 Q P) (hQ : Q res none) : ∀ (fu : Nat) (x2 : Int32) (x3 : Int32) (s : S2), f_M_write_L2 101 i1 46 fu x2 x3 s = some res → P 2 [some (mR 60 0), some (mR 101 i1), some (mI x2), some (mI x3)] [] s (0, 0)
  | 0, _, _, _, h => by cases h
  | fu + 1, x2, x3, s, h => cb_M_write_101_L2 hP hQ (c_M_write_101_L2 hP hQ fu) x2 x3 s h
theorem c_M_write_101 {xs : Nat → Int32} {L d : Nat} {i1 : Nat} {a2 : Int32} {s : S2} {res : S2} {Q : S2 → Option MV → Prop} (h : f_M_write 101 i1 46 a2 s = some res) (hQ : Q res none) : kcall (O3 xs L) (d + 2) k_M_write [mR 60 0, mR 101 i1, mI a2] s Q := by
  refine kc_of (cd := kd_M_write) (mx := 4) (rt := 0) rfl rfl ?_
  intro P hP
  refine mgo_sound hP [2, 107] 260 _ _ _ _ _ ?_
  exact c_M_write_101_L2 hP hQ FU _ _ _ h
/-! M_bounded -/
def g_M_bounded (a0 : Int64) (s : S2) : Int32 := (Int64.toInt32 (jmaxL (Int64.ofInt (-1000000)) (jminL (Int64.ofInt 1000000) a0)))
theorem cr_M_bounded {xs : Nat → Int32} {L d : Nat} {a0 : Int64} {s : S2} {res : Int32} {Q : S2 → Option MV → Prop} (h : g_M_bounded a0 s = res) (hQ : Q s (some (mI res))) : kcall (O3 xs L) (d + 1) k_M_bounded [mL a0] s Q := by
  refine kc_of (cd := kd_M_bounded) (mx := 2) (rt := 1) rfl rfl ?_
  intro P hP
  refine mgo_sound hP [] 260 _ _ _ _ _ ?_
  cases h
  exact hQ
theorem c_M_bounded {xs : Nat → Int32} {L d : Nat} {a0 : Int64} {s : S2} {Q : S2 → Option MV → Prop} (hQ : Q s (some (mI (g_M_bounded a0 s)))) : kcall (O3 xs L) (d + 1) k_M_bounded [mL a0] s Q := cr_M_bounded rfl hQ
/-! M_drawnTo -/
def f_M_drawnTo_L62 (x3 : Int32) (x5 : Int32) (y0 : Int32) (s : S2) : Option Int32 := (if x5 = 0 then some (Int32.ofInt 0) else (if x5 = 0 then none else some ((x3 * y0) / x5)))
def f_M_drawnTo (a1 : Int32) (a2 : Int32) (a3 : Int32) (a4 : Int32) (s : S2) : Option Int32 := ((f_M_farOf a1 a2 s).bind fun q1 => (if a4 = 0 then ((ix 6 a2).bind fun j2 => ((ix 6 (s.1 82 0 j2)).bind fun j3 => ((ix 6 a1).bind fun j4 => ((ix 6 (s.1 82 0 j4)).bind fun j5 => (f_M_drawnTo_L62 a3 q1 ((s.1 80 0 j3) - (s.1 80 0 j5)) s))))) else ((ix 6 a2).bind fun j6 => ((ix 6 (s.1 82 0 j6)).bind fun j7 => ((ix 6 a1).bind fun j8 => ((ix 6 (s.1 82 0 j8)).bind fun j9 => (f_M_drawnTo_L62 a3 q1 ((s.1 79 0 j7) - (s.1 79 0 j9)) s)))))))
theorem c_M_drawnTo_L62 {xs : Nat → Int32} {L d : Nat} {P : MK S2} {Q : S2 → Option MV → Prop} {res : Int32} {s : S2} (hP : MClosed (O3 xs L) (kcall (O3 xs L) (d + 1)) kd_M_drawnTo 1 Q P) (hQ : Q s (some (mI res))) (x3 : Int32) (x5 : Int32) (y0 : Int32) (x1 : Int32) (x2 : Int32) (x4 : Int32) (h : f_M_drawnTo_L62 x3 x5 y0 s = some res) : P 62 [some (mR 60 0), some (mI x1), some (mI x2), some (mI x3), some (mI x4), some (mI x5), none] [mI y0] s (0, 0) := by
  refine mgo_from hP [62] 260 ?_
  refine go_brn (fun hc : ¬ (x5 = 0) => ?_) (fun hc : x5 = 0 => ?_)
  · replace h := (if_neg hc).symm.trans h
    obtain ⟨hz, h⟩ := nif h
    refine go_and hz ?_
    cases h
    exact hQ
  · replace h := (if_pos hc).symm.trans h
    cases h
    exact hQ
set_option maxRecDepth 20000 in
set_option maxHeartbeats 4000000 in
theorem c_M_drawnTo {xs : Nat → Int32} {L d : Nat} {a1 : Int32} {a2 : Int32} {a3 : Int32} {a4 : Int32} {s : S2} {res : Int32} {Q : S2 → Option MV → Prop} (h : f_M_drawnTo a1 a2 a3 a4 s = some res) (hQ : Q s (some (mI res))) : kcall (O3 xs L) (d + 2) k_M_drawnTo [mR 60 0, mI a1, mI a2, mI a3, mI a4] s Q := by
  refine kc_of (cd := kd_M_drawnTo) (mx := 7) (rt := 1) rfl rfl ?_
  intro P hP
  refine mgo_sound hP [62] 260 _ _ _ _ _ ?_
  obtain ⟨q1, hq, h⟩ := bnd h
  refine go_call (fun _ hw => c_M_farOf hq hw) ?_
  refine go_br (fun hc : a4 = 0 => ?_) (fun hc : ¬ (a4 = 0) => ?_)
  · replace h := (if_pos hc).symm.trans h
    obtain ⟨j2, hj, h⟩ := bnd h
    refine go_ix j2 (ix_lt hj) (ix_eq hj) ?_
    obtain ⟨j3, hj, h⟩ := bnd h
    refine go_ix j3 (ix_lt hj) (ix_eq hj) ?_
    obtain ⟨j4, hj, h⟩ := bnd h
    refine go_ix j4 (ix_lt hj) (ix_eq hj) ?_
    obtain ⟨j5, hj, h⟩ := bnd h
    refine go_ix j5 (ix_lt hj) (ix_eq hj) ?_
    exact c_M_drawnTo_L62 hP hQ _ _ _ _ _ _ h
  · replace h := (if_neg hc).symm.trans h
    obtain ⟨j6, hj, h⟩ := bnd h
    refine go_ix j6 (ix_lt hj) (ix_eq hj) ?_
    obtain ⟨j7, hj, h⟩ := bnd h
    refine go_ix j7 (ix_lt hj) (ix_eq hj) ?_
    obtain ⟨j8, hj, h⟩ := bnd h
    refine go_ix j8 (ix_lt hj) (ix_eq hj) ?_
    obtain ⟨j9, hj, h⟩ := bnd h
    refine go_ix j9 (ix_lt hj) (ix_eq hj) ?_
    exact c_M_drawnTo_L62 hP hQ _ _ _ _ _ _ h
/-! M_isHead -/
def f_M_isHead (a1 : Int32) (s : S2) : Option Bool := (if (bI (g_M_isIsle a1 s)) = 0 then some false else ((ix 6 a1).bind fun j1 => (if (s.1 82 0 j1) = a1 then some true else some false)))
theorem c_M_isHead {xs : Nat → Int32} {L d : Nat} {a1 : Int32} {s : S2} {res : Bool} {Q : S2 → Option MV → Prop} (h : f_M_isHead a1 s = some res) (hQ : Q s (some (mI (bI res)))) : kcall (O3 xs L) (d + 3) k_M_isHead [mR 60 0, mI a1] s Q := by
  refine kc_of (cd := kd_M_isHead) (mx := 2) (rt := 2) rfl rfl ?_
  intro P hP
  refine mgo_sound hP [] 260 _ _ _ _ _ ?_
  refine go_call (fun _ hw => c_M_isIsle hw) ?_
  refine go_br (fun hc : (bI (g_M_isIsle a1 s)) = 0 => ?_) (fun hc : ¬ ((bI (g_M_isIsle a1 s)) = 0) => ?_)
  · replace h := (if_pos hc).symm.trans h
    cases h
    exact ⟨Or.inl rfl, hQ⟩
  · replace h := (if_neg hc).symm.trans h
    obtain ⟨j1, hj, h⟩ := bnd h
    refine go_ix j1 (ix_lt hj) (ix_eq hj) ?_
    refine go_brn (fun hc : ¬ ((s.1 82 0 j1) = a1) => ?_) (fun hc : (s.1 82 0 j1) = a1 => ?_)
    · replace h := (if_neg hc).symm.trans h
      cases h
      exact ⟨Or.inl rfl, hQ⟩
    · replace h := (if_pos hc).symm.trans h
      cases h
      exact ⟨Or.inr rfl, hQ⟩
/-! M_costOf -/
def f_M_costOf (a1 : Int32) (a2 : Int32) (s : S2) : Option Int32 := ((f_M_of a2 (Int32.ofInt 7) s).bind fun q1 => ((f_M_farOf a1 a2 s).bind fun q2 => some (q1 + ((s.1 75 0 0) * q2))))
theorem c_M_costOf {xs : Nat → Int32} {L d : Nat} {a1 : Int32} {a2 : Int32} {s : S2} {res : Int32} {Q : S2 → Option MV → Prop} (h : f_M_costOf a1 a2 s = some res) (hQ : Q s (some (mI res))) : kcall (O3 xs L) (d + 2) k_M_costOf [mR 60 0, mI a1, mI a2] s Q := by
  refine kc_of (cd := kd_M_costOf) (mx := 3) (rt := 1) rfl rfl ?_
  intro P hP
  refine mgo_sound hP [] 260 _ _ _ _ _ ?_
  obtain ⟨q1, hq, h⟩ := bnd h
  refine go_call (fun _ hw => c_M_of hq hw) ?_
  refine go_ix 0 (Nat.le_of_ble_eq_true rfl) rfl ?_
  obtain ⟨q2, hq, h⟩ := bnd h
  refine go_call (fun _ hw => c_M_farOf hq hw) ?_
  cases h
  exact hQ
/-! M_within -/
def g_M_within (a0 : Int32) (s : S2) : Int32 := (jmax (Int32.ofInt (-999)) (jmin (Int32.ofInt 999) a0))
theorem cr_M_within {xs : Nat → Int32} {L d : Nat} {a0 : Int32} {s : S2} {res : Int32} {Q : S2 → Option MV → Prop} (h : g_M_within a0 s = res) (hQ : Q s (some (mI res))) : kcall (O3 xs L) (d + 1) k_M_within [mI a0] s Q := by
  refine kc_of (cd := kd_M_within) (mx := 1) (rt := 1) rfl rfl ?_
  intro P hP
  refine mgo_sound hP [] 260 _ _ _ _ _ ?_
  cases h
  exact hQ
theorem c_M_within {xs : Nat → Int32} {L d : Nat} {a0 : Int32} {s : S2} {Q : S2 → Option MV → Prop} (hQ : Q s (some (mI (g_M_within a0 s)))) : kcall (O3 xs L) (d + 1) k_M_within [mI a0] s Q := cr_M_within rfl hQ
/-! M_nearPair -/
def f_M_nearPair_L60 (k2 : Int32 → S2 → Option Int32) (k14 : Int32 → Int32 → S2 → Option Int32) (x1 : Int32) (x2 : Int32) (s : S2) : Option Int32 := (k14 x1 (x2 + (Int32.ofInt 1)) s)
def b_M_nearPair_L14 (k2 : Int32 → S2 → Option Int32) (k14 : Int32 → Int32 → S2 → Option Int32) (x1 : Int32) (x2 : Int32) (s : S2) : Option Int32 := (if (s.1 60 0 28) ≤ x2 then (k2 (x1 + (Int32.ofInt 1)) s) else ((f_M_isHead x1 s).bind fun q1 => (if (bI q1) = 0 then (f_M_nearPair_L60 k2 k14 x1 x2 s) else ((f_M_isHead x2 s).bind fun q2 => (if (bI q2) = 0 then (f_M_nearPair_L60 k2 k14 x1 x2 s) else ((f_M_farOf x1 x2 s).bind fun q3 => (if (s.1 75 0 1) < q3 then (f_M_nearPair_L60 k2 k14 x1 x2 s) else some (((Int32.ofInt 10) * x1) + x2))))))))
def f_M_nearPair_L14 (k2 : Int32 → S2 → Option Int32) : Nat → Int32 → Int32 → S2 → Option Int32
  | 0 => fun _ _ _ => none
  | n + 1 => b_M_nearPair_L14 k2 (f_M_nearPair_L14 k2 n)
def b_M_nearPair_L2 (k2 : Int32 → S2 → Option Int32) (x1 : Int32) (s : S2) : Option Int32 := (if (s.1 60 0 28) ≤ x1 then some (Int32.ofInt (-1)) else (f_M_nearPair_L14 k2 FU x1 (x1 + (Int32.ofInt 1)) s))
def f_M_nearPair_L2 : Nat → Int32 → S2 → Option Int32
  | 0 => fun _ _ => none
  | n + 1 => b_M_nearPair_L2 (f_M_nearPair_L2 n)
def f_M_nearPair (s : S2) : Option Int32 := (f_M_nearPair_L2 FU (Int32.ofInt 0) s)
theorem c_M_nearPair_L60 {xs : Nat → Int32} {L d : Nat} {P : MK S2} {Q : S2 → Option MV → Prop} {res : Int32} {s : S2} (hP : MClosed (O3 xs L) (kcall (O3 xs L) (d + 3)) kd_M_nearPair 1 Q P) (hQ : Q s (some (mI res))) {k2 : Int32 → S2 → Option Int32} {k14 : Int32 → Int32 → S2 → Option Int32} (hk2 : ∀ (x1 : Int32) (x2 : Option Int32), k2 x1 s = some res → P 2 [some (mR 60 0), some (mI x1), oI x2] [] s (0, 0)) (hk14 : ∀ (x1 : Int32) (x2 : Int32), k14 x1 x2 s = some res → P 14 [some (mR 60 0), some (mI x1), some (mI x2)] [] s (0, 0)) (x1 : Int32) (x2 : Int32) (h : f_M_nearPair_L60 k2 k14 x1 x2 s = some res) : P 60 [some (mR 60 0), some (mI x1), some (mI x2)] [] s (0, 0) := by
  refine mgo_from hP [2, 14, 60] 260 ?_
  exact hk14 _ _ h
set_option maxRecDepth 20000 in
set_option maxHeartbeats 4000000 in
theorem cb_M_nearPair_L14 {xs : Nat → Int32} {L d : Nat} {P : MK S2} {Q : S2 → Option MV → Prop} {res : Int32} {s : S2} (hP : MClosed (O3 xs L) (kcall (O3 xs L) (d + 3)) kd_M_nearPair 1 Q P) (hQ : Q s (some (mI res))) {k2 : Int32 → S2 → Option Int32} (hk2 : ∀ (x1 : Int32) (x2 : Option Int32), k2 x1 s = some res → P 2 [some (mR 60 0), some (mI x1), oI x2] [] s (0, 0)) {k14 : Int32 → Int32 → S2 → Option Int32} (hk14 : ∀ (x1 : Int32) (x2 : Int32), k14 x1 x2 s = some res → P 14 [some (mR 60 0), some (mI x1), some (mI x2)] [] s (0, 0)) (x1 : Int32) (x2 : Int32) (h : b_M_nearPair_L14 k2 k14 x1 x2 s = some res) : P 14 [some (mR 60 0), some (mI x1), some (mI x2)] [] s (0, 0) := by
  refine mgo_from hP [2, 14, 60] 260 ?_
  refine go_br (fun hc : (s.1 60 0 28) ≤ x2 => ?_) (fun hc : ¬ ((s.1 60 0 28) ≤ x2) => ?_)
  · replace h := (if_pos hc).symm.trans h
    exact hk2 _ (some x2) h
  · replace h := (if_neg hc).symm.trans h
    obtain ⟨q1, hq, h⟩ := bnd h
    refine go_call (fun _ hw => c_M_isHead hq hw) ?_
    refine go_br (fun hc : (bI q1) = 0 => ?_) (fun hc : ¬ ((bI q1) = 0) => ?_)
    · replace h := (if_pos hc).symm.trans h
      exact c_M_nearPair_L60 hP hQ hk2 hk14 _ _ h
    · replace h := (if_neg hc).symm.trans h
      obtain ⟨q2, hq, h⟩ := bnd h
      refine go_call (fun _ hw => c_M_isHead hq hw) ?_
      refine go_br (fun hc : (bI q2) = 0 => ?_) (fun hc : ¬ ((bI q2) = 0) => ?_)
      · replace h := (if_pos hc).symm.trans h
        exact c_M_nearPair_L60 hP hQ hk2 hk14 _ _ h
      · replace h := (if_neg hc).symm.trans h
        obtain ⟨q3, hq, h⟩ := bnd h
        refine go_call (fun _ hw => c_M_farOf hq hw) ?_
        refine go_ix 1 (Nat.le_of_ble_eq_true rfl) rfl ?_
        refine go_br (fun hc : (s.1 75 0 1) < q3 => ?_) (fun hc : ¬ ((s.1 75 0 1) < q3) => ?_)
        · replace h := (if_pos hc).symm.trans h
          exact c_M_nearPair_L60 hP hQ hk2 hk14 _ _ h
        · replace h := (if_neg hc).symm.trans h
          cases h
          exact hQ
theorem c_M_nearPair_L14 {xs : Nat → Int32} {L d : Nat} {P : MK S2} {Q : S2 → Option MV → Prop} {res : Int32} {s : S2} (hP : MClosed (O3 xs L) (kcall (O3 xs L) (d + 3)) kd_M_nearPair 1 Q P) (hQ : Q s (some (mI res))) {k2 : Int32 → S2 → Option Int32} (hk2 : ∀ (x1 : Int32) (x2 : Option Int32), k2 x1 s = some res → P 2 [some (mR 60 0), some (mI x1), oI x2] [] s (0, 0)) : ∀ (fu : Nat) (x1 : Int32) (x2 : Int32), f_M_nearPair_L14 k2 fu x1 x2 s = some res → P 14 [some (mR 60 0), some (mI x1), some (mI x2)] [] s (0, 0)
  | 0, _, _, h => by cases h
  | fu + 1, x1, x2, h => cb_M_nearPair_L14 hP hQ hk2 (c_M_nearPair_L14 hP hQ hk2 fu) x1 x2 h
theorem cb_M_nearPair_L2 {xs : Nat → Int32} {L d : Nat} {P : MK S2} {Q : S2 → Option MV → Prop} {res : Int32} {s : S2} (hP : MClosed (O3 xs L) (kcall (O3 xs L) (d + 3)) kd_M_nearPair 1 Q P) (hQ : Q s (some (mI res))) {k2 : Int32 → S2 → Option Int32} (hk2 : ∀ (x1 : Int32) (x2 : Option Int32), k2 x1 s = some res → P 2 [some (mR 60 0), some (mI x1), oI x2] [] s (0, 0)) (x1 : Int32) (x2 : Option Int32) (h : b_M_nearPair_L2 k2 x1 s = some res) : P 2 [some (mR 60 0), some (mI x1), oI x2] [] s (0, 0) := by
  refine mgo_from hP [2, 14, 60] 260 ?_
  refine go_br (fun hc : (s.1 60 0 28) ≤ x1 => ?_) (fun hc : ¬ ((s.1 60 0 28) ≤ x1) => ?_)
  · replace h := (if_pos hc).symm.trans h
    cases h
    exact hQ
  · replace h := (if_neg hc).symm.trans h
    exact c_M_nearPair_L14 hP hQ hk2 FU _ _ h
theorem c_M_nearPair_L2 {xs : Nat → Int32} {L d : Nat} {P : MK S2} {Q : S2 → Option MV → Prop} {res : Int32} {s : S2} (hP : MClosed (O3 xs L) (kcall (O3 xs L) (d + 3)) kd_M_nearPair 1 Q P) (hQ : Q s (some (mI res))) : ∀ (fu : Nat) (x1 : Int32) (x2 : Option Int32), f_M_nearPair_L2 fu x1 s = some res → P 2 [some (mR 60 0), some (mI x1), oI x2] [] s (0, 0)
  | 0, _, _, h => by cases h
  | fu + 1, x1, x2, h => cb_M_nearPair_L2 hP hQ (c_M_nearPair_L2 hP hQ fu) x1 x2 h
theorem c_M_nearPair {xs : Nat → Int32} {L d : Nat} {s : S2} {res : Int32} {Q : S2 → Option MV → Prop} (h : f_M_nearPair s = some res) (hQ : Q s (some (mI res))) : kcall (O3 xs L) (d + 4) k_M_nearPair [mR 60 0] s Q := by
  refine kc_of (cd := kd_M_nearPair) (mx := 3) (rt := 1) rfl rfl ?_
  intro P hP
  refine mgo_sound hP [2, 14, 60] 260 _ _ _ _ _ ?_
  exact c_M_nearPair_L2 hP hQ FU _ none h
/-! M_join -/
def f_M_join_L136 (k99 : Int32 → Int32 → Int32 → S2 → Option S2) (x1 : Int32) (x2 : Int32) (x4 : Int32) (y1 : Int32) (y2 : Int32) (s : S2) : Option S2 := ((ix 6 y1).bind fun j2 => (some (pkS s 82 0 j2 y2)).bind fun s1 => (k99 x1 x2 (x4 + (Int32.ofInt 1)) s1))
def b_M_join_L99 (k99 : Int32 → Int32 → Int32 → S2 → Option S2) (x1 : Int32) (x2 : Int32) (x4 : Int32) (s : S2) : Option S2 := (if (s.1 60 0 28) ≤ x4 then ((some (pkS s 60 0 50 ((s.1 60 0 50) + (Int32.ofInt 1)))).bind fun s1 => some s1) else ((ix 6 x4).bind fun j2 => (if (s.1 82 0 j2) = x2 then (f_M_join_L136 k99 x1 x2 x4 x4 x1 s) else ((ix 6 x4).bind fun j3 => (f_M_join_L136 k99 x1 x2 x4 x4 (s.1 82 0 j3) s)))))
def f_M_join_L99 : Nat → Int32 → Int32 → Int32 → S2 → Option S2
  | 0 => fun _ _ _ _ => none
  | n + 1 => b_M_join_L99 (f_M_join_L99 n)
def f_M_join_L69 (x1 : Int32) (x2 : Int32) (y1 : Int32) (y2 : Int32) (y3 : Int32) (y4 : Int32) (s : S2) : Option S2 := ((ix 6 y1).bind fun j2 => (some (pkS s 83 0 j2 (y2 + (y3 + y4)))).bind fun s1 => ((ix 6 x1).bind fun j3 => ((ix 6 x2).bind fun j4 => ((ix 6 x1).bind fun j6 => (some (pkS s1 81 0 j6 (jmin (Int32.ofInt 99) ((s1.1 81 0 j3) + (s1.1 81 0 j4))))).bind fun s5 => (f_M_join_L99 FU x1 x2 (Int32.ofInt 0) s5)))))
def f_M_join (a1 : Int32) (a2 : Int32) (s : S2) : Option S2 := ((ix 6 a1).bind fun j1 => ((ix 6 a2).bind fun j2 => ((ix 6 a1).bind fun j3 => ((ix 6 a2).bind fun j4 => ((ix 6 a1).bind fun j5 => ((ix 6 a2).bind fun j6 => ((f_M_farOf a1 a2 s).bind fun q7 => (if (((jabs ((s.1 89 0 j1) - (s.1 89 0 j2))) + (jabs ((s.1 90 0 j3) - (s.1 90 0 j4)))) - q7) ≤ (s.1 75 0 3) then (f_M_join_L69 a1 a2 a1 (s.1 83 0 j5) (s.1 83 0 j6) (Int32.ofInt 0) s) else (f_M_join_L69 a1 a2 a1 (s.1 83 0 j5) (s.1 83 0 j6) (Int32.ofInt 1) s)))))))))
theorem c_M_join_L136 {xs : Nat → Int32} {L d : Nat} {P : MK S2} {Q : S2 → Option MV → Prop} {res : S2} (hP : MClosed (O3 xs L) (kcall (O3 xs L) (d + 1)) kd_M_join 0 Q P) (hQ : Q res none) {k99 : Int32 → Int32 → Int32 → S2 → Option S2} (hk99 : ∀ (x1 : Int32) (x2 : Int32) (x4 : Int32) (x3 : Int32) (s : S2), k99 x1 x2 x4 s = some res → P 99 [some (mR 60 0), some (mI x1), some (mI x2), some (mI x3), some (mI x4)] [] s (0, 0)) (x1 : Int32) (x2 : Int32) (x4 : Int32) (y1 : Int32) (y2 : Int32) (x3 : Int32) (s : S2) (h : f_M_join_L136 k99 x1 x2 x4 y1 y2 s = some res) : P 136 [some (mR 60 0), some (mI x1), some (mI x2), some (mI x3), some (mI x4)] [mI y2, mI y1, mR 82 0] s (0, 0) := by
  refine mgo_from hP [69, 99, 136] 260 ?_
  obtain ⟨j2, hj, h⟩ := bnd h
  replace h := bnds h
  refine go_ix j2 (ix_lt hj) (ix_eq hj) ?_
  exact hk99 _ _ _ _ _ h
theorem cb_M_join_L99 {xs : Nat → Int32} {L d : Nat} {P : MK S2} {Q : S2 → Option MV → Prop} {res : S2} (hP : MClosed (O3 xs L) (kcall (O3 xs L) (d + 1)) kd_M_join 0 Q P) (hQ : Q res none) {k99 : Int32 → Int32 → Int32 → S2 → Option S2} (hk99 : ∀ (x1 : Int32) (x2 : Int32) (x4 : Int32) (x3 : Int32) (s : S2), k99 x1 x2 x4 s = some res → P 99 [some (mR 60 0), some (mI x1), some (mI x2), some (mI x3), some (mI x4)] [] s (0, 0)) (x1 : Int32) (x2 : Int32) (x4 : Int32) (x3 : Int32) (s : S2) (h : b_M_join_L99 k99 x1 x2 x4 s = some res) : P 99 [some (mR 60 0), some (mI x1), some (mI x2), some (mI x3), some (mI x4)] [] s (0, 0) := by
  refine mgo_from hP [69, 99, 136] 260 ?_
  refine go_br (fun hc : (s.1 60 0 28) ≤ x4 => ?_) (fun hc : ¬ ((s.1 60 0 28) ≤ x4) => ?_)
  · replace h := (if_pos hc).symm.trans h
    replace h := bnds h
    cases h
    exact hQ
  · replace h := (if_neg hc).symm.trans h
    obtain ⟨j2, hj, h⟩ := bnd h
    refine go_ix j2 (ix_lt hj) (ix_eq hj) ?_
    refine go_brn (fun hc : ¬ ((s.1 82 0 j2) = x2) => ?_) (fun hc : (s.1 82 0 j2) = x2 => ?_)
    · replace h := (if_neg hc).symm.trans h
      obtain ⟨j3, hj, h⟩ := bnd h
      refine go_ix j3 (ix_lt hj) (ix_eq hj) ?_
      exact c_M_join_L136 hP hQ hk99 _ _ _ _ _ _ _ h
    · replace h := (if_pos hc).symm.trans h
      exact c_M_join_L136 hP hQ hk99 _ _ _ _ _ _ _ h
theorem c_M_join_L99 {xs : Nat → Int32} {L d : Nat} {P : MK S2} {Q : S2 → Option MV → Prop} {res : S2} (hP : MClosed (O3 xs L) (kcall (O3 xs L) (d + 1)) kd_M_join 0 Q P) (hQ : Q res none) : ∀ (fu : Nat) (x1 : Int32) (x2 : Int32) (x4 : Int32) (x3 : Int32) (s : S2), f_M_join_L99 fu x1 x2 x4 s = some res → P 99 [some (mR 60 0), some (mI x1), some (mI x2), some (mI x3), some (mI x4)] [] s (0, 0)
  | 0, _, _, _, _, _, h => by cases h
  | fu + 1, x1, x2, x4, x3, s, h => cb_M_join_L99 hP hQ (c_M_join_L99 hP hQ fu) x1 x2 x4 x3 s h
theorem c_M_join_L69 {xs : Nat → Int32} {L d : Nat} {P : MK S2} {Q : S2 → Option MV → Prop} {res : S2} (hP : MClosed (O3 xs L) (kcall (O3 xs L) (d + 1)) kd_M_join 0 Q P) (hQ : Q res none) (x1 : Int32) (x2 : Int32) (y1 : Int32) (y2 : Int32) (y3 : Int32) (y4 : Int32) (x3 : Int32) (s : S2) (h : f_M_join_L69 x1 x2 y1 y2 y3 y4 s = some res) : P 69 [some (mR 60 0), some (mI x1), some (mI x2), some (mI x3), none] [mI y4, mI y3, mI y2, mI y1, mR 83 0] s (0, 0) := by
  refine mgo_from hP [69, 99, 136] 260 ?_
  obtain ⟨j2, hj, h⟩ := bnd h
  replace h := bnds h
  refine go_ix j2 (ix_lt hj) (ix_eq hj) ?_
  obtain ⟨j3, hj, h⟩ := bnd h
  refine go_ix j3 (ix_lt hj) (ix_eq hj) ?_
  obtain ⟨j4, hj, h⟩ := bnd h
  refine go_ix j4 (ix_lt hj) (ix_eq hj) ?_
  obtain ⟨j6, hj, h⟩ := bnd h
  replace h := bnds h
  refine go_ix j6 (ix_lt hj) (ix_eq hj) ?_
  exact c_M_join_L99 hP hQ FU _ _ _ _ _ h
theorem c_M_join {xs : Nat → Int32} {L d : Nat} {a1 : Int32} {a2 : Int32} {s : S2} {res : S2} {Q : S2 → Option MV → Prop} (h : f_M_join a1 a2 s = some res) (hQ : Q res none) : kcall (O3 xs L) (d + 2) k_M_join [mR 60 0, mI a1, mI a2] s Q := by
  refine kc_of (cd := kd_M_join) (mx := 5) (rt := 0) rfl rfl ?_
  intro P hP
  refine mgo_sound hP [69, 99, 136] 260 _ _ _ _ _ ?_
  obtain ⟨j1, hj, h⟩ := bnd h
  refine go_ix j1 (ix_lt hj) (ix_eq hj) ?_
  obtain ⟨j2, hj, h⟩ := bnd h
  refine go_ix j2 (ix_lt hj) (ix_eq hj) ?_
  obtain ⟨j3, hj, h⟩ := bnd h
  refine go_ix j3 (ix_lt hj) (ix_eq hj) ?_
  obtain ⟨j4, hj, h⟩ := bnd h
  refine go_ix j4 (ix_lt hj) (ix_eq hj) ?_
  obtain ⟨j5, hj, h⟩ := bnd h
  refine go_ix j5 (ix_lt hj) (ix_eq hj) ?_
  obtain ⟨j6, hj, h⟩ := bnd h
  refine go_ix j6 (ix_lt hj) (ix_eq hj) ?_
  obtain ⟨q7, hq, h⟩ := bnd h
  refine go_call (fun _ hw => c_M_farOf hq hw) ?_
  refine go_ix 3 (Nat.le_of_ble_eq_true rfl) rfl ?_
  refine go_br (fun hc : (((jabs ((s.1 89 0 j1) - (s.1 89 0 j2))) + (jabs ((s.1 90 0 j3) - (s.1 90 0 j4)))) - q7) ≤ (s.1 75 0 3) => ?_) (fun hc : ¬ ((((jabs ((s.1 89 0 j1) - (s.1 89 0 j2))) + (jabs ((s.1 90 0 j3) - (s.1 90 0 j4)))) - q7) ≤ (s.1 75 0 3)) => ?_)
  · replace h := (if_pos hc).symm.trans h
    exact c_M_join_L69 hP hQ _ _ _ _ _ _ _ _ h
  · replace h := (if_neg hc).symm.trans h
    exact c_M_join_L69 hP hQ _ _ _ _ _ _ _ _ h
/-! M_note -/
def f_M_note_L48 (s : S2) : Option S2 := ((ix 180 ((Int32.ofInt 3) * (s.1 60 0 57))).bind fun j2 => (some (pkS s 93 0 j2 (s.1 60 0 50))).bind fun s1 => ((ix 180 (((Int32.ofInt 3) * (s1.1 60 0 57)) + (Int32.ofInt 1))).bind fun j4 => (some (pkS s1 93 0 j4 (s1.1 60 0 51))).bind fun s3 => ((ix 180 (((Int32.ofInt 3) * (s3.1 60 0 57)) + (Int32.ofInt 2))).bind fun j6 => (some (pkS s3 93 0 j6 (s3.1 60 0 52))).bind fun s5 => ((some (pkS s5 60 0 57 ((s5.1 60 0 57) + (Int32.ofInt 1)))).bind fun s7 => some s7))))
def b_M_note_L11 (k11 : Int32 → S2 → Option S2) (x1 : Int32) (s : S2) : Option S2 := (if (Int32.ofInt 180) ≤ x1 then ((some (pkS s 60 0 57 ((s.1 60 0 57) - (Int32.ofInt 1)))).bind fun s1 => (f_M_note_L48 s1)) else ((ix 180 x1).bind fun j2 => ((ix 180 (x1 - (Int32.ofInt 3))).bind fun j4 => (some (pkS s 93 0 j4 (s.1 93 0 j2))).bind fun s3 => (k11 (x1 + (Int32.ofInt 1)) s3))))
def f_M_note_L11 : Nat → Int32 → S2 → Option S2
  | 0 => fun _ _ => none
  | n + 1 => b_M_note_L11 (f_M_note_L11 n)
def f_M_note (s : S2) : Option S2 := (if (s.1 60 0 57) = (Int32.ofInt 60) then (f_M_note_L11 FU (Int32.ofInt 3) s) else (f_M_note_L48 s))
theorem c_M_note_L48 {xs : Nat → Int32} {L d : Nat} {P : MK S2} {Q : S2 → Option MV → Prop} {res : S2} (hP : MClosed (O3 xs L) (kcall (O3 xs L) (d + 0)) kd_M_note 0 Q P) (hQ : Q res none) (x1 : Option Int32) (s : S2) (h : f_M_note_L48 s = some res) : P 48 [some (mR 60 0), oI x1] [] s (0, 0) := by
  refine mgo_from hP [11, 48] 260 ?_
  obtain ⟨j2, hj, h⟩ := bnd h
  replace h := bnds h
  refine go_ix j2 (ix_lt hj) (ix_eq hj) ?_
  obtain ⟨j4, hj, h⟩ := bnd h
  replace h := bnds h
  refine go_ix j4 (ix_lt hj) (ix_eq hj) ?_
  obtain ⟨j6, hj, h⟩ := bnd h
  replace h := bnds h
  refine go_ix j6 (ix_lt hj) (ix_eq hj) ?_
  replace h := bnds h
  cases h
  exact hQ
theorem cb_M_note_L11 {xs : Nat → Int32} {L d : Nat} {P : MK S2} {Q : S2 → Option MV → Prop} {res : S2} (hP : MClosed (O3 xs L) (kcall (O3 xs L) (d + 0)) kd_M_note 0 Q P) (hQ : Q res none) {k11 : Int32 → S2 → Option S2} (hk11 : ∀ (x1 : Int32) (s : S2), k11 x1 s = some res → P 11 [some (mR 60 0), some (mI x1)] [] s (0, 0)) (x1 : Int32) (s : S2) (h : b_M_note_L11 k11 x1 s = some res) : P 11 [some (mR 60 0), some (mI x1)] [] s (0, 0) := by
  refine mgo_from hP [11, 48] 260 ?_
  refine go_br (fun hc : (Int32.ofInt 180) ≤ x1 => ?_) (fun hc : ¬ ((Int32.ofInt 180) ≤ x1) => ?_)
  · replace h := (if_pos hc).symm.trans h
    replace h := bnds h
    exact c_M_note_L48 hP hQ (some x1) _ h
  · replace h := (if_neg hc).symm.trans h
    obtain ⟨j2, hj, h⟩ := bnd h
    refine go_ix j2 (ix_lt hj) (ix_eq hj) ?_
    obtain ⟨j4, hj, h⟩ := bnd h
    replace h := bnds h
    refine go_ix j4 (ix_lt hj) (ix_eq hj) ?_
    exact hk11 _ _ h
theorem c_M_note_L11 {xs : Nat → Int32} {L d : Nat} {P : MK S2} {Q : S2 → Option MV → Prop} {res : S2} (hP : MClosed (O3 xs L) (kcall (O3 xs L) (d + 0)) kd_M_note 0 Q P) (hQ : Q res none) : ∀ (fu : Nat) (x1 : Int32) (s : S2), f_M_note_L11 fu x1 s = some res → P 11 [some (mR 60 0), some (mI x1)] [] s (0, 0)
  | 0, _, _, h => by cases h
  | fu + 1, x1, s, h => cb_M_note_L11 hP hQ (c_M_note_L11 hP hQ fu) x1 s h
theorem c_M_note {xs : Nat → Int32} {L d : Nat} {s : S2} {res : S2} {Q : S2 → Option MV → Prop} (h : f_M_note s = some res) (hQ : Q res none) : kcall (O3 xs L) (d + 1) k_M_note [mR 60 0] s Q := by
  refine kc_of (cd := kd_M_note) (mx := 2) (rt := 0) rfl rfl ?_
  intro P hP
  refine mgo_sound hP [11, 48] 260 _ _ _ _ _ ?_
  refine go_brn (fun hc : ¬ ((s.1 60 0 57) = (Int32.ofInt 60)) => ?_) (fun hc : (s.1 60 0 57) = (Int32.ofInt 60) => ?_)
  · replace h := (if_neg hc).symm.trans h
    exact c_M_note_L48 hP hQ none _ h
  · replace h := (if_pos hc).symm.trans h
    exact c_M_note_L11 hP hQ FU _ _ h
/-! M_draw -/
def f_M_draw (a1 : Int32) (s : S2) : Option (S2 × Int32) := ((some ((s.1, uJ s.2 60 (((s.2 60) * (Int64.ofInt 6364136223846793005)) + (Int64.ofInt 1442695040888963407))))).bind fun s1 => (if (Int32.toInt64 a1) = 0 then none else some (s1, (Int64.toInt32 (jremL (jlushr (s1.2 60) (Int32.ofInt 33)) (Int32.toInt64 a1))))))
theorem c_M_draw {xs : Nat → Int32} {L d : Nat} {a1 : Int32} {s : S2} {res : S2 × Int32} {Q : S2 → Option MV → Prop} (h : f_M_draw a1 s = some res) (hQ : Q res.1 (some (mI res.2))) : kcall (O3 xs L) (d + 1) k_M_draw [mR 60 0, mI a1] s Q := by
  refine kc_of (cd := kd_M_draw) (mx := 2) (rt := 1) rfl rfl ?_
  intro P hP
  refine mgo_sound hP [] 260 _ _ _ _ _ ?_
  replace h := bnds h
  obtain ⟨hz, h⟩ := nif h
  refine go_and hz ?_
  cases h
  exact hQ
/-! M_headMany -/
def f_M_headMany_L26 (k4 : Int32 → Int32 → S2 → Option Int32) (x2 : Int32) (y0 : Int32) (y1 : Int32) (s : S2) : Option Int32 := (k4 (y0 + y1) (x2 + (Int32.ofInt 1)) s)
def b_M_headMany_L4 (k4 : Int32 → Int32 → S2 → Option Int32) (x1 : Int32) (x2 : Int32) (s : S2) : Option Int32 := (if (s.1 60 0 28) ≤ x2 then some x1 else ((f_M_isHead x2 s).bind fun q1 => (if (bI q1) = 0 then (f_M_headMany_L26 k4 x2 x1 (Int32.ofInt 0) s) else (f_M_headMany_L26 k4 x2 x1 (Int32.ofInt 1) s))))
def f_M_headMany_L4 : Nat → Int32 → Int32 → S2 → Option Int32
  | 0 => fun _ _ _ => none
  | n + 1 => b_M_headMany_L4 (f_M_headMany_L4 n)
def f_M_headMany (s : S2) : Option Int32 := (f_M_headMany_L4 FU (Int32.ofInt 0) (Int32.ofInt 0) s)
theorem c_M_headMany_L26 {xs : Nat → Int32} {L d : Nat} {P : MK S2} {Q : S2 → Option MV → Prop} {res : Int32} {s : S2} (hP : MClosed (O3 xs L) (kcall (O3 xs L) (d + 3)) kd_M_headMany 1 Q P) (hQ : Q s (some (mI res))) {k4 : Int32 → Int32 → S2 → Option Int32} (hk4 : ∀ (x1 : Int32) (x2 : Int32), k4 x1 x2 s = some res → P 4 [some (mR 60 0), some (mI x1), some (mI x2)] [] s (0, 0)) (x2 : Int32) (y0 : Int32) (y1 : Int32) (x1 : Int32) (h : f_M_headMany_L26 k4 x2 y0 y1 s = some res) : P 26 [some (mR 60 0), some (mI x1), some (mI x2)] [mI y1, mI y0] s (0, 0) := by
  refine mgo_from hP [4, 26] 260 ?_
  exact hk4 _ _ h
theorem cb_M_headMany_L4 {xs : Nat → Int32} {L d : Nat} {P : MK S2} {Q : S2 → Option MV → Prop} {res : Int32} {s : S2} (hP : MClosed (O3 xs L) (kcall (O3 xs L) (d + 3)) kd_M_headMany 1 Q P) (hQ : Q s (some (mI res))) {k4 : Int32 → Int32 → S2 → Option Int32} (hk4 : ∀ (x1 : Int32) (x2 : Int32), k4 x1 x2 s = some res → P 4 [some (mR 60 0), some (mI x1), some (mI x2)] [] s (0, 0)) (x1 : Int32) (x2 : Int32) (h : b_M_headMany_L4 k4 x1 x2 s = some res) : P 4 [some (mR 60 0), some (mI x1), some (mI x2)] [] s (0, 0) := by
  refine mgo_from hP [4, 26] 260 ?_
  refine go_br (fun hc : (s.1 60 0 28) ≤ x2 => ?_) (fun hc : ¬ ((s.1 60 0 28) ≤ x2) => ?_)
  · replace h := (if_pos hc).symm.trans h
    cases h
    exact hQ
  · replace h := (if_neg hc).symm.trans h
    obtain ⟨q1, hq, h⟩ := bnd h
    refine go_call (fun _ hw => c_M_isHead hq hw) ?_
    refine go_br (fun hc : (bI q1) = 0 => ?_) (fun hc : ¬ ((bI q1) = 0) => ?_)
    · replace h := (if_pos hc).symm.trans h
      exact c_M_headMany_L26 hP hQ hk4 _ _ _ _ h
    · replace h := (if_neg hc).symm.trans h
      exact c_M_headMany_L26 hP hQ hk4 _ _ _ _ h
theorem c_M_headMany_L4 {xs : Nat → Int32} {L d : Nat} {P : MK S2} {Q : S2 → Option MV → Prop} {res : Int32} {s : S2} (hP : MClosed (O3 xs L) (kcall (O3 xs L) (d + 3)) kd_M_headMany 1 Q P) (hQ : Q s (some (mI res))) : ∀ (fu : Nat) (x1 : Int32) (x2 : Int32), f_M_headMany_L4 fu x1 x2 s = some res → P 4 [some (mR 60 0), some (mI x1), some (mI x2)] [] s (0, 0)
  | 0, _, _, h => by cases h
  | fu + 1, x1, x2, h => cb_M_headMany_L4 hP hQ (c_M_headMany_L4 hP hQ fu) x1 x2 h
theorem c_M_headMany {xs : Nat → Int32} {L d : Nat} {s : S2} {res : Int32} {Q : S2 → Option MV → Prop} (h : f_M_headMany s = some res) (hQ : Q s (some (mI res))) : kcall (O3 xs L) (d + 4) k_M_headMany [mR 60 0] s Q := by
  refine kc_of (cd := kd_M_headMany) (mx := 3) (rt := 1) rfl rfl ?_
  intro P hP
  refine mgo_sound hP [4, 26] 260 _ _ _ _ _ ?_
  exact c_M_headMany_L4 hP hQ FU _ _ h
