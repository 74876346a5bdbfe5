/-! D_bytesIn -/
def f_D_bytesIn_L22 (k5 : Int32 → Int32 → Int32 → S2 → Option Int32) (x0 : Int32) (x1 : Int32) (x2 : Int32) (s : S2) : Option Int32 := (k5 x0 x1 (x2 + (Int32.ofInt (-8))) s)
def b_D_bytesIn_L5 (k5 : Int32 → Int32 → Int32 → S2 → Option Int32) (x0 : Int32) (x1 : Int32) (x2 : Int32) (s : S2) : Option Int32 := (if x2 < 0 then some x1 else (if ((jushr x0 x2) &&& (Int32.ofInt 255)) = 0 then (f_D_bytesIn_L22 k5 x0 x1 x2 s) else (f_D_bytesIn_L22 k5 x0 (x1 + (Int32.ofInt 1)) x2 s)))
def f_D_bytesIn_L5 : Nat → Int32 → Int32 → Int32 → S2 → Option Int32
  | 0 => fun _ _ _ _ => none
  | n + 1 => b_D_bytesIn_L5 (f_D_bytesIn_L5 n)
def f_D_bytesIn (a0 : Int32) (s : S2) : Option Int32 := (f_D_bytesIn_L5 FU a0 (Int32.ofInt 0) (Int32.ofInt 24) s)
theorem c_D_bytesIn_L22 {xs : Nat → Int32} {L d : Nat} {P : MK S2} {Q : S2 → Option MV → Prop} {res : Int32} {s : S2} (hP : MClosed (O3 xs L) (kcall (O3 xs L) (d + 0)) kd_D_bytesIn 1 Q P) (hQ : Q s (some (mI res))) {k5 : Int32 → Int32 → Int32 → S2 → Option Int32} (hk5 : ∀ (x0 : Int32) (x1 : Int32) (x2 : Int32), k5 x0 x1 x2 s = some res → P 5 [some (mI x0), some (mI x1), some (mI x2)] [] s (0, 0)) (x0 : Int32) (x1 : Int32) (x2 : Int32) (h : f_D_bytesIn_L22 k5 x0 x1 x2 s = some res) : P 22 [some (mI x0), some (mI x1), some (mI x2)] [] s (0, 0) := by
  refine mgo_from hP [5, 22] 260 ?_
  exact hk5 _ _ _ h
theorem cb_D_bytesIn_L5 {xs : Nat → Int32} {L d : Nat} {P : MK S2} {Q : S2 → Option MV → Prop} {res : Int32} {s : S2} (hP : MClosed (O3 xs L) (kcall (O3 xs L) (d + 0)) kd_D_bytesIn 1 Q P) (hQ : Q s (some (mI res))) {k5 : Int32 → Int32 → Int32 → S2 → Option Int32} (hk5 : ∀ (x0 : Int32) (x1 : Int32) (x2 : Int32), k5 x0 x1 x2 s = some res → P 5 [some (mI x0), some (mI x1), some (mI x2)] [] s (0, 0)) (x0 : Int32) (x1 : Int32) (x2 : Int32) (h : b_D_bytesIn_L5 k5 x0 x1 x2 s = some res) : P 5 [some (mI x0), some (mI x1), some (mI x2)] [] s (0, 0) := by
  refine mgo_from hP [5, 22] 260 ?_
  refine go_br (fun hc : x2 < 0 => ?_) (fun hc : ¬ (x2 < 0) => ?_)
  · replace h := (if_pos hc).symm.trans h
    cases h
    exact hQ
  · replace h := (if_neg hc).symm.trans h
    refine go_br (fun hc : ((jushr x0 x2) &&& (Int32.ofInt 255)) = 0 => ?_) (fun hc : ¬ (((jushr x0 x2) &&& (Int32.ofInt 255)) = 0) => ?_)
    · replace h := (if_pos hc).symm.trans h
      exact c_D_bytesIn_L22 hP hQ hk5 _ _ _ h
    · replace h := (if_neg hc).symm.trans h
      exact c_D_bytesIn_L22 hP hQ hk5 _ _ _ h
theorem c_D_bytesIn_L5 {xs : Nat → Int32} {L d : Nat} {P : MK S2} {Q : S2 → Option MV → Prop} {res : Int32} {s : S2} (hP : MClosed (O3 xs L) (kcall (O3 xs L) (d + 0)) kd_D_bytesIn 1 Q P) (hQ : Q s (some (mI res))) : ∀ (fu : Nat) (x0 : Int32) (x1 : Int32) (x2 : Int32), f_D_bytesIn_L5 fu x0 x1 x2 s = some res → P 5 [some (mI x0), some (mI x1), some (mI x2)] [] s (0, 0)
  | 0, _, _, _, h => by cases h
  | fu + 1, x0, x1, x2, h => cb_D_bytesIn_L5 hP hQ (c_D_bytesIn_L5 hP hQ fu) x0 x1 x2 h
theorem c_D_bytesIn {xs : Nat → Int32} {L d : Nat} {a0 : Int32} {s : S2} {res : Int32} {Q : S2 → Option MV → Prop} (h : f_D_bytesIn a0 s = some res) (hQ : Q s (some (mI res))) : kcall (O3 xs L) (d + 1) k_D_bytesIn [mI a0] s Q := by
  refine kc_of (cd := kd_D_bytesIn) (mx := 3) (rt := 1) rfl rfl ?_
  intro P hP
  refine mgo_sound hP [5, 22] 260 _ _ _ _ _ ?_
  exact c_D_bytesIn_L5 hP hQ FU _ _ _ h
/-! Tape_length -/
def g_Tape_length (s : S2) : Int32 := (s.1 11 0 1)
theorem cr_Tape_length {xs : Nat → Int32} {L d : Nat} {s : S2} {res : Int32} {Q : S2 → Option MV → Prop} (h : g_Tape_length s = res) (hQ : Q s (some (mI res))) : kcall (O3 xs L) (d + 1) k_Tape_length [mR 11 0] s Q := by
  refine kc_of (cd := kd_Tape_length) (mx := 1) (rt := 1) rfl rfl ?_
  intro P hP
  refine mgo_sound hP [] 260 _ _ _ _ _ ?_
  cases h
  exact hQ
theorem c_Tape_length {xs : Nat → Int32} {L d : Nat} {s : S2} {Q : S2 → Option MV → Prop} (hQ : Q s (some (mI (g_Tape_length s)))) : kcall (O3 xs L) (d + 1) k_Tape_length [mR 11 0] s Q := cr_Tape_length rfl hQ
/-! Tape_add -/
def f_Tape_add_L49 (k3 : Int32 → Int32 → S2 → Option S2) (x1 : Int32) (x2 : Int32) (s : S2) : Option S2 := (k3 x1 (x2 + (Int32.ofInt (-8))) s)
def b_Tape_add_L3 (k3 : Int32 → Int32 → S2 → Option S2) (x1 : Int32) (x2 : Int32) (s : S2) : Option S2 := (if x2 < 0 then some s else (if ((jushr x1 x2) &&& (Int32.ofInt 255)) = 0 then (f_Tape_add_L49 k3 x1 x2 s) else (if (Int32.ofInt 240) ≤ (s.1 11 0 1) then (f_Tape_add_L49 k3 x1 x2 s) else ((ix 240 (s.1 11 0 1)).bind fun j2 => (some (pkS s 12 0 j2 ((jushr x1 x2) &&& (Int32.ofInt 255)))).bind fun s1 => ((some (pkS s1 11 0 1 ((s1.1 11 0 1) + (Int32.ofInt 1)))).bind fun s3 => (f_Tape_add_L49 k3 x1 x2 s3))))))
def f_Tape_add_L3 : Nat → Int32 → Int32 → S2 → Option S2
  | 0 => fun _ _ _ => none
  | n + 1 => b_Tape_add_L3 (f_Tape_add_L3 n)
def f_Tape_add (a1 : Int32) (s : S2) : Option S2 := (f_Tape_add_L3 FU a1 (Int32.ofInt 24) s)
theorem c_Tape_add_L49 {xs : Nat → Int32} {L d : Nat} {P : MK S2} {Q : S2 → Option MV → Prop} {res : S2} (hP : MClosed (O3 xs L) (kcall (O3 xs L) (d + 0)) kd_Tape_add 0 Q P) (hQ : Q res none) {k3 : Int32 → Int32 → S2 → Option S2} (hk3 : ∀ (x1 : Int32) (x2 : Int32) (x3 : Option Int32) (s : S2), k3 x1 x2 s = some res → P 3 [some (mR 11 0), some (mI x1), some (mI x2), oI x3] [] s (0, 0)) (x1 : Int32) (x2 : Int32) (x3 : Int32) (s : S2) (h : f_Tape_add_L49 k3 x1 x2 s = some res) : P 49 [some (mR 11 0), some (mI x1), some (mI x2), some (mI x3)] [] s (0, 0) := by
  refine mgo_from hP [3, 49] 260 ?_
  exact hk3 _ _ (some x3) _ h
theorem cb_Tape_add_L3 {xs : Nat → Int32} {L d : Nat} {P : MK S2} {Q : S2 → Option MV → Prop} {res : S2} (hP : MClosed (O3 xs L) (kcall (O3 xs L) (d + 0)) kd_Tape_add 0 Q P) (hQ : Q res none) {k3 : Int32 → Int32 → S2 → Option S2} (hk3 : ∀ (x1 : Int32) (x2 : Int32) (x3 : Option Int32) (s : S2), k3 x1 x2 s = some res → P 3 [some (mR 11 0), some (mI x1), some (mI x2), oI x3] [] s (0, 0)) (x1 : Int32) (x2 : Int32) (x3 : Option Int32) (s : S2) (h : b_Tape_add_L3 k3 x1 x2 s = some res) : P 3 [some (mR 11 0), some (mI x1), some (mI x2), oI x3] [] s (0, 0) := by
  refine mgo_from hP [3, 49] 260 ?_
  refine go_br (fun hc : x2 < 0 => ?_) (fun hc : ¬ (x2 < 0) => ?_)
  · replace h := (if_pos hc).symm.trans h
    cases h
    exact hQ
  · replace h := (if_neg hc).symm.trans h
    refine go_br (fun hc : ((jushr x1 x2) &&& (Int32.ofInt 255)) = 0 => ?_) (fun hc : ¬ (((jushr x1 x2) &&& (Int32.ofInt 255)) = 0) => ?_)
    · replace h := (if_pos hc).symm.trans h
      exact c_Tape_add_L49 hP hQ hk3 _ _ _ _ h
    · replace h := (if_neg hc).symm.trans h
      refine go_br (fun hc : (Int32.ofInt 240) ≤ (s.1 11 0 1) => ?_) (fun hc : ¬ ((Int32.ofInt 240) ≤ (s.1 11 0 1)) => ?_)
      · replace h := (if_pos hc).symm.trans h
        exact c_Tape_add_L49 hP hQ hk3 _ _ _ _ h
      · replace h := (if_neg hc).symm.trans h
        obtain ⟨j2, hj, h⟩ := bnd h
        replace h := bnds h
        refine go_ix j2 (ix_lt hj) (ix_eq hj) ?_
        replace h := bnds h
        exact c_Tape_add_L49 hP hQ hk3 _ _ _ _ h
theorem c_Tape_add_L3 {xs : Nat → Int32} {L d : Nat} {P : MK S2} {Q : S2 → Option MV → Prop} {res : S2} (hP : MClosed (O3 xs L) (kcall (O3 xs L) (d + 0)) kd_Tape_add 0 Q P) (hQ : Q res none) : ∀ (fu : Nat) (x1 : Int32) (x2 : Int32) (x3 : Option Int32) (s : S2), f_Tape_add_L3 fu x1 x2 s = some res → P 3 [some (mR 11 0), some (mI x1), some (mI x2), oI x3] [] s (0, 0)
  | 0, _, _, _, _, h => by cases h
  | fu + 1, x1, x2, x3, s, h => cb_Tape_add_L3 hP hQ (c_Tape_add_L3 hP hQ fu) x1 x2 x3 s h
theorem c_Tape_add {xs : Nat → Int32} {L d : Nat} {a1 : Int32} {s : S2} {res : S2} {Q : S2 → Option MV → Prop} (h : f_Tape_add a1 s = some res) (hQ : Q res none) : kcall (O3 xs L) (d + 1) k_Tape_add [mR 11 0, mI a1] s Q := by
  refine kc_of (cd := kd_Tape_add) (mx := 4) (rt := 0) rfl rfl ?_
  intro P hP
  refine mgo_sound hP [3, 49] 260 _ _ _ _ _ ?_
  exact c_Tape_add_L3 hP hQ FU _ _ none _ h
/-! D_isWithin -/
def g_D_isWithin (a0 : Int32) (a1 : Int32) (a2 : Int32) (s : S2) : Bool := (if a0 < a1 then false else (if a2 < a0 then false else true))
theorem cr_D_isWithin {xs : Nat → Int32} {L d : Nat} {a0 : Int32} {a1 : Int32} {a2 : Int32} {s : S2} {res : Bool} {Q : S2 → Option MV → Prop} (h : g_D_isWithin a0 a1 a2 s = res) (hQ : Q s (some (mI (bI res)))) : kcall (O3 xs L) (d + 1) k_D_isWithin [mI a0, mI a1, mI a2] s Q := by
  refine kc_of (cd := kd_D_isWithin) (mx := 3) (rt := 2) rfl rfl ?_
  intro P hP
  refine mgo_sound hP [] 260 _ _ _ _ _ ?_
  refine go_br (fun hc : a0 < a1 => ?_) (fun hc : ¬ (a0 < a1) => ?_)
  · replace h := (if_pos hc).symm.trans h
    cases h
    exact ⟨Or.inl rfl, hQ⟩
  · replace h := (if_neg hc).symm.trans h
    refine go_br (fun hc : a2 < a0 => ?_) (fun hc : ¬ (a2 < a0) => ?_)
    · replace h := (if_pos hc).symm.trans h
      cases h
      exact ⟨Or.inl rfl, hQ⟩
    · replace h := (if_neg hc).symm.trans h
      cases h
      exact ⟨Or.inr rfl, hQ⟩
theorem c_D_isWithin {xs : Nat → Int32} {L d : Nat} {a0 : Int32} {a1 : Int32} {a2 : Int32} {s : S2} {Q : S2 → Option MV → Prop} (hQ : Q s (some (mI (bI (g_D_isWithin a0 a1 a2 s))))) : kcall (O3 xs L) (d + 1) k_D_isWithin [mI a0, mI a1, mI a2] s Q := cr_D_isWithin rfl hQ
/-! Tape_cut -/
def f_Tape_cut (a1 : Int32) (s : S2) : Option S2 := ((some (pkS s 11 0 1 a1)).bind fun s1 => some s1)
theorem c_Tape_cut {xs : Nat → Int32} {L d : Nat} {a1 : Int32} {s : S2} {res : S2} {Q : S2 → Option MV → Prop} (h : f_Tape_cut a1 s = some res) (hQ : Q res none) : kcall (O3 xs L) (d + 1) k_Tape_cut [mR 11 0, mI a1] s Q := by
  refine kc_of (cd := kd_Tape_cut) (mx := 2) (rt := 0) rfl rfl ?_
  intro P hP
  refine mgo_sound hP [] 260 _ _ _ _ _ ?_
  replace h := bnds h
  cases h
  exact hQ
/-! Sea_fillRow -/
def f_Sea_fillRow (r0 : Nat) (a1 : Int32) (a2 : Int32) (s : S2) : Option S2 := ((nx (Int32.ofInt 8)).bind fun j2 => (nx (a2 * (Int32.ofInt 8))).bind fun j3 => (nx (a1 * (Int32.ofInt 8))).bind fun j4 => if j4 + j2 ≤ (kstat 0).length ∧ j3 + j2 ≤ 152 then ((some (cpS s 14 r0 (lgD (kstat 0)) j4 j3 j2)).bind fun s1 => some s1) else none)
theorem c_Sea_fillRow {xs : Nat → Int32} {L d : Nat} {r0 : Nat} {a1 : Int32} {a2 : Int32} {s : S2} {res : S2} {Q : S2 → Option MV → Prop} (h : f_Sea_fillRow r0 a1 a2 s = some res) (hQ : Q res none) : kcall (O3 xs L) (d + 1) k_Sea_fillRow [mR 13 r0, mI a1, mI a2] s Q := by
  refine kc_of (cd := kd_Sea_fillRow) (mx := 3) (rt := 0) rfl rfl ?_
  intro P hP
  refine mgo_sound hP [] 260 _ _ _ _ _ ?_
  obtain ⟨j2, hj0, h⟩ := bnd h
  obtain ⟨j3, hj1, h⟩ := bnd h
  obtain ⟨j4, hj2, h⟩ := bnd h
  obtain ⟨hz, h⟩ := pif h
  replace h := bnds h
  refine go_cpy j2 j3 j4 (nx_eq hj0) (nx_eq hj1) (nx_eq hj2) hz.1 hz.2 rfl ?_
  cases h
  exact hQ
/-! Tape_rewind -/
def f_Tape_rewind (s : S2) : Option S2 := ((some (pkS s 11 0 2 (Int32.ofInt 0))).bind fun s1 => some s1)
theorem c_Tape_rewind {xs : Nat → Int32} {L d : Nat} {s : S2} {res : S2} {Q : S2 → Option MV → Prop} (h : f_Tape_rewind s = some res) (hQ : Q res none) : kcall (O3 xs L) (d + 1) k_Tape_rewind [mR 11 0] s Q := by
  refine kc_of (cd := kd_Tape_rewind) (mx := 1) (rt := 0) rfl rfl ?_
  intro P hP
  refine mgo_sound hP [] 260 _ _ _ _ _ ?_
  replace h := bnds h
  cases h
  exact hQ
/-! Tape_look -/
def f_Tape_look_L38 (s : S2) : Option (S2 × Int32) := (if (s.1 11 0 1) ≤ (s.1 11 0 2) then some (s, (Int32.ofInt 0)) else ((ix 240 (s.1 11 0 2)).bind fun j1 => some (s, (s.1 12 0 j1))))
def b_Tape_look_L0 (k0 : S2 → Option (S2 × Int32)) (s : S2) : Option (S2 × Int32) := (if (s.1 11 0 1) ≤ (s.1 11 0 2) then (f_Tape_look_L38 s) else ((ix 240 (s.1 11 0 2)).bind fun j1 => (if (s.1 12 0 j1) = (Int32.ofInt 32) then ((some (pkS s 11 0 2 ((s.1 11 0 2) + (Int32.ofInt 1)))).bind fun s2 => (k0 s2)) else (f_Tape_look_L38 s))))
def f_Tape_look_L0 : Nat → S2 → Option (S2 × Int32)
  | 0 => fun _ => none
  | n + 1 => b_Tape_look_L0 (f_Tape_look_L0 n)
def f_Tape_look (s : S2) : Option (S2 × Int32) := (f_Tape_look_L0 FU s)
theorem c_Tape_look_L38 {xs : Nat → Int32} {L d : Nat} {P : MK S2} {Q : S2 → Option MV → Prop} {res : S2 × Int32} (hP : MClosed (O3 xs L) (kcall (O3 xs L) (d + 0)) kd_Tape_look 1 Q P) (hQ : Q res.1 (some (mI res.2))) (s : S2) (h : f_Tape_look_L38 s = some res) : P 38 [some (mR 11 0)] [] s (0, 0) := by
  refine mgo_from hP [0, 38] 260 ?_
  refine go_br (fun hc : (s.1 11 0 1) ≤ (s.1 11 0 2) => ?_) (fun hc : ¬ ((s.1 11 0 1) ≤ (s.1 11 0 2)) => ?_)
  · replace h := (if_pos hc).symm.trans h
    cases h
    exact hQ
  · replace h := (if_neg hc).symm.trans h
    obtain ⟨j1, hj, h⟩ := bnd h
    refine go_ix j1 (ix_lt hj) (ix_eq hj) ?_
    cases h
    exact hQ
theorem cb_Tape_look_L0 {xs : Nat → Int32} {L d : Nat} {P : MK S2} {Q : S2 → Option MV → Prop} {res : S2 × Int32} (hP : MClosed (O3 xs L) (kcall (O3 xs L) (d + 0)) kd_Tape_look 1 Q P) (hQ : Q res.1 (some (mI res.2))) {k0 : S2 → Option (S2 × Int32)} (hk0 : ∀ (s : S2), k0 s = some res → P 0 [some (mR 11 0)] [] s (0, 0)) (s : S2) (h : b_Tape_look_L0 k0 s = some res) : P 0 [some (mR 11 0)] [] s (0, 0) := by
  refine mgo_from hP [0, 38] 260 ?_
  refine go_br (fun hc : (s.1 11 0 1) ≤ (s.1 11 0 2) => ?_) (fun hc : ¬ ((s.1 11 0 1) ≤ (s.1 11 0 2)) => ?_)
  · replace h := (if_pos hc).symm.trans h
    exact c_Tape_look_L38 hP hQ _ h
  · replace h := (if_neg hc).symm.trans h
    obtain ⟨j1, hj, h⟩ := bnd h
    refine go_ix j1 (ix_lt hj) (ix_eq hj) ?_
    refine go_brn (fun hc : ¬ ((s.1 12 0 j1) = (Int32.ofInt 32)) => ?_) (fun hc : (s.1 12 0 j1) = (Int32.ofInt 32) => ?_)
    · replace h := (if_neg hc).symm.trans h
      exact c_Tape_look_L38 hP hQ _ h
    · replace h := (if_pos hc).symm.trans h
      replace h := bnds h
      exact hk0 _ h
theorem c_Tape_look_L0 {xs : Nat → Int32} {L d : Nat} {P : MK S2} {Q : S2 → Option MV → Prop} {res : S2 × Int32} (hP : MClosed (O3 xs L) (kcall (O3 xs L) (d + 0)) kd_Tape_look 1 Q P) (hQ : Q res.1 (some (mI res.2))) : ∀ (fu : Nat) (s : S2), f_Tape_look_L0 fu s = some res → P 0 [some (mR 11 0)] [] s (0, 0)
  | 0, _, h => by cases h
  | fu + 1, s, h => cb_Tape_look_L0 hP hQ (c_Tape_look_L0 hP hQ fu) s h
theorem c_Tape_look {xs : Nat → Int32} {L d : Nat} {s : S2} {res : S2 × Int32} {Q : S2 → Option MV → Prop} (h : f_Tape_look s = some res) (hQ : Q res.1 (some (mI res.2))) : kcall (O3 xs L) (d + 1) k_Tape_look [mR 11 0] s Q := by
  refine kc_of (cd := kd_Tape_look) (mx := 1) (rt := 1) rfl rfl ?_
  intro P hP
  refine mgo_sound hP [0, 38] 260 _ _ _ _ _ ?_
  exact c_Tape_look_L0 hP hQ FU _ h
/-! Tape_pass -/
def f_Tape_pass (s : S2) : Option S2 := ((some (pkS s 11 0 2 ((s.1 11 0 2) + (Int32.ofInt 1)))).bind fun s1 => some s1)
theorem c_Tape_pass {xs : Nat → Int32} {L d : Nat} {s : S2} {res : S2} {Q : S2 → Option MV → Prop} (h : f_Tape_pass s = some res) (hQ : Q res none) : kcall (O3 xs L) (d + 1) k_Tape_pass [mR 11 0] s Q := by
  refine kc_of (cd := kd_Tape_pass) (mx := 1) (rt := 0) rfl rfl ?_
  intro P hP
  refine mgo_sound hP [] 260 _ _ _ _ _ ?_
  replace h := bnds h
  cases h
  exact hQ
/-! Tape_isDigitHere -/
def f_Tape_isDigitHere (s : S2) : Option Bool := (if (s.1 11 0 1) ≤ (s.1 11 0 2) then some false else ((ix 240 (s.1 11 0 2)).bind fun j1 => (if (s.1 12 0 j1) < (Int32.ofInt 48) then some false else ((ix 240 (s.1 11 0 2)).bind fun j2 => (if (Int32.ofInt 57) < (s.1 12 0 j2) then some false else some true)))))
theorem c_Tape_isDigitHere {xs : Nat → Int32} {L d : Nat} {s : S2} {res : Bool} {Q : S2 → Option MV → Prop} (h : f_Tape_isDigitHere s = some res) (hQ : Q s (some (mI (bI res)))) : kcall (O3 xs L) (d + 1) k_Tape_isDigitHere [mR 11 0] s Q := by
  refine kc_of (cd := kd_Tape_isDigitHere) (mx := 1) (rt := 2) rfl rfl ?_
  intro P hP
  refine mgo_sound hP [] 260 _ _ _ _ _ ?_
  refine go_br (fun hc : (s.1 11 0 1) ≤ (s.1 11 0 2) => ?_) (fun hc : ¬ ((s.1 11 0 1) ≤ (s.1 11 0 2)) => ?_)
  · replace h := (if_pos hc).symm.trans h
    cases h
    exact ⟨Or.inl rfl, hQ⟩
  · replace h := (if_neg hc).symm.trans h
    obtain ⟨j1, hj, h⟩ := bnd h
    refine go_ix j1 (ix_lt hj) (ix_eq hj) ?_
    refine go_br (fun hc : (s.1 12 0 j1) < (Int32.ofInt 48) => ?_) (fun hc : ¬ ((s.1 12 0 j1) < (Int32.ofInt 48)) => ?_)
    · replace h := (if_pos hc).symm.trans h
      cases h
      exact ⟨Or.inl rfl, hQ⟩
    · replace h := (if_neg hc).symm.trans h
      obtain ⟨j2, hj, h⟩ := bnd h
      refine go_ix j2 (ix_lt hj) (ix_eq hj) ?_
      refine go_br (fun hc : (Int32.ofInt 57) < (s.1 12 0 j2) => ?_) (fun hc : ¬ ((Int32.ofInt 57) < (s.1 12 0 j2)) => ?_)
      · replace h := (if_pos hc).symm.trans h
        cases h
        exact ⟨Or.inl rfl, hQ⟩
      · replace h := (if_neg hc).symm.trans h
        cases h
        exact ⟨Or.inr rfl, hQ⟩
/-! Tape_stepBack -/
def f_Tape_stepBack (s : S2) : Option S2 := ((some (pkS s 11 0 2 (jmax (Int32.ofInt 0) ((s.1 11 0 2) - (Int32.ofInt 1))))).bind fun s1 => some s1)
theorem c_Tape_stepBack {xs : Nat → Int32} {L d : Nat} {s : S2} {res : S2} {Q : S2 → Option MV → Prop} (h : f_Tape_stepBack s = some res) (hQ : Q res none) : kcall (O3 xs L) (d + 1) k_Tape_stepBack [mR 11 0] s Q := by
  refine kc_of (cd := kd_Tape_stepBack) (mx := 1) (rt := 0) rfl rfl ?_
  intro P hP
  refine mgo_sound hP [] 260 _ _ _ _ _ ?_
  replace h := bnds h
  cases h
  exact hQ
/-! Tape_isOver -/
def f_Tape_isOver (s : S2) : Option (S2 × Bool) := ((f_Tape_look s).bind fun q1 => (if q1.2 = 0 then some (q1.1, true) else some (q1.1, false)))
theorem c_Tape_isOver {xs : Nat → Int32} {L d : Nat} {s : S2} {res : S2 × Bool} {Q : S2 → Option MV → Prop} (h : f_Tape_isOver s = some res) (hQ : Q res.1 (some (mI (bI res.2)))) : kcall (O3 xs L) (d + 2) k_Tape_isOver [mR 11 0] s Q := by
  refine kc_of (cd := kd_Tape_isOver) (mx := 1) (rt := 2) rfl rfl ?_
  intro P hP
  refine mgo_sound hP [] 260 _ _ _ _ _ ?_
  obtain ⟨q1, hq, h⟩ := bnd h
  refine go_call (fun _ hw => c_Tape_look hq hw) ?_
  refine go_brn (fun hc : ¬ (q1.2 = 0) => ?_) (fun hc : q1.2 = 0 => ?_)
  · replace h := (if_neg hc).symm.trans h
    cases h
    exact ⟨Or.inl rfl, hQ⟩
  · replace h := (if_pos hc).symm.trans h
    cases h
    exact ⟨Or.inr rfl, hQ⟩
/-! Sea_isles -/
def g_Sea_isles (r0 : Nat) (s : S2) : Int32 := (s.1 15 r0 1)
theorem cr_Sea_isles {xs : Nat → Int32} {L d : Nat} {r0 : Nat} {s : S2} {res : Int32} {Q : S2 → Option MV → Prop} (h : g_Sea_isles r0 s = res) (hQ : Q s (some (mI res))) : kcall (O3 xs L) (d + 1) k_Sea_isles [mR 13 r0] s Q := by
  refine kc_of (cd := kd_Sea_isles) (mx := 1) (rt := 1) rfl rfl ?_
  intro P hP
  refine mgo_sound hP [] 260 _ _ _ _ _ ?_
  refine go_ix 1 (Nat.le_of_ble_eq_true rfl) rfl ?_
  cases h
  exact hQ
theorem c_Sea_isles {xs : Nat → Int32} {L d : Nat} {r0 : Nat} {s : S2} {Q : S2 → Option MV → Prop} (hQ : Q s (some (mI (g_Sea_isles r0 s)))) : kcall (O3 xs L) (d + 1) k_Sea_isles [mR 13 r0] s Q := cr_Sea_isles rfl hQ
/-! Sea_ties -/
def g_Sea_ties (r0 : Nat) (s : S2) : Int32 := (s.1 15 r0 2)
theorem cr_Sea_ties {xs : Nat → Int32} {L d : Nat} {r0 : Nat} {s : S2} {res : Int32} {Q : S2 → Option MV → Prop} (h : g_Sea_ties r0 s = res) (hQ : Q s (some (mI res))) : kcall (O3 xs L) (d + 1) k_Sea_ties [mR 13 r0] s Q := by
  refine kc_of (cd := kd_Sea_ties) (mx := 1) (rt := 1) rfl rfl ?_
  intro P hP
  refine mgo_sound hP [] 260 _ _ _ _ _ ?_
  refine go_ix 2 (Nat.le_of_ble_eq_true rfl) rfl ?_
  cases h
  exact hQ
theorem c_Sea_ties {xs : Nat → Int32} {L d : Nat} {r0 : Nat} {s : S2} {Q : S2 → Option MV → Prop} (hQ : Q s (some (mI (g_Sea_ties r0 s)))) : kcall (O3 xs L) (d + 1) k_Sea_ties [mR 13 r0] s Q := cr_Sea_ties rfl hQ
/-! Sea_ofTie -/
def f_Sea_ofTie (r0 : Nat) (a1 : Int32) (a2 : Int32) (s : S2) : Option Int32 := ((ix 152 ((((lgD (kstat 2) 2) + a1) * (Int32.ofInt 8)) + a2)).bind fun j1 => some (s.1 14 r0 j1))
theorem c_Sea_ofTie {xs : Nat → Int32} {L d : Nat} {r0 : Nat} {a1 : Int32} {a2 : Int32} {s : S2} {res : Int32} {Q : S2 → Option MV → Prop} (h : f_Sea_ofTie r0 a1 a2 s = some res) (hQ : Q s (some (mI res))) : kcall (O3 xs L) (d + 1) k_Sea_ofTie [mR 13 r0, mI a1, mI a2] s Q := by
  refine kc_of (cd := kd_Sea_ofTie) (mx := 3) (rt := 1) rfl rfl ?_
  intro P hP
  refine mgo_sound hP [] 260 _ _ _ _ _ ?_
  refine go_ix 2 (Nat.le_of_ble_eq_true rfl) rfl ?_
  obtain ⟨j1, hj, h⟩ := bnd h
  refine go_ix j1 (ix_lt hj) (ix_eq hj) ?_
  cases h
  exact hQ
/-! Sea_areToldTwo -/
def g_Sea_areToldTwo (r0 : Nat) (a1 : Int32) (a2 : Int32) (s : S2) : Bool := (if a1 = a2 then false else (if (g_Sea_isles r0 s) ≤ a1 then false else (if (g_Sea_isles r0 s) ≤ a2 then false else true)))
theorem cr_Sea_areToldTwo {xs : Nat → Int32} {L d : Nat} {r0 : Nat} {a1 : Int32} {a2 : Int32} {s : S2} {res : Bool} {Q : S2 → Option MV → Prop} (h : g_Sea_areToldTwo r0 a1 a2 s = res) (hQ : Q s (some (mI (bI res)))) : kcall (O3 xs L) (d + 2) k_Sea_areToldTwo [mR 13 r0, mI a1, mI a2] s Q := by
  refine kc_of (cd := kd_Sea_areToldTwo) (mx := 3) (rt := 2) rfl rfl ?_
  intro P hP
  refine mgo_sound hP [] 260 _ _ _ _ _ ?_
  refine go_br (fun hc : a1 = a2 => ?_) (fun hc : ¬ (a1 = a2) => ?_)
  · replace h := (if_pos hc).symm.trans h
    cases h
    exact ⟨Or.inl rfl, hQ⟩
  · replace h := (if_neg hc).symm.trans h
    refine go_call (fun _ hw => c_Sea_isles hw) ?_
    refine go_br (fun hc : (g_Sea_isles r0 s) ≤ a1 => ?_) (fun hc : ¬ ((g_Sea_isles r0 s) ≤ a1) => ?_)
    · replace h := (if_pos hc).symm.trans h
      cases h
      exact ⟨Or.inl rfl, hQ⟩
    · replace h := (if_neg hc).symm.trans h
      refine go_call (fun _ hw => c_Sea_isles hw) ?_
      refine go_br (fun hc : (g_Sea_isles r0 s) ≤ a2 => ?_) (fun hc : ¬ ((g_Sea_isles r0 s) ≤ a2) => ?_)
      · replace h := (if_pos hc).symm.trans h
        cases h
        exact ⟨Or.inl rfl, hQ⟩
      · replace h := (if_neg hc).symm.trans h
        cases h
        exact ⟨Or.inr rfl, hQ⟩
theorem c_Sea_areToldTwo {xs : Nat → Int32} {L d : Nat} {r0 : Nat} {a1 : Int32} {a2 : Int32} {s : S2} {Q : S2 → Option MV → Prop} (hQ : Q s (some (mI (bI (g_Sea_areToldTwo r0 a1 a2 s))))) : kcall (O3 xs L) (d + 2) k_Sea_areToldTwo [mR 13 r0, mI a1, mI a2] s Q := cr_Sea_areToldTwo rfl hQ
/-! Sea_bridges -/
def g_Sea_bridges (r0 : Nat) (s : S2) : Int32 := (s.1 15 r0 3)
theorem cr_Sea_bridges {xs : Nat → Int32} {L d : Nat} {r0 : Nat} {s : S2} {res : Int32} {Q : S2 → Option MV → Prop} (h : g_Sea_bridges r0 s = res) (hQ : Q s (some (mI res))) : kcall (O3 xs L) (d + 1) k_Sea_bridges [mR 13 r0] s Q := by
  refine kc_of (cd := kd_Sea_bridges) (mx := 1) (rt := 1) rfl rfl ?_
  intro P hP
  refine mgo_sound hP [] 260 _ _ _ _ _ ?_
  refine go_ix 3 (Nat.le_of_ble_eq_true rfl) rfl ?_
  cases h
  exact hQ
theorem c_Sea_bridges {xs : Nat → Int32} {L d : Nat} {r0 : Nat} {s : S2} {Q : S2 → Option MV → Prop} (hQ : Q s (some (mI (g_Sea_bridges r0 s)))) : kcall (O3 xs L) (d + 1) k_Sea_bridges [mR 13 r0] s Q := cr_Sea_bridges rfl hQ
/-! Sea_ofBridge -/
def f_Sea_ofBridge (r0 : Nat) (a1 : Int32) (a2 : Int32) (s : S2) : Option Int32 := ((ix 152 ((((lgD (kstat 2) 3) + a1) * (Int32.ofInt 8)) + a2)).bind fun j1 => some (s.1 14 r0 j1))
theorem c_Sea_ofBridge {xs : Nat → Int32} {L d : Nat} {r0 : Nat} {a1 : Int32} {a2 : Int32} {s : S2} {res : Int32} {Q : S2 → Option MV → Prop} (h : f_Sea_ofBridge r0 a1 a2 s = some res) (hQ : Q s (some (mI res))) : kcall (O3 xs L) (d + 1) k_Sea_ofBridge [mR 13 r0, mI a1, mI a2] s Q := by
  refine kc_of (cd := kd_Sea_ofBridge) (mx := 3) (rt := 1) rfl rfl ?_
  intro P hP
  refine mgo_sound hP [] 260 _ _ _ _ _ ?_
  refine go_ix 3 (Nat.le_of_ble_eq_true rfl) rfl ?_
  obtain ⟨j1, hj, h⟩ := bnd h
  refine go_ix j1 (ix_lt hj) (ix_eq hj) ?_
  cases h
  exact hQ
/-! Tape_takes -/
def f_Tape_takes (a1 : Int32) (s : S2) : Option (S2 × Bool) := ((f_Tape_look s).bind fun q1 => (if q1.2 = a1 then ((some (pkS q1.1 11 0 2 ((q1.1.1 11 0 2) + (Int32.ofInt 1)))).bind fun s2 => some (s2, true)) else some (q1.1, false)))
theorem c_Tape_takes {xs : Nat → Int32} {L d : Nat} {a1 : Int32} {s : S2} {res : S2 × Bool} {Q : S2 → Option MV → Prop} (h : f_Tape_takes a1 s = some res) (hQ : Q res.1 (some (mI (bI res.2)))) : kcall (O3 xs L) (d + 2) k_Tape_takes [mR 11 0, mI a1] s Q := by
  refine kc_of (cd := kd_Tape_takes) (mx := 2) (rt := 2) rfl rfl ?_
  intro P hP
  refine mgo_sound hP [] 260 _ _ _ _ _ ?_
  obtain ⟨q1, hq, h⟩ := bnd h
  refine go_call (fun _ hw => c_Tape_look hq hw) ?_
  refine go_br (fun hc : q1.2 = a1 => ?_) (fun hc : ¬ (q1.2 = a1) => ?_)
  · replace h := (if_pos hc).symm.trans h
    replace h := bnds h
    cases h
    exact ⟨Or.inr rfl, hQ⟩
  · replace h := (if_neg hc).symm.trans h
    cases h
    exact ⟨Or.inl rfl, hQ⟩
/-! Tape_place -/
def g_Tape_place (s : S2) : Int32 := (s.1 11 0 2)
theorem cr_Tape_place {xs : Nat → Int32} {L d : Nat} {s : S2} {res : Int32} {Q : S2 → Option MV → Prop} (h : g_Tape_place s = res) (hQ : Q s (some (mI res))) : kcall (O3 xs L) (d + 1) k_Tape_place [mR 11 0] s Q := by
  refine kc_of (cd := kd_Tape_place) (mx := 1) (rt := 1) rfl rfl ?_
  intro P hP
  refine mgo_sound hP [] 260 _ _ _ _ _ ?_
  cases h
  exact hQ
theorem c_Tape_place {xs : Nat → Int32} {L d : Nat} {s : S2} {Q : S2 → Option MV → Prop} (hQ : Q s (some (mI (g_Tape_place s)))) : kcall (O3 xs L) (d + 1) k_Tape_place [mR 11 0] s Q := cr_Tape_place rfl hQ
/-! Tape_isAtDigit -/
def f_Tape_isAtDigit (s : S2) : Option (S2 × Bool) := ((f_Tape_look s).bind fun q1 => ((f_Tape_isDigitHere q1.1).bind fun q2 => some (q1.1, q2)))
theorem c_Tape_isAtDigit {xs : Nat → Int32} {L d : Nat} {s : S2} {res : S2 × Bool} {Q : S2 → Option MV → Prop} (h : f_Tape_isAtDigit s = some res) (hQ : Q res.1 (some (mI (bI res.2)))) : kcall (O3 xs L) (d + 2) k_Tape_isAtDigit [mR 11 0] s Q := by
  refine kc_of (cd := kd_Tape_isAtDigit) (mx := 1) (rt := 2) rfl rfl ?_
  intro P hP
  refine mgo_sound hP [] 260 _ _ _ _ _ ?_
  obtain ⟨q1, hq, h⟩ := bnd h
  refine go_call (fun _ hw => c_Tape_look hq hw) ?_
  obtain ⟨q2, hq, h⟩ := bnd h
  refine go_call (fun _ hw => c_Tape_isDigitHere hq hw) ?_
  cases h
  exact ⟨bI_01 _, hQ⟩
/-! Rule_put -/
def f_Rule_put (r0 : Nat) (a1 : Int32) (s : S2) : Option S2 := (if (nI 241) ≤ (s.1 17 r0 2) then some s else ((ix 241 (s.1 17 r0 2)).bind fun j2 => (some (pkS s 18 r0 j2 a1)).bind fun s1 => ((some (pkS s1 17 r0 2 ((s1.1 17 r0 2) + (Int32.ofInt 1)))).bind fun s3 => some s3)))
theorem c_Rule_put {xs : Nat → Int32} {L d : Nat} {r0 : Nat} {a1 : Int32} {s : S2} {res : S2} {Q : S2 → Option MV → Prop} (h : f_Rule_put r0 a1 s = some res) (hQ : Q res none) : kcall (O3 xs L) (d + 1) k_Rule_put [mR 17 r0, mI a1] s Q := by
  refine kc_of (cd := kd_Rule_put) (mx := 2) (rt := 0) rfl rfl ?_
  intro P hP
  refine mgo_sound hP [] 260 _ _ _ _ _ ?_
  refine go_br (fun hc : (nI 241) ≤ (s.1 17 r0 2) => ?_) (fun hc : ¬ ((nI 241) ≤ (s.1 17 r0 2)) => ?_)
  · replace h := (if_pos hc).symm.trans h
    cases h
    exact hQ
  · replace h := (if_neg hc).symm.trans h
    obtain ⟨j2, hj, h⟩ := bnd h
    replace h := bnds h
    refine go_ix j2 (ix_lt hj) (ix_eq hj) ?_
    replace h := bnds h
    cases h
    exact hQ
/-! Rule_isComparison -/
def g_Rule_isComparison (a0 : Int32) (s : S2) : Bool := (if a0 = (Int32.ofInt 61) then true else (if a0 = (Int32.ofInt 60) then true else (if a0 = (Int32.ofInt 62) then true else false)))
theorem cr_Rule_isComparison {xs : Nat → Int32} {L d : Nat} {a0 : Int32} {s : S2} {res : Bool} {Q : S2 → Option MV → Prop} (h : g_Rule_isComparison a0 s = res) (hQ : Q s (some (mI (bI res)))) : kcall (O3 xs L) (d + 1) k_Rule_isComparison [mI a0] s Q := by
  refine kc_of (cd := kd_Rule_isComparison) (mx := 1) (rt := 2) rfl rfl ?_
  intro P hP
  refine mgo_sound hP [] 260 _ _ _ _ _ ?_
  refine go_br (fun hc : a0 = (Int32.ofInt 61) => ?_) (fun hc : ¬ (a0 = (Int32.ofInt 61)) => ?_)
  · replace h := (if_pos hc).symm.trans h
    cases h
    exact ⟨Or.inr rfl, hQ⟩
  · replace h := (if_neg hc).symm.trans h
    refine go_br (fun hc : a0 = (Int32.ofInt 60) => ?_) (fun hc : ¬ (a0 = (Int32.ofInt 60)) => ?_)
    · replace h := (if_pos hc).symm.trans h
      cases h
      exact ⟨Or.inr rfl, hQ⟩
    · replace h := (if_neg hc).symm.trans h
      refine go_brn (fun hc : ¬ (a0 = (Int32.ofInt 62)) => ?_) (fun hc : a0 = (Int32.ofInt 62) => ?_)
      · replace h := (if_neg hc).symm.trans h
        cases h
        exact ⟨Or.inl rfl, hQ⟩
      · replace h := (if_pos hc).symm.trans h
        cases h
        exact ⟨Or.inr rfl, hQ⟩
theorem c_Rule_isComparison {xs : Nat → Int32} {L d : Nat} {a0 : Int32} {s : S2} {Q : S2 → Option MV → Prop} (hQ : Q s (some (mI (bI (g_Rule_isComparison a0 s))))) : kcall (O3 xs L) (d + 1) k_Rule_isComparison [mI a0] s Q := cr_Rule_isComparison rfl hQ
/-! Sea_copy -/
def f_Sea_copy (r0 : Nat) (r1 : Nat) (s : S2) : Option S2 := ((nx (nI 152)).bind fun j2 => (nx (Int32.ofInt 0)).bind fun j3 => (nx (Int32.ofInt 0)).bind fun j4 => if j4 + j2 ≤ 152 ∧ j3 + j2 ≤ 152 then ((some (cpS s 14 r0 (s.1 14 r1) j4 j3 j2)).bind fun s1 => ((nx (nI 4)).bind fun j6 => (nx (Int32.ofInt 0)).bind fun j7 => (nx (Int32.ofInt 0)).bind fun j8 => if j8 + j6 ≤ 4 ∧ j7 + j6 ≤ 4 then ((some (cpS s1 15 r0 (s1.1 15 r1) j8 j7 j6)).bind fun s5 => some s5) else none)) else none)
theorem c_Sea_copy {xs : Nat → Int32} {L d : Nat} {r0 : Nat} {r1 : Nat} {s : S2} {res : S2} {Q : S2 → Option MV → Prop} (h : f_Sea_copy r0 r1 s = some res) (hQ : Q res none) : kcall (O3 xs L) (d + 1) k_Sea_copy [mR 13 r0, mR 13 r1] s Q := by
  refine kc_of (cd := kd_Sea_copy) (mx := 2) (rt := 0) rfl rfl ?_
  intro P hP
  refine mgo_sound hP [] 260 _ _ _ _ _ ?_
  obtain ⟨j2, hj0, h⟩ := bnd h
  obtain ⟨j3, hj1, h⟩ := bnd h
  obtain ⟨j4, hj2, h⟩ := bnd h
  obtain ⟨hz, h⟩ := pif h
  replace h := bnds h
  refine go_cpy j2 j3 j4 (nx_eq hj0) (nx_eq hj1) (nx_eq hj2) hz.1 hz.2 rfl ?_
  obtain ⟨j6, hj0, h⟩ := bnd h
  obtain ⟨j7, hj1, h⟩ := bnd h
  obtain ⟨j8, hj2, h⟩ := bnd h
  obtain ⟨hz, h⟩ := pif h
  replace h := bnds h
  refine go_cpy j6 j7 j8 (nx_eq hj0) (nx_eq hj1) (nx_eq hj2) hz.1 hz.2 rfl ?_
  cases h
  exact hQ
/-! Sea_ofIsle -/
def f_Sea_ofIsle (r0 : Nat) (a1 : Int32) (a2 : Int32) (s : S2) : Option Int32 := ((ix 152 ((((lgD (kstat 2) 1) + a1) * (Int32.ofInt 8)) + a2)).bind fun j1 => some (s.1 14 r0 j1))
theorem c_Sea_ofIsle {xs : Nat → Int32} {L d : Nat} {r0 : Nat} {a1 : Int32} {a2 : Int32} {s : S2} {res : Int32} {Q : S2 → Option MV → Prop} (h : f_Sea_ofIsle r0 a1 a2 s = some res) (hQ : Q s (some (mI res))) : kcall (O3 xs L) (d + 1) k_Sea_ofIsle [mR 13 r0, mI a1, mI a2] s Q := by
  refine kc_of (cd := kd_Sea_ofIsle) (mx := 3) (rt := 1) rfl rfl ?_
  intro P hP
  refine mgo_sound hP [] 260 _ _ _ _ _ ?_
  refine go_ix 1 (Nat.le_of_ble_eq_true rfl) rfl ?_
  obtain ⟨j1, hj, h⟩ := bnd h
  refine go_ix j1 (ix_lt hj) (ix_eq hj) ?_
  cases h
  exact hQ
/-! Past_forgetStates -/
def f_Past_forgetStates (s : S2) : Option S2 := ((some (pkS s 22 0 2 (Int32.ofInt 0))).bind fun s1 => some s1)
theorem c_Past_forgetStates {xs : Nat → Int32} {L d : Nat} {s : S2} {res : S2} {Q : S2 → Option MV → Prop} (h : f_Past_forgetStates s = some res) (hQ : Q res none) : kcall (O3 xs L) (d + 1) k_Past_forgetStates [mR 22 0] s Q := by
  refine kc_of (cd := kd_Past_forgetStates) (mx := 1) (rt := 0) rfl rfl ?_
  intro P hP
  refine mgo_sound hP [] 260 _ _ _ _ _ ?_
  replace h := bnds h
  cases h
  exact hQ
/-! Charts_clear -/
def f_Charts_clear (s : S2) : Option S2 := ((some (pkS s 49 0 8 (Int32.ofInt 0))).bind fun s1 => some s1)
theorem c_Charts_clear {xs : Nat → Int32} {L d : Nat} {s : S2} {res : S2} {Q : S2 → Option MV → Prop} (h : f_Charts_clear s = some res) (hQ : Q res none) : kcall (O3 xs L) (d + 1) k_Charts_clear [mR 49 0] s Q := by
  refine kc_of (cd := kd_Charts_clear) (mx := 1) (rt := 0) rfl rfl ?_
  intro P hP
  refine mgo_sound hP [] 260 _ _ _ _ _ ?_
  replace h := bnds h
  cases h
  exact hQ
/-! Rule_copy -/
def f_Rule_copy (r0 : Nat) (r1 : Nat) (s : S2) : Option S2 := ((nx (nI 241)).bind fun j2 => (nx (Int32.ofInt 0)).bind fun j3 => (nx (Int32.ofInt 0)).bind fun j4 => if j4 + j2 ≤ 241 ∧ j3 + j2 ≤ 241 then ((some (cpS s 18 r0 (s.1 18 r1) j4 j3 j2)).bind fun s1 => ((some (pkS s1 17 r0 2 (s1.1 17 r1 2))).bind fun s5 => some s5)) else none)
theorem c_Rule_copy {xs : Nat → Int32} {L d : Nat} {r0 : Nat} {r1 : Nat} {s : S2} {res : S2} {Q : S2 → Option MV → Prop} (h : f_Rule_copy r0 r1 s = some res) (hQ : Q res none) : kcall (O3 xs L) (d + 1) k_Rule_copy [mR 17 r0, mR 17 r1] s Q := by
  refine kc_of (cd := kd_Rule_copy) (mx := 2) (rt := 0) rfl rfl ?_
  intro P hP
  refine mgo_sound hP [] 260 _ _ _ _ _ ?_
  obtain ⟨j2, hj0, h⟩ := bnd h
  obtain ⟨j3, hj1, h⟩ := bnd h
  obtain ⟨j4, hj2, h⟩ := bnd h
  obtain ⟨hz, h⟩ := pif h
  replace h := bnds h
  refine go_cpy j2 j3 j4 (nx_eq hj0) (nx_eq hj1) (nx_eq hj2) hz.1 hz.2 rfl ?_
  replace h := bnds h
  cases h
  exact hQ
/-! D_isTie -/
def g_D_isTie (a1 : Int32) (s : S2) : Bool := (g_D_isWithin a1 (Int32.ofInt 0) ((g_Sea_ties 0 s) - (Int32.ofInt 1)) s)
theorem cr_D_isTie {xs : Nat → Int32} {L d : Nat} {a1 : Int32} {s : S2} {res : Bool} {Q : S2 → Option MV → Prop} (h : g_D_isTie a1 s = res) (hQ : Q s (some (mI (bI res)))) : kcall (O3 xs L) (d + 2) k_D_isTie [mR 10 0, mI a1] s Q := by
  refine kc_of (cd := kd_D_isTie) (mx := 2) (rt := 2) rfl rfl ?_
  intro P hP
  refine mgo_sound hP [] 260 _ _ _ _ _ ?_
  refine go_call (fun _ hw => c_Sea_ties hw) ?_
  refine go_call (fun _ hw => c_D_isWithin hw) ?_
  cases h
  exact ⟨bI_01 _, hQ⟩
theorem c_D_isTie {xs : Nat → Int32} {L d : Nat} {a1 : Int32} {s : S2} {Q : S2 → Option MV → Prop} (hQ : Q s (some (mI (bI (g_D_isTie a1 s))))) : kcall (O3 xs L) (d + 2) k_D_isTie [mR 10 0, mI a1] s Q := cr_D_isTie rfl hQ
/-! State_kindOf -/
def f_State_kindOf (r0 : Nat) (a1 : Int32) (s : S2) : Option Int32 := ((ix 49 ((Int32.ofInt 30) + a1)).bind fun j1 => some (s.1 21 r0 j1))
theorem c_State_kindOf {xs : Nat → Int32} {L d : Nat} {r0 : Nat} {a1 : Int32} {s : S2} {res : Int32} {Q : S2 → Option MV → Prop} (h : f_State_kindOf r0 a1 s = some res) (hQ : Q s (some (mI res))) : kcall (O3 xs L) (d + 1) k_State_kindOf [mR 20 r0, mI a1] s Q := by
  refine kc_of (cd := kd_State_kindOf) (mx := 2) (rt := 1) rfl rfl ?_
  intro P hP
  refine mgo_sound hP [] 260 _ _ _ _ _ ?_
  obtain ⟨j1, hj, h⟩ := bnd h
  refine go_ix j1 (ix_lt hj) (ix_eq hj) ?_
  cases h
  exact hQ
/-! State_apart -/
def f_State_apart_L81 (r0 : Nat) (x4 : Int32) (y0 : Int32) (s : S2) : Option Int32 := (if 0 ≤ x4 then some (y0 + x4) else some (y0 + (-x4)))
def f_State_apart (r0 : Nat) (a1 : Int32) (a2 : Int32) (s : S2) : Option Int32 := ((ix 49 ((Int32.ofInt 18) + a1)).bind fun j1 => ((ix 49 ((Int32.ofInt 0) + (s.1 21 r0 j1))).bind fun j2 => ((ix 49 ((Int32.ofInt 18) + a2)).bind fun j3 => ((ix 49 ((Int32.ofInt 0) + (s.1 21 r0 j3))).bind fun j4 => ((ix 49 ((Int32.ofInt 18) + a1)).bind fun j5 => ((ix 49 ((Int32.ofInt 6) + (s.1 21 r0 j5))).bind fun j6 => ((ix 49 ((Int32.ofInt 18) + a2)).bind fun j7 => ((ix 49 ((Int32.ofInt 6) + (s.1 21 r0 j7))).bind fun j8 => (if 0 ≤ ((s.1 21 r0 j2) - (s.1 21 r0 j4)) then (f_State_apart_L81 r0 ((s.1 21 r0 j6) - (s.1 21 r0 j8)) ((s.1 21 r0 j2) - (s.1 21 r0 j4)) s) else (f_State_apart_L81 r0 ((s.1 21 r0 j6) - (s.1 21 r0 j8)) (-((s.1 21 r0 j2) - (s.1 21 r0 j4))) s))))))))))
theorem c_State_apart_L81 {xs : Nat → Int32} {L d : Nat} {r0 : Nat} {P : MK S2} {Q : S2 → Option MV → Prop} {res : Int32} {s : S2} (hP : MClosed (O3 xs L) (kcall (O3 xs L) (d + 0)) kd_State_apart 1 Q P) (hQ : Q s (some (mI res))) (x4 : Int32) (y0 : Int32) (x1 : Int32) (x2 : Int32) (x3 : Int32) (h : f_State_apart_L81 r0 x4 y0 s = some res) : P 81 [some (mR 20 r0), some (mI x1), some (mI x2), some (mI x3), some (mI x4)] [mI y0] s (0, 0) := by
  refine mgo_from hP [81] 260 ?_
  refine go_br (fun hc : 0 ≤ x4 => ?_) (fun hc : ¬ (0 ≤ x4) => ?_)
  · replace h := (if_pos hc).symm.trans h
    cases h
    exact hQ
  · replace h := (if_neg hc).symm.trans h
    cases h
    exact hQ
theorem c_State_apart {xs : Nat → Int32} {L d : Nat} {r0 : Nat} {a1 : Int32} {a2 : Int32} {s : S2} {res : Int32} {Q : S2 → Option MV → Prop} (h : f_State_apart r0 a1 a2 s = some res) (hQ : Q s (some (mI res))) : kcall (O3 xs L) (d + 1) k_State_apart [mR 20 r0, mI a1, mI a2] s Q := by
  refine kc_of (cd := kd_State_apart) (mx := 5) (rt := 1) rfl rfl ?_
  intro P hP
  refine mgo_sound hP [81] 260 _ _ _ _ _ ?_
  obtain ⟨j1, hj, h⟩ := bnd h
  refine go_ix j1 (ix_lt hj) (ix_eq hj) ?_
  obtain ⟨j2, hj, h⟩ := bnd h
  refine go_ix j2 (ix_lt hj) (ix_eq hj) ?_
  obtain ⟨j3, hj, h⟩ := bnd h
  refine go_ix j3 (ix_lt hj) (ix_eq hj) ?_
  obtain ⟨j4, hj, h⟩ := bnd h
  refine go_ix j4 (ix_lt hj) (ix_eq hj) ?_
  obtain ⟨j5, hj, h⟩ := bnd h
  refine go_ix j5 (ix_lt hj) (ix_eq hj) ?_
  obtain ⟨j6, hj, h⟩ := bnd h
  refine go_ix j6 (ix_lt hj) (ix_eq hj) ?_
  obtain ⟨j7, hj, h⟩ := bnd h
  refine go_ix j7 (ix_lt hj) (ix_eq hj) ?_
  obtain ⟨j8, hj, h⟩ := bnd h
  refine go_ix j8 (ix_lt hj) (ix_eq hj) ?_
  refine go_br (fun hc : 0 ≤ ((s.1 21 r0 j2) - (s.1 21 r0 j4)) => ?_) (fun hc : ¬ (0 ≤ ((s.1 21 r0 j2) - (s.1 21 r0 j4))) => ?_)
  · replace h := (if_pos hc).symm.trans h
    exact c_State_apart_L81 hP hQ _ _ _ _ _ h
  · replace h := (if_neg hc).symm.trans h
    exact c_State_apart_L81 hP hQ _ _ _ _ _ h
/-! State_massOf -/
def f_State_massOf (r0 : Nat) (a1 : Int32) (s : S2) : Option Int32 := ((ix 49 ((Int32.ofInt 18) + a1)).bind fun j1 => ((ix 49 ((Int32.ofInt 12) + (s.1 21 r0 j1))).bind fun j2 => some (s.1 21 r0 j2)))
theorem c_State_massOf {xs : Nat → Int32} {L d : Nat} {r0 : Nat} {a1 : Int32} {s : S2} {res : Int32} {Q : S2 → Option MV → Prop} (h : f_State_massOf r0 a1 s = some res) (hQ : Q s (some (mI res))) : kcall (O3 xs L) (d + 1) k_State_massOf [mR 20 r0, mI a1] s Q := by
  refine kc_of (cd := kd_State_massOf) (mx := 2) (rt := 1) rfl rfl ?_
  intro P hP
  refine mgo_sound hP [] 260 _ _ _ _ _ ?_
  obtain ⟨j1, hj, h⟩ := bnd h
  refine go_ix j1 (ix_lt hj) (ix_eq hj) ?_
  obtain ⟨j2, hj, h⟩ := bnd h
  refine go_ix j2 (ix_lt hj) (ix_eq hj) ?_
  cases h
  exact hQ
/-! State_season -/
def g_State_season (r0 : Nat) (s : S2) : Int32 := (s.1 21 r0 42)
theorem cr_State_season {xs : Nat → Int32} {L d : Nat} {r0 : Nat} {s : S2} {res : Int32} {Q : S2 → Option MV → Prop} (h : g_State_season r0 s = res) (hQ : Q s (some (mI res))) : kcall (O3 xs L) (d + 1) k_State_season [mR 20 r0] s Q := by
  refine kc_of (cd := kd_State_season) (mx := 1) (rt := 1) rfl rfl ?_
  intro P hP
  refine mgo_sound hP [] 260 _ _ _ _ _ ?_
  refine go_ix 42 (Nat.le_of_ble_eq_true rfl) rfl ?_
  cases h
  exact hQ
theorem c_State_season {xs : Nat → Int32} {L d : Nat} {r0 : Nat} {s : S2} {Q : S2 → Option MV → Prop} (hQ : Q s (some (mI (g_State_season r0 s)))) : kcall (O3 xs L) (d + 1) k_State_season [mR 20 r0] s Q := cr_State_season rfl hQ
/-! Rule_join -/
def f_Rule_join_L182 (x1 : Int64) (x3 : Int64) (s : S2) : Option Int64 := some (x1 ||| x3)
def f_Rule_join (a0 : Int32) (a1 : Int64) (a3 : Int64) (s : S2) : Option Int64 := (if a0 = (Int32.ofInt 38) then some (a1 &&& a3) else (if a0 = (Int32.ofInt 39) then (f_Rule_join_L182 a1 a3 s) else (if a0 = (Int32.ofInt 40) then (f_Rule_join_L182 a1 a3 s) else (if a0 = (Int32.ofInt 41) then (f_Rule_join_L182 a1 a3 s) else (if a0 = (Int32.ofInt 42) then some (a1 * a3) else (if a0 = (Int32.ofInt 43) then some (a1 + a3) else (if a0 = (Int32.ofInt 44) then (f_Rule_join_L182 a1 a3 s) else (if a0 = (Int32.ofInt 45) then some (a1 - a3) else (if a0 = (Int32.ofInt 46) then (f_Rule_join_L182 a1 a3 s) else (if a0 = (Int32.ofInt 47) then (if (lg_cmp a3 (Int64.ofNat 0)) = 0 then some (Int64.ofNat 0) else (if a3 = 0 then none else some (a1 / a3))) else (if a0 = (Int32.ofInt 48) then (f_Rule_join_L182 a1 a3 s) else (if a0 = (Int32.ofInt 49) then (f_Rule_join_L182 a1 a3 s) else (if a0 = (Int32.ofInt 50) then (f_Rule_join_L182 a1 a3 s) else (if a0 = (Int32.ofInt 51) then (f_Rule_join_L182 a1 a3 s) else (if a0 = (Int32.ofInt 52) then (f_Rule_join_L182 a1 a3 s) else (if a0 = (Int32.ofInt 53) then (f_Rule_join_L182 a1 a3 s) else (if a0 = (Int32.ofInt 54) then (f_Rule_join_L182 a1 a3 s) else (if a0 = (Int32.ofInt 55) then (f_Rule_join_L182 a1 a3 s) else (if a0 = (Int32.ofInt 56) then (f_Rule_join_L182 a1 a3 s) else (if a0 = (Int32.ofInt 57) then (f_Rule_join_L182 a1 a3 s) else (if a0 = (Int32.ofInt 58) then (f_Rule_join_L182 a1 a3 s) else (if a0 = (Int32.ofInt 59) then (f_Rule_join_L182 a1 a3 s) else (if a0 = (Int32.ofInt 60) then (if 0 ≤ (lg_cmp a1 a3) then some (Int64.ofNat 0) else some (Int64.ofNat 1)) else (if a0 = (Int32.ofInt 61) then (if (lg_cmp a1 a3) = 0 then some (Int64.ofNat 1) else some (Int64.ofNat 0)) else (if a0 = (Int32.ofInt 62) then (if (lg_cmp a1 a3) ≤ 0 then some (Int64.ofNat 0) else some (Int64.ofNat 1)) else (f_Rule_join_L182 a1 a3 s))))))))))))))))))))))))))
theorem c_Rule_join_L182 {xs : Nat → Int32} {L d : Nat} {P : MK S2} {Q : S2 → Option MV → Prop} {res : Int64} {s : S2} (hP : MClosed (O3 xs L) (kcall (O3 xs L) (d + 0)) kd_Rule_join 4 Q P) (hQ : Q s (some (mL res))) (x1 : Int64) (x3 : Int64) (x0 : Int32) (h : f_Rule_join_L182 x1 x3 s = some res) : P 182 [some (mI x0), some (mL x1), none, some (mL x3), none] [] s (0, 0) := by
  refine mgo_from hP [182] 260 ?_
  cases h
  exact hQ
set_option maxRecDepth 20000 in
set_option maxHeartbeats 4000000 in
theorem c_Rule_join {xs : Nat → Int32} {L d : Nat} {a0 : Int32} {a1 : Int64} {a3 : Int64} {s : S2} {res : Int64} {Q : S2 → Option MV → Prop} (h : f_Rule_join a0 a1 a3 s = some res) (hQ : Q s (some (mL res))) : kcall (O3 xs L) (d + 1) k_Rule_join [mI a0, mL a1, mL a3] s Q := by
  refine kc_of (cd := kd_Rule_join) (mx := 5) (rt := 4) rfl rfl ?_
  intro P hP
  refine mgo_sound hP [182] 260 _ _ _ _ _ ?_
  refine go_br (fun hc : a0 = (Int32.ofInt 38) => ?_) (fun hc : ¬ (a0 = (Int32.ofInt 38)) => ?_)
  · replace h := (if_pos hc).symm.trans h
    cases h
    exact hQ
  · replace h := (if_neg hc).symm.trans h
    refine go_br (fun hc : a0 = (Int32.ofInt 39) => ?_) (fun hc : ¬ (a0 = (Int32.ofInt 39)) => ?_)
    · replace h := (if_pos hc).symm.trans h
      exact c_Rule_join_L182 hP hQ _ _ _ h
    · replace h := (if_neg hc).symm.trans h
      refine go_br (fun hc : a0 = (Int32.ofInt 40) => ?_) (fun hc : ¬ (a0 = (Int32.ofInt 40)) => ?_)
      · replace h := (if_pos hc).symm.trans h
        exact c_Rule_join_L182 hP hQ _ _ _ h
      · replace h := (if_neg hc).symm.trans h
        refine go_br (fun hc : a0 = (Int32.ofInt 41) => ?_) (fun hc : ¬ (a0 = (Int32.ofInt 41)) => ?_)
        · replace h := (if_pos hc).symm.trans h
          exact c_Rule_join_L182 hP hQ _ _ _ h
        · replace h := (if_neg hc).symm.trans h
          refine go_br (fun hc : a0 = (Int32.ofInt 42) => ?_) (fun hc : ¬ (a0 = (Int32.ofInt 42)) => ?_)
          · replace h := (if_pos hc).symm.trans h
            cases h
            exact hQ
          · replace h := (if_neg hc).symm.trans h
            refine go_br (fun hc : a0 = (Int32.ofInt 43) => ?_) (fun hc : ¬ (a0 = (Int32.ofInt 43)) => ?_)
            · replace h := (if_pos hc).symm.trans h
              cases h
              exact hQ
            · replace h := (if_neg hc).symm.trans h
              refine go_br (fun hc : a0 = (Int32.ofInt 44) => ?_) (fun hc : ¬ (a0 = (Int32.ofInt 44)) => ?_)
              · replace h := (if_pos hc).symm.trans h
                exact c_Rule_join_L182 hP hQ _ _ _ h
              · replace h := (if_neg hc).symm.trans h
                refine go_br (fun hc : a0 = (Int32.ofInt 45) => ?_) (fun hc : ¬ (a0 = (Int32.ofInt 45)) => ?_)
                · replace h := (if_pos hc).symm.trans h
                  cases h
                  exact hQ
                · replace h := (if_neg hc).symm.trans h
                  refine go_br (fun hc : a0 = (Int32.ofInt 46) => ?_) (fun hc : ¬ (a0 = (Int32.ofInt 46)) => ?_)
                  · replace h := (if_pos hc).symm.trans h
                    exact c_Rule_join_L182 hP hQ _ _ _ h
                  · replace h := (if_neg hc).symm.trans h
                    refine go_br (fun hc : a0 = (Int32.ofInt 47) => ?_) (fun hc : ¬ (a0 = (Int32.ofInt 47)) => ?_)
                    · replace h := (if_pos hc).symm.trans h
                      refine go_brn (fun hc : ¬ ((lg_cmp a3 (Int64.ofNat 0)) = 0) => ?_) (fun hc : (lg_cmp a3 (Int64.ofNat 0)) = 0 => ?_)
                      · replace h := (if_neg hc).symm.trans h
                        obtain ⟨hz, h⟩ := nif h
                        refine go_and hz ?_
                        cases h
                        exact hQ
                      · replace h := (if_pos hc).symm.trans h
                        cases h
                        exact hQ
                    · replace h := (if_neg hc).symm.trans h
                      refine go_br (fun hc : a0 = (Int32.ofInt 48) => ?_) (fun hc : ¬ (a0 = (Int32.ofInt 48)) => ?_)
                      · replace h := (if_pos hc).symm.trans h
                        exact c_Rule_join_L182 hP hQ _ _ _ h
                      · replace h := (if_neg hc).symm.trans h
                        refine go_br (fun hc : a0 = (Int32.ofInt 49) => ?_) (fun hc : ¬ (a0 = (Int32.ofInt 49)) => ?_)
                        · replace h := (if_pos hc).symm.trans h
                          exact c_Rule_join_L182 hP hQ _ _ _ h
                        · replace h := (if_neg hc).symm.trans h
                          refine go_br (fun hc : a0 = (Int32.ofInt 50) => ?_) (fun hc : ¬ (a0 = (Int32.ofInt 50)) => ?_)
                          · replace h := (if_pos hc).symm.trans h
                            exact c_Rule_join_L182 hP hQ _ _ _ h
                          · replace h := (if_neg hc).symm.trans h
                            refine go_br (fun hc : a0 = (Int32.ofInt 51) => ?_) (fun hc : ¬ (a0 = (Int32.ofInt 51)) => ?_)
                            · replace h := (if_pos hc).symm.trans h
                              exact c_Rule_join_L182 hP hQ _ _ _ h
                            · replace h := (if_neg hc).symm.trans h
                              refine go_br (fun hc : a0 = (Int32.ofInt 52) => ?_) (fun hc : ¬ (a0 = (Int32.ofInt 52)) => ?_)
                              · replace h := (if_pos hc).symm.trans h
                                exact c_Rule_join_L182 hP hQ _ _ _ h
                              · replace h := (if_neg hc).symm.trans h
                                refine go_br (fun hc : a0 = (Int32.ofInt 53) => ?_) (fun hc : ¬ (a0 = (Int32.ofInt 53)) => ?_)
                                · replace h := (if_pos hc).symm.trans h
                                  exact c_Rule_join_L182 hP hQ _ _ _ h
                                · replace h := (if_neg hc).symm.trans h
                                  refine go_br (fun hc : a0 = (Int32.ofInt 54) => ?_) (fun hc : ¬ (a0 = (Int32.ofInt 54)) => ?_)
                                  · replace h := (if_pos hc).symm.trans h
                                    exact c_Rule_join_L182 hP hQ _ _ _ h
                                  · replace h := (if_neg hc).symm.trans h
                                    refine go_br (fun hc : a0 = (Int32.ofInt 55) => ?_) (fun hc : ¬ (a0 = (Int32.ofInt 55)) => ?_)
                                    · replace h := (if_pos hc).symm.trans h
                                      exact c_Rule_join_L182 hP hQ _ _ _ h
                                    · replace h := (if_neg hc).symm.trans h
                                      refine go_br (fun hc : a0 = (Int32.ofInt 56) => ?_) (fun hc : ¬ (a0 = (Int32.ofInt 56)) => ?_)
                                      · replace h := (if_pos hc).symm.trans h
                                        exact c_Rule_join_L182 hP hQ _ _ _ h
                                      · replace h := (if_neg hc).symm.trans h
                                        refine go_br (fun hc : a0 = (Int32.ofInt 57) => ?_) (fun hc : ¬ (a0 = (Int32.ofInt 57)) => ?_)
                                        · replace h := (if_pos hc).symm.trans h
                                          exact c_Rule_join_L182 hP hQ _ _ _ h
                                        · replace h := (if_neg hc).symm.trans h
                                          refine go_br (fun hc : a0 = (Int32.ofInt 58) => ?_) (fun hc : ¬ (a0 = (Int32.ofInt 58)) => ?_)
                                          · replace h := (if_pos hc).symm.trans h
                                            exact c_Rule_join_L182 hP hQ _ _ _ h
                                          · replace h := (if_neg hc).symm.trans h
                                            refine go_br (fun hc : a0 = (Int32.ofInt 59) => ?_) (fun hc : ¬ (a0 = (Int32.ofInt 59)) => ?_)
                                            · replace h := (if_pos hc).symm.trans h
                                              exact c_Rule_join_L182 hP hQ _ _ _ h
                                            · replace h := (if_neg hc).symm.trans h
                                              refine go_br (fun hc : a0 = (Int32.ofInt 60) => ?_) (fun hc : ¬ (a0 = (Int32.ofInt 60)) => ?_)
                                              · replace h := (if_pos hc).symm.trans h
                                                refine go_br (fun hc : 0 ≤ (lg_cmp a1 a3) => ?_) (fun hc : ¬ (0 ≤ (lg_cmp a1 a3)) => ?_)
                                                · replace h := (if_pos hc).symm.trans h
                                                  cases h
                                                  exact hQ
                                                · replace h := (if_neg hc).symm.trans h
                                                  cases h
                                                  exact hQ
                                              · replace h := (if_neg hc).symm.trans h
                                                refine go_br (fun hc : a0 = (Int32.ofInt 61) => ?_) (fun hc : ¬ (a0 = (Int32.ofInt 61)) => ?_)
                                                · replace h := (if_pos hc).symm.trans h
                                                  refine go_brn (fun hc : ¬ ((lg_cmp a1 a3) = 0) => ?_) (fun hc : (lg_cmp a1 a3) = 0 => ?_)
                                                  · replace h := (if_neg hc).symm.trans h
                                                    cases h
                                                    exact hQ
                                                  · replace h := (if_pos hc).symm.trans h
                                                    cases h
                                                    exact hQ
                                                · replace h := (if_neg hc).symm.trans h
                                                  refine go_br (fun hc : a0 = (Int32.ofInt 62) => ?_) (fun hc : ¬ (a0 = (Int32.ofInt 62)) => ?_)
                                                  · replace h := (if_pos hc).symm.trans h
                                                    refine go_br (fun hc : (lg_cmp a1 a3) ≤ 0 => ?_) (fun hc : ¬ ((lg_cmp a1 a3) ≤ 0) => ?_)
                                                    · replace h := (if_pos hc).symm.trans h
                                                      cases h
                                                      exact hQ
                                                    · replace h := (if_neg hc).symm.trans h
                                                      cases h
                                                      exact hQ
                                                  · replace h := (if_neg hc).symm.trans h
                                                    exact c_Rule_join_L182 hP hQ _ _ _ h
/-! D_held -/
def g_D_held (a0 : Int32) (a1 : Int32) (s : S2) : Int32 := (jmax (-a1) (jmin a1 a0))
theorem cr_D_held {xs : Nat → Int32} {L d : Nat} {a0 : Int32} {a1 : Int32} {s : S2} {res : Int32} {Q : S2 → Option MV → Prop} (h : g_D_held a0 a1 s = res) (hQ : Q s (some (mI res))) : kcall (O3 xs L) (d + 1) k_D_held [mI a0, mI a1] s Q := by
  refine kc_of (cd := kd_D_held) (mx := 2) (rt := 1) rfl rfl ?_
  intro P hP
  refine mgo_sound hP [] 260 _ _ _ _ _ ?_
  cases h
  exact hQ
theorem c_D_held {xs : Nat → Int32} {L d : Nat} {a0 : Int32} {a1 : Int32} {s : S2} {Q : S2 → Option MV → Prop} (hQ : Q s (some (mI (g_D_held a0 a1 s)))) : kcall (O3 xs L) (d + 1) k_D_held [mI a0, mI a1] s Q := cr_D_held rfl hQ
/-! D_isBridge -/
def g_D_isBridge (a1 : Int32) (s : S2) : Bool := (g_D_isWithin a1 (Int32.ofInt 0) ((g_Sea_bridges 0 s) - (Int32.ofInt 1)) s)
theorem cr_D_isBridge {xs : Nat → Int32} {L d : Nat} {a1 : Int32} {s : S2} {res : Bool} {Q : S2 → Option MV → Prop} (h : g_D_isBridge a1 s = res) (hQ : Q s (some (mI (bI res)))) : kcall (O3 xs L) (d + 2) k_D_isBridge [mR 10 0, mI a1] s Q := by
  refine kc_of (cd := kd_D_isBridge) (mx := 2) (rt := 2) rfl rfl ?_
  intro P hP
  refine mgo_sound hP [] 260 _ _ _ _ _ ?_
  refine go_call (fun _ hw => c_Sea_bridges hw) ?_
  refine go_call (fun _ hw => c_D_isWithin hw) ?_
  cases h
  exact ⟨bI_01 _, hQ⟩
theorem c_D_isBridge {xs : Nat → Int32} {L d : Nat} {a1 : Int32} {s : S2} {Q : S2 → Option MV → Prop} (hQ : Q s (some (mI (bI (g_D_isBridge a1 s))))) : kcall (O3 xs L) (d + 2) k_D_isBridge [mR 10 0, mI a1] s Q := cr_D_isBridge rfl hQ
/-! State_stands -/
def f_State_stands (r0 : Nat) (a1 : Int32) (s : S2) : Option Bool := ((ix 49 ((Int32.ofInt 38) + a1)).bind fun j1 => (if (s.1 21 r0 j1) = (Int32.ofInt 1) then some true else some false))
theorem c_State_stands {xs : Nat → Int32} {L d : Nat} {r0 : Nat} {a1 : Int32} {s : S2} {res : Bool} {Q : S2 → Option MV → Prop} (h : f_State_stands r0 a1 s = some res) (hQ : Q s (some (mI (bI res)))) : kcall (O3 xs L) (d + 1) k_State_stands [mR 20 r0, mI a1] s Q := by
  refine kc_of (cd := kd_State_stands) (mx := 2) (rt := 2) rfl rfl ?_
  intro P hP
  refine mgo_sound hP [] 260 _ _ _ _ _ ?_
  obtain ⟨j1, hj, h⟩ := bnd h
  refine go_ix j1 (ix_lt hj) (ix_eq hj) ?_
  refine go_brn (fun hc : ¬ ((s.1 21 r0 j1) = (Int32.ofInt 1)) => ?_) (fun hc : (s.1 21 r0 j1) = (Int32.ofInt 1) => ?_)
  · replace h := (if_neg hc).symm.trans h
    cases h
    exact ⟨Or.inl rfl, hQ⟩
  · replace h := (if_pos hc).symm.trans h
    cases h
    exact ⟨Or.inr rfl, hQ⟩
/-! D_isIsle -/
def g_D_isIsle (a1 : Int32) (s : S2) : Bool := (g_D_isWithin a1 (Int32.ofInt 0) ((g_Sea_isles 0 s) - (Int32.ofInt 1)) s)
theorem cr_D_isIsle {xs : Nat → Int32} {L d : Nat} {a1 : Int32} {s : S2} {res : Bool} {Q : S2 → Option MV → Prop} (h : g_D_isIsle a1 s = res) (hQ : Q s (some (mI (bI res)))) : kcall (O3 xs L) (d + 2) k_D_isIsle [mR 10 0, mI a1] s Q := by
  refine kc_of (cd := kd_D_isIsle) (mx := 2) (rt := 2) rfl rfl ?_
  intro P hP
  refine mgo_sound hP [] 260 _ _ _ _ _ ?_
  refine go_call (fun _ hw => c_Sea_isles hw) ?_
  refine go_call (fun _ hw => c_D_isWithin hw) ?_
  cases h
  exact ⟨bI_01 _, hQ⟩
theorem c_D_isIsle {xs : Nat → Int32} {L d : Nat} {a1 : Int32} {s : S2} {Q : S2 → Option MV → Prop} (hQ : Q s (some (mI (bI (g_D_isIsle a1 s))))) : kcall (O3 xs L) (d + 2) k_D_isIsle [mR 10 0, mI a1] s Q := cr_D_isIsle rfl hQ
/-! State_isHead -/
def f_State_isHead (r0 : Nat) (a1 : Int32) (s : S2) : Option Bool := ((ix 49 ((Int32.ofInt 18) + a1)).bind fun j1 => (if (s.1 21 r0 j1) = a1 then some true else some false))
theorem c_State_isHead {xs : Nat → Int32} {L d : Nat} {r0 : Nat} {a1 : Int32} {s : S2} {res : Bool} {Q : S2 → Option MV → Prop} (h : f_State_isHead r0 a1 s = some res) (hQ : Q s (some (mI (bI res)))) : kcall (O3 xs L) (d + 1) k_State_isHead [mR 20 r0, mI a1] s Q := by
  refine kc_of (cd := kd_State_isHead) (mx := 2) (rt := 2) rfl rfl ?_
  intro P hP
  refine mgo_sound hP [] 260 _ _ _ _ _ ?_
  obtain ⟨j1, hj, h⟩ := bnd h
  refine go_ix j1 (ix_lt hj) (ix_eq hj) ?_
  refine go_brn (fun hc : ¬ ((s.1 21 r0 j1) = a1) => ?_) (fun hc : (s.1 21 r0 j1) = a1 => ?_)
  · replace h := (if_neg hc).symm.trans h
    cases h
    exact ⟨Or.inl rfl, hQ⟩
  · replace h := (if_pos hc).symm.trans h
    cases h
    exact ⟨Or.inr rfl, hQ⟩
/-! D_hasSea -/
def g_D_hasSea (s : S2) : Bool := (if (g_Sea_isles 0 s) ≤ 0 then false else true)
theorem cr_D_hasSea {xs : Nat → Int32} {L d : Nat} {s : S2} {res : Bool} {Q : S2 → Option MV → Prop} (h : g_D_hasSea s = res) (hQ : Q s (some (mI (bI res)))) : kcall (O3 xs L) (d + 2) k_D_hasSea [mR 10 0] s Q := by
  refine kc_of (cd := kd_D_hasSea) (mx := 1) (rt := 2) rfl rfl ?_
  intro P hP
  refine mgo_sound hP [] 260 _ _ _ _ _ ?_
  refine go_call (fun _ hw => c_Sea_isles hw) ?_
  refine go_br (fun hc : (g_Sea_isles 0 s) ≤ 0 => ?_) (fun hc : ¬ ((g_Sea_isles 0 s) ≤ 0) => ?_)
  · replace h := (if_pos hc).symm.trans h
    cases h
    exact ⟨Or.inl rfl, hQ⟩
  · replace h := (if_neg hc).symm.trans h
    cases h
    exact ⟨Or.inr rfl, hQ⟩
theorem c_D_hasSea {xs : Nat → Int32} {L d : Nat} {s : S2} {Q : S2 → Option MV → Prop} (hQ : Q s (some (mI (bI (g_D_hasSea s))))) : kcall (O3 xs L) (d + 2) k_D_hasSea [mR 10 0] s Q := cr_D_hasSea rfl hQ
/-! Sea_ofWater -/
def f_Sea_ofWater (r0 : Nat) (a1 : Int32) (s : S2) : Option Int32 := ((ix 152 a1).bind fun j1 => some (s.1 14 r0 j1))
theorem c_Sea_ofWater {xs : Nat → Int32} {L d : Nat} {r0 : Nat} {a1 : Int32} {s : S2} {res : Int32} {Q : S2 → Option MV → Prop} (h : f_Sea_ofWater r0 a1 s = some res) (hQ : Q s (some (mI res))) : kcall (O3 xs L) (d + 1) k_Sea_ofWater [mR 13 r0, mI a1] s Q := by
  refine kc_of (cd := kd_Sea_ofWater) (mx := 2) (rt := 1) rfl rfl ?_
  intro P hP
  refine mgo_sound hP [] 260 _ _ _ _ _ ?_
  obtain ⟨j1, hj, h⟩ := bnd h
  refine go_ix j1 (ix_lt hj) (ix_eq hj) ?_
  cases h
  exact hQ
/-! Charts_many -/
def g_Charts_many (s : S2) : Int32 := (s.1 49 0 8)
theorem cr_Charts_many {xs : Nat → Int32} {L d : Nat} {s : S2} {res : Int32} {Q : S2 → Option MV → Prop} (h : g_Charts_many s = res) (hQ : Q s (some (mI res))) : kcall (O3 xs L) (d + 1) k_Charts_many [mR 49 0] s Q := by
  refine kc_of (cd := kd_Charts_many) (mx := 1) (rt := 1) rfl rfl ?_
  intro P hP
  refine mgo_sound hP [] 260 _ _ _ _ _ ?_
  cases h
  exact hQ
theorem c_Charts_many {xs : Nat → Int32} {L d : Nat} {s : S2} {Q : S2 → Option MV → Prop} (hQ : Q s (some (mI (g_Charts_many s)))) : kcall (O3 xs L) (d + 1) k_Charts_many [mR 49 0] s Q := cr_Charts_many rfl hQ
/-! Past_undoable -/
def g_Past_undoable (s : S2) : Int32 := (s.1 22 0 2)
theorem cr_Past_undoable {xs : Nat → Int32} {L d : Nat} {s : S2} {res : Int32} {Q : S2 → Option MV → Prop} (h : g_Past_undoable s = res) (hQ : Q s (some (mI res))) : kcall (O3 xs L) (d + 1) k_Past_undoable [mR 22 0] s Q := by
  refine kc_of (cd := kd_Past_undoable) (mx := 1) (rt := 1) rfl rfl ?_
  intro P hP
  refine mgo_sound hP [] 260 _ _ _ _ _ ?_
  cases h
  exact hQ
theorem c_Past_undoable {xs : Nat → Int32} {L d : Nat} {s : S2} {Q : S2 → Option MV → Prop} (hQ : Q s (some (mI (g_Past_undoable s)))) : kcall (O3 xs L) (d + 1) k_Past_undoable [mR 22 0] s Q := cr_Past_undoable rfl hQ
/-! Past_noted -/
def g_Past_noted (s : S2) : Int32 := (s.1 22 0 4)
theorem cr_Past_noted {xs : Nat → Int32} {L d : Nat} {s : S2} {res : Int32} {Q : S2 → Option MV → Prop} (h : g_Past_noted s = res) (hQ : Q s (some (mI res))) : kcall (O3 xs L) (d + 1) k_Past_noted [mR 22 0] s Q := by
  refine kc_of (cd := kd_Past_noted) (mx := 1) (rt := 1) rfl rfl ?_
  intro P hP
  refine mgo_sound hP [] 260 _ _ _ _ _ ?_
  cases h
  exact hQ
theorem c_Past_noted {xs : Nat → Int32} {L d : Nat} {s : S2} {Q : S2 → Option MV → Prop} (hQ : Q s (some (mI (g_Past_noted s)))) : kcall (O3 xs L) (d + 1) k_Past_noted [mR 22 0] s Q := cr_Past_noted rfl hQ
/-! Course_holdBy -/
def f_Course_holdBy (x : Option Nat) (s : S2) : Option S2 := some (pkS s 31 0 11 (match x with
  | none => 0
  | some n => nI (n + 1)))
theorem c_Course_holdBy0 {xs : Nat → Int32} {L d : Nat} {s res : S2} {Q : S2 → Option MV → Prop} (h : f_Course_holdBy none s = some res) (hQ : Q res none) : kcall (O3 xs L) (d + 1) k_Course_holdBy [mR 31 0, mR 0 0] s Q := by
  refine kc_of (cd := kd_Course_holdBy) (mx := 2) (rt := 0) rfl rfl ?_
  intro P hP
  refine mgo_sound hP [] 260 _ _ _ _ _ ?_
  cases h
  exact hQ
theorem c_Course_holdBy1 {xs : Nat → Int32} {L d n : Nat} {s res : S2} {Q : S2 → Option MV → Prop} (h : f_Course_holdBy (some n) s = some res) (hQ : Q res none) : kcall (O3 xs L) (d + 1) k_Course_holdBy [mR 31 0, mR 17 n] s Q := by
  refine kc_of (cd := kd_Course_holdBy) (mx := 2) (rt := 0) rfl rfl ?_
  intro P hP
  refine mgo_sound hP [] 260 _ _ _ _ _ ?_
  cases h
  exact hQ
/-! State_turnKind -/
def f_State_turnKind (r0 : Nat) (a1 : Int32) (s : S2) : Option S2 := ((ix 49 ((Int32.ofInt 30) + a1)).bind fun j1 => ((ix 49 ((Int32.ofInt 30) + a1)).bind fun j3 => (some (pkS s 21 r0 j3 ((Int32.ofInt 1) - (s.1 21 r0 j1)))).bind fun s2 => some s2))
theorem c_State_turnKind {xs : Nat → Int32} {L d : Nat} {r0 : Nat} {a1 : Int32} {s : S2} {res : S2} {Q : S2 → Option MV → Prop} (h : f_State_turnKind r0 a1 s = some res) (hQ : Q res none) : kcall (O3 xs L) (d + 1) k_State_turnKind [mR 20 r0, mI a1] s Q := by
  refine kc_of (cd := kd_State_turnKind) (mx := 2) (rt := 0) rfl rfl ?_
  intro P hP
  refine mgo_sound hP [] 260 _ _ _ _ _ ?_
  obtain ⟨j1, hj, h⟩ := bnd h
  refine go_ix j1 (ix_lt hj) (ix_eq hj) ?_
  obtain ⟨j3, hj, h⟩ := bnd h
  replace h := bnds h
  refine go_ix j3 (ix_lt hj) (ix_eq hj) ?_
  cases h
  exact hQ
/-! State_priceOf -/
def f_State_priceOf (r0 : Nat) (a1 : Int32) (s : S2) : Option Int32 := ((ix 49 ((Int32.ofInt 43) + a1)).bind fun j1 => some (s.1 21 r0 j1))
theorem c_State_priceOf {xs : Nat → Int32} {L d : Nat} {r0 : Nat} {a1 : Int32} {s : S2} {res : Int32} {Q : S2 → Option MV → Prop} (h : f_State_priceOf r0 a1 s = some res) (hQ : Q s (some (mI res))) : kcall (O3 xs L) (d + 1) k_State_priceOf [mR 20 r0, mI a1] s Q := by
  refine kc_of (cd := kd_State_priceOf) (mx := 2) (rt := 1) rfl rfl ?_
  intro P hP
  refine mgo_sound hP [] 260 _ _ _ _ _ ?_
  obtain ⟨j1, hj, h⟩ := bnd h
  refine go_ix j1 (ix_lt hj) (ix_eq hj) ?_
  cases h
  exact hQ
/-! State_tellPrice -/
def f_State_tellPrice (r0 : Nat) (a1 : Int32) (a2 : Int32) (s : S2) : Option S2 := ((ix 49 ((Int32.ofInt 43) + a1)).bind fun j2 => (some (pkS s 21 r0 j2 a2)).bind fun s1 => some s1)
theorem c_State_tellPrice {xs : Nat → Int32} {L d : Nat} {r0 : Nat} {a1 : Int32} {a2 : Int32} {s : S2} {res : S2} {Q : S2 → Option MV → Prop} (h : f_State_tellPrice r0 a1 a2 s = some res) (hQ : Q res none) : kcall (O3 xs L) (d + 1) k_State_tellPrice [mR 20 r0, mI a1, mI a2] s Q := by
  refine kc_of (cd := kd_State_tellPrice) (mx := 3) (rt := 0) rfl rfl ?_
  intro P hP
  refine mgo_sound hP [] 260 _ _ _ _ _ ?_
  obtain ⟨j2, hj, h⟩ := bnd h
  replace h := bnds h
  refine go_ix j2 (ix_lt hj) (ix_eq hj) ?_
  cases h
  exact hQ
/-! Weather_tell -/
def f_Weather_tell_L19 (x1 : Int32) (x2 : Int32) (s : S2) : Option (S2 × Bool) := (if x1 = (Int32.ofInt 1) then (if (s.1 25 0 1) = x2 then some (s, false) else ((some (pkS s 25 0 1 x2)).bind fun s1 => some (s1, true))) else some (s, false))
def f_Weather_tell (a1 : Int32) (a2 : Int32) (s : S2) : Option (S2 × Bool) := (if a1 = 0 then (if (s.1 25 0 0) = a2 then (f_Weather_tell_L19 a1 a2 s) else ((some (pkS s 25 0 0 a2)).bind fun s1 => some (s1, true))) else (f_Weather_tell_L19 a1 a2 s))
theorem c_Weather_tell_L19 {xs : Nat → Int32} {L d : Nat} {P : MK S2} {Q : S2 → Option MV → Prop} {res : S2 × Bool} (hP : MClosed (O3 xs L) (kcall (O3 xs L) (d + 0)) kd_Weather_tell 2 Q P) (hQ : Q res.1 (some (mI (bI res.2)))) (x1 : Int32) (x2 : Int32) (s : S2) (h : f_Weather_tell_L19 x1 x2 s = some res) : P 19 [some (mR 25 0), some (mI x1), some (mI x2)] [] s (0, 0) := by
  refine mgo_from hP [19] 260 ?_
  refine go_brn (fun hc : ¬ (x1 = (Int32.ofInt 1)) => ?_) (fun hc : x1 = (Int32.ofInt 1) => ?_)
  · replace h := (if_neg hc).symm.trans h
    cases h
    exact ⟨Or.inl rfl, hQ⟩
  · replace h := (if_pos hc).symm.trans h
    refine go_br (fun hc : (s.1 25 0 1) = x2 => ?_) (fun hc : ¬ ((s.1 25 0 1) = x2) => ?_)
    · replace h := (if_pos hc).symm.trans h
      cases h
      exact ⟨Or.inl rfl, hQ⟩
    · replace h := (if_neg hc).symm.trans h
      replace h := bnds h
      cases h
      exact ⟨Or.inr rfl, hQ⟩
theorem c_Weather_tell {xs : Nat → Int32} {L d : Nat} {a1 : Int32} {a2 : Int32} {s : S2} {res : S2 × Bool} {Q : S2 → Option MV → Prop} (h : f_Weather_tell a1 a2 s = some res) (hQ : Q res.1 (some (mI (bI res.2)))) : kcall (O3 xs L) (d + 1) k_Weather_tell [mR 25 0, mI a1, mI a2] s Q := by
  refine kc_of (cd := kd_Weather_tell) (mx := 3) (rt := 2) rfl rfl ?_
  intro P hP
  refine mgo_sound hP [19] 260 _ _ _ _ _ ?_
  refine go_brn (fun hc : ¬ (a1 = 0) => ?_) (fun hc : a1 = 0 => ?_)
  · replace h := (if_neg hc).symm.trans h
    exact c_Weather_tell_L19 hP hQ _ _ _ h
  · replace h := (if_pos hc).symm.trans h
    refine go_br (fun hc : (s.1 25 0 0) = a2 => ?_) (fun hc : ¬ ((s.1 25 0 0) = a2) => ?_)
    · replace h := (if_pos hc).symm.trans h
      exact c_Weather_tell_L19 hP hQ _ _ _ h
    · replace h := (if_neg hc).symm.trans h
      replace h := bnds h
      cases h
      exact ⟨Or.inr rfl, hQ⟩
/-! State_copy -/
def f_State_copy (r0 : Nat) (r1 : Nat) (s : S2) : Option S2 := ((nx (Int32.ofInt 49)).bind fun j2 => (nx (Int32.ofInt 0)).bind fun j3 => (nx (Int32.ofInt 0)).bind fun j4 => if j4 + j2 ≤ 49 ∧ j3 + j2 ≤ 49 then ((some (cpS s 21 r0 (s.1 21 r1) j4 j3 j2)).bind fun s1 => some s1) else none)
theorem c_State_copy {xs : Nat → Int32} {L d : Nat} {r0 : Nat} {r1 : Nat} {s : S2} {res : S2} {Q : S2 → Option MV → Prop} (h : f_State_copy r0 r1 s = some res) (hQ : Q res none) : kcall (O3 xs L) (d + 1) k_State_copy [mR 20 r0, mR 20 r1] s Q := by
  refine kc_of (cd := kd_State_copy) (mx := 2) (rt := 0) rfl rfl ?_
  intro P hP
  refine mgo_sound hP [] 260 _ _ _ _ _ ?_
  obtain ⟨j2, hj0, h⟩ := bnd h
  obtain ⟨j3, hj1, h⟩ := bnd h
  obtain ⟨j4, hj2, h⟩ := bnd h
  obtain ⟨hz, h⟩ := pif h
  replace h := bnds h
  refine go_cpy j2 j3 j4 (nx_eq hj0) (nx_eq hj1) (nx_eq hj2) hz.1 hz.2 rfl ?_
  cases h
  exact hQ
/-! D_back -/
def f_D_back (s : S2) : Option (S2 × Int32) := (if (s.1 10 0 16) = 0 then some (s, (Int32.ofInt (-1))) else ((f_State_copy 0 1 s).bind fun q1 => ((f_Past_forgetStates q1).bind fun q2 => some (q2, (g_State_season 0 q2)))))
theorem c_D_back {xs : Nat → Int32} {L d : Nat} {s : S2} {res : S2 × Int32} {Q : S2 → Option MV → Prop} (h : f_D_back s = some res) (hQ : Q res.1 (some (mI res.2))) : kcall (O3 xs L) (d + 2) k_D_back [mR 10 0] s Q := by
  refine kc_of (cd := kd_D_back) (mx := 1) (rt := 1) rfl rfl ?_
  intro P hP
  refine mgo_sound hP [] 260 _ _ _ _ _ ?_
  refine go_brn (fun hc : ¬ ((s.1 10 0 16) = 0) => ?_) (fun hc : (s.1 10 0 16) = 0 => ?_)
  · replace h := (if_neg hc).symm.trans h
    obtain ⟨q1, hq, h⟩ := bnd h
    refine go_call (fun _ hw => c_State_copy hq hw) ?_
    obtain ⟨q2, hq, h⟩ := bnd h
    refine go_call (fun _ hw => c_Past_forgetStates hq hw) ?_
    refine go_call (fun _ hw => c_State_season hw) ?_
    cases h
    exact hQ
  · replace h := (if_pos hc).symm.trans h
    cases h
    exact hQ
/-! Past_keep -/
def f_Past_keep (r1 : Nat) (s : S2) : Option S2 := ((ix 30 (s.1 22 0 3)).bind fun j1 => ((f_State_copy (5 + j1) r1 s).bind fun q2 => ((some (pkS q2 22 0 3 (jrem ((q2.1 22 0 3) + (Int32.ofInt 1)) (Int32.ofInt 30)))).bind fun s3 => ((some (pkS s3 22 0 2 (jmin (Int32.ofInt 30) ((s3.1 22 0 2) + (Int32.ofInt 1))))).bind fun s4 => some s4))))
theorem c_Past_keep {xs : Nat → Int32} {L d : Nat} {r1 : Nat} {s : S2} {res : S2} {Q : S2 → Option MV → Prop} (h : f_Past_keep r1 s = some res) (hQ : Q res none) : kcall (O3 xs L) (d + 2) k_Past_keep [mR 22 0, mR 20 r1] s Q := by
  refine kc_of (cd := kd_Past_keep) (mx := 2) (rt := 0) rfl rfl ?_
  intro P hP
  refine mgo_sound hP [] 260 _ _ _ _ _ ?_
  obtain ⟨j1, hj, h⟩ := bnd h
  refine go_ix j1 (ix_lt hj) (ix_eq hj) ?_
  obtain ⟨q2, hq, h⟩ := bnd h
  refine go_call (fun _ hw => c_State_copy hq hw) ?_
  refine go_and (by decide) ?_
  replace h := bnds h
  replace h := bnds h
  cases h
  exact hQ
/-! Course_drawByTold -/
def f_Course_drawByTold (s : S2) : Option S2 := ((some (pkS s 31 0 12 (Int32.ofInt 255))).bind fun s1 => ((some (pkS s1 31 0 13 (Int32.ofInt 0))).bind fun s2 => some s2))
theorem c_Course_drawByTold {xs : Nat → Int32} {L d : Nat} {s : S2} {res : S2} {Q : S2 → Option MV → Prop} (h : f_Course_drawByTold s = some res) (hQ : Q res none) : kcall (O3 xs L) (d + 1) k_Course_drawByTold [mR 31 0] s Q := by
  refine kc_of (cd := kd_Course_drawByTold) (mx := 1) (rt := 0) rfl rfl ?_
  intro P hP
  refine mgo_sound hP [] 260 _ _ _ _ _ ?_
  replace h := bnds h
  replace h := bnds h
  cases h
  exact hQ
/-! State_xOf -/
def f_State_xOf (r0 : Nat) (a1 : Int32) (s : S2) : Option Int32 := ((ix 49 ((Int32.ofInt 18) + a1)).bind fun j1 => ((ix 49 ((Int32.ofInt 0) + (s.1 21 r0 j1))).bind fun j2 => some (s.1 21 r0 j2)))
theorem c_State_xOf {xs : Nat → Int32} {L d : Nat} {r0 : Nat} {a1 : Int32} {s : S2} {res : Int32} {Q : S2 → Option MV → Prop} (h : f_State_xOf r0 a1 s = some res) (hQ : Q s (some (mI res))) : kcall (O3 xs L) (d + 1) k_State_xOf [mR 20 r0, mI a1] s Q := by
  refine kc_of (cd := kd_State_xOf) (mx := 2) (rt := 1) rfl rfl ?_
  intro P hP
  refine mgo_sound hP [] 260 _ _ _ _ _ ?_
  obtain ⟨j1, hj, h⟩ := bnd h
  refine go_ix j1 (ix_lt hj) (ix_eq hj) ?_
  obtain ⟨j2, hj, h⟩ := bnd h
  refine go_ix j2 (ix_lt hj) (ix_eq hj) ?_
  cases h
  exact hQ
/-! State_yOf -/
def f_State_yOf (r0 : Nat) (a1 : Int32) (s : S2) : Option Int32 := ((ix 49 ((Int32.ofInt 18) + a1)).bind fun j1 => ((ix 49 ((Int32.ofInt 6) + (s.1 21 r0 j1))).bind fun j2 => some (s.1 21 r0 j2)))
theorem c_State_yOf {xs : Nat → Int32} {L d : Nat} {r0 : Nat} {a1 : Int32} {s : S2} {res : Int32} {Q : S2 → Option MV → Prop} (h : f_State_yOf r0 a1 s = some res) (hQ : Q s (some (mI res))) : kcall (O3 xs L) (d + 1) k_State_yOf [mR 20 r0, mI a1] s Q := by
  refine kc_of (cd := kd_State_yOf) (mx := 2) (rt := 1) rfl rfl ?_
  intro P hP
  refine mgo_sound hP [] 260 _ _ _ _ _ ?_
  obtain ⟨j1, hj, h⟩ := bnd h
  refine go_ix j1 (ix_lt hj) (ix_eq hj) ?_
  obtain ⟨j2, hj, h⟩ := bnd h
  refine go_ix j2 (ix_lt hj) (ix_eq hj) ?_
  cases h
  exact hQ
/-! State_headOf -/
def f_State_headOf (r0 : Nat) (a1 : Int32) (s : S2) : Option Int32 := ((ix 49 ((Int32.ofInt 18) + a1)).bind fun j1 => some (s.1 21 r0 j1))
theorem c_State_headOf {xs : Nat → Int32} {L d : Nat} {r0 : Nat} {a1 : Int32} {s : S2} {res : Int32} {Q : S2 → Option MV → Prop} (h : f_State_headOf r0 a1 s = some res) (hQ : Q s (some (mI res))) : kcall (O3 xs L) (d + 1) k_State_headOf [mR 20 r0, mI a1] s Q := by
  refine kc_of (cd := kd_State_headOf) (mx := 2) (rt := 1) rfl rfl ?_
  intro P hP
  refine mgo_sound hP [] 260 _ _ _ _ _ ?_
  obtain ⟨j1, hj, h⟩ := bnd h
  refine go_ix j1 (ix_lt hj) (ix_eq hj) ?_
  cases h
  exact hQ
/-! Course_doesTradePull -/
def f_Course_doesTradePull (s : S2) : Option Bool := ((f_Sea_ofWater 0 (Int32.ofInt 2) s).bind fun q1 => (if q1 = (Int32.ofInt 1) then some true else some false))
theorem c_Course_doesTradePull {xs : Nat → Int32} {L d : Nat} {s : S2} {res : Bool} {Q : S2 → Option MV → Prop} (h : f_Course_doesTradePull s = some res) (hQ : Q s (some (mI (bI res)))) : kcall (O3 xs L) (d + 2) k_Course_doesTradePull [mR 31 0] s Q := by
  refine kc_of (cd := kd_Course_doesTradePull) (mx := 1) (rt := 2) rfl rfl ?_
  intro P hP
  refine mgo_sound hP [] 260 _ _ _ _ _ ?_
  obtain ⟨q1, hq, h⟩ := bnd h
  refine go_call (fun _ hw => c_Sea_ofWater hq hw) ?_
  refine go_brn (fun hc : ¬ (q1 = (Int32.ofInt 1)) => ?_) (fun hc : q1 = (Int32.ofInt 1) => ?_)
  · replace h := (if_neg hc).symm.trans h
    cases h
    exact ⟨Or.inl rfl, hQ⟩
  · replace h := (if_pos hc).symm.trans h
    cases h
    exact ⟨Or.inr rfl, hQ⟩
/-! Trade_cheapest -/
def f_Trade_cheapest_L103 (r0 : Nat) (r1 : Nat) (r2 : Nat) (k6 : Int32 → Int32 → Int32 → S2 → Option (S2 × Int32)) (x3 : Int32) (x4 : Int32) (x5 : Int32) (s : S2) : Option (S2 × Int32) := (k6 x3 x4 (x5 + (Int32.ofInt 1)) s)
def f_Trade_cheapest_L93 (r0 : Nat) (r1 : Nat) (r2 : Nat) (k6 : Int32 → Int32 → Int32 → S2 → Option (S2 × Int32)) (x3 : Int32) (x5 : Int32) (x6 : Int32) (s : S2) : Option (S2 × Int32) := ((some (pkS s 26 r0 4 x6)).bind fun s1 => (f_Trade_cheapest_L103 r0 r1 r2 k6 x3 x5 x5 s1))
def b_Trade_cheapest_L6 (r0 : Nat) (r1 : Nat) (r2 : Nat) (k6 : Int32 → Int32 → Int32 → S2 → Option (S2 × Int32)) (x3 : Int32) (x4 : Int32) (x5 : Int32) (s : S2) : Option (S2 × Int32) := (if (g_Sea_isles r1 s) ≤ x5 then some (s, x4) else (if x5 = x3 then (f_Trade_cheapest_L103 r0 r1 r2 k6 x3 x4 x5 s) else ((f_State_isHead r2 x5 s).bind fun q1 => (if (bI q1) = 0 then (f_Trade_cheapest_L103 r0 r1 r2 k6 x3 x4 x5 s) else ((ix 6 x5).bind fun j2 => (if (s.1 30 r0 j2) ≤ 0 then (f_Trade_cheapest_L103 r0 r1 r2 k6 x3 x4 x5 s) else ((f_Sea_ofIsle r1 x5 (Int32.ofInt 3) s).bind fun q3 => ((f_Sea_ofIsle r1 x3 (Int32.ofInt 4) s).bind fun q4 => (if q3 = q4 then ((f_State_priceOf r2 x5 s).bind fun q5 => ((f_Sea_ofWater r1 (Int32.ofInt 0) s).bind fun q6 => ((f_State_apart r2 x3 x5 s).bind fun q7 => (if x4 = (Int32.ofInt (-1)) then (f_Trade_cheapest_L93 r0 r1 r2 k6 x3 x5 (q5 + (q6 * q7)) s) else (if (s.1 26 r0 4) ≤ (q5 + (q6 * q7)) then (f_Trade_cheapest_L103 r0 r1 r2 k6 x3 x4 x5 s) else (f_Trade_cheapest_L93 r0 r1 r2 k6 x3 x5 (q5 + (q6 * q7)) s)))))) else (f_Trade_cheapest_L103 r0 r1 r2 k6 x3 x4 x5 s))))))))))
def f_Trade_cheapest_L6 (r0 : Nat) (r1 : Nat) (r2 : Nat) : Nat → Int32 → Int32 → Int32 → S2 → Option (S2 × Int32)
  | 0 => fun _ _ _ _ => none
  | n + 1 => b_Trade_cheapest_L6 r0 r1 r2 (f_Trade_cheapest_L6 r0 r1 r2 n)
def f_Trade_cheapest (r0 : Nat) (r1 : Nat) (r2 : Nat) (a3 : Int32) (s : S2) : Option (S2 × Int32) := (f_Trade_cheapest_L6 r0 r1 r2 FU a3 (Int32.ofInt (-1)) (Int32.ofInt 0) s)
theorem c_Trade_cheapest_L103 {xs : Nat → Int32} {L d : Nat} {r0 r1 r2 : Nat} {P : MK S2} {Q : S2 → Option MV → Prop} {res : S2 × Int32} (hP : MClosed (O3 xs L) (kcall (O3 xs L) (d + 1)) kd_Trade_cheapest 1 Q P) (hQ : Q res.1 (some (mI res.2))) {k6 : Int32 → Int32 → Int32 → S2 → Option (S2 × Int32)} (hk6 : ∀ (x3 : Int32) (x4 : Int32) (x5 : Int32) (x6 : Option Int32) (s : S2), k6 x3 x4 x5 s = some res → P 6 [some (mR 26 r0), some (mR 13 r1), some (mR 20 r2), some (mI x3), some (mI x4), some (mI x5), oI x6] [] s (0, 0)) (x3 : Int32) (x4 : Int32) (x5 : Int32) (x6 : Option Int32) (s : S2) (h : f_Trade_cheapest_L103 r0 r1 r2 k6 x3 x4 x5 s = some res) : P 103 [some (mR 26 r0), some (mR 13 r1), some (mR 20 r2), some (mI x3), some (mI x4), some (mI x5), oI x6] [] s (0, 0) := by
  refine mgo_from hP [6, 93, 103] 260 ?_
  exact hk6 _ _ _ x6 _ h
theorem c_Trade_cheapest_L93 {xs : Nat → Int32} {L d : Nat} {r0 r1 r2 : Nat} {P : MK S2} {Q : S2 → Option MV → Prop} {res : S2 × Int32} (hP : MClosed (O3 xs L) (kcall (O3 xs L) (d + 1)) kd_Trade_cheapest 1 Q P) (hQ : Q res.1 (some (mI res.2))) {k6 : Int32 → Int32 → Int32 → S2 → Option (S2 × Int32)} (hk6 : ∀ (x3 : Int32) (x4 : Int32) (x5 : Int32) (x6 : Option Int32) (s : S2), k6 x3 x4 x5 s = some res → P 6 [some (mR 26 r0), some (mR 13 r1), some (mR 20 r2), some (mI x3), some (mI x4), some (mI x5), oI x6] [] s (0, 0)) (x3 : Int32) (x5 : Int32) (x6 : Int32) (x4 : Int32) (s : S2) (h : f_Trade_cheapest_L93 r0 r1 r2 k6 x3 x5 x6 s = some res) : P 93 [some (mR 26 r0), some (mR 13 r1), some (mR 20 r2), some (mI x3), some (mI x4), some (mI x5), some (mI x6)] [] s (0, 0) := by
  refine mgo_from hP [6, 93, 103] 260 ?_
  replace h := bnds h
  exact c_Trade_cheapest_L103 hP hQ hk6 _ _ _ (some x6) _ h
set_option maxRecDepth 20000 in
set_option maxHeartbeats 4000000 in
theorem cb_Trade_cheapest_L6 {xs : Nat → Int32} {L d : Nat} {r0 r1 r2 : Nat} {P : MK S2} {Q : S2 → Option MV → Prop} {res : S2 × Int32} (hP : MClosed (O3 xs L) (kcall (O3 xs L) (d + 1)) kd_Trade_cheapest 1 Q P) (hQ : Q res.1 (some (mI res.2))) {k6 : Int32 → Int32 → Int32 → S2 → Option (S2 × Int32)} (hk6 : ∀ (x3 : Int32) (x4 : Int32) (x5 : Int32) (x6 : Option Int32) (s : S2), k6 x3 x4 x5 s = some res → P 6 [some (mR 26 r0), some (mR 13 r1), some (mR 20 r2), some (mI x3), some (mI x4), some (mI x5), oI x6] [] s (0, 0)) (x3 : Int32) (x4 : Int32) (x5 : Int32) (x6 : Option Int32) (s : S2) (h : b_Trade_cheapest_L6 r0 r1 r2 k6 x3 x4 x5 s = some res) : P 6 [some (mR 26 r0), some (mR 13 r1), some (mR 20 r2), some (mI x3), some (mI x4), some (mI x5), oI x6] [] s (0, 0) := by
  refine mgo_from hP [6, 93, 103] 260 ?_
  refine go_call (fun _ hw => c_Sea_isles hw) ?_
  refine go_br (fun hc : (g_Sea_isles r1 s) ≤ x5 => ?_) (fun hc : ¬ ((g_Sea_isles r1 s) ≤ x5) => ?_)
  · replace h := (if_pos hc).symm.trans h
    cases h
    exact hQ
  · replace h := (if_neg hc).symm.trans h
    refine go_br (fun hc : x5 = x3 => ?_) (fun hc : ¬ (x5 = x3) => ?_)
    · replace h := (if_pos hc).symm.trans h
      exact c_Trade_cheapest_L103 hP hQ hk6 _ _ _ x6 _ h
    · replace h := (if_neg hc).symm.trans h
      obtain ⟨q1, hq, h⟩ := bnd h
      refine go_call (fun _ hw => c_State_isHead hq hw) ?_
      refine go_br (fun hc : (bI q1) = 0 => ?_) (fun hc : ¬ ((bI q1) = 0) => ?_)
      · replace h := (if_pos hc).symm.trans h
        exact c_Trade_cheapest_L103 hP hQ hk6 _ _ _ x6 _ h
      · replace h := (if_neg hc).symm.trans h
        obtain ⟨j2, hj, h⟩ := bnd h
        refine go_ix j2 (ix_lt hj) (ix_eq hj) ?_
        refine go_br (fun hc : (s.1 30 r0 j2) ≤ 0 => ?_) (fun hc : ¬ ((s.1 30 r0 j2) ≤ 0) => ?_)
        · replace h := (if_pos hc).symm.trans h
          exact c_Trade_cheapest_L103 hP hQ hk6 _ _ _ x6 _ h
        · replace h := (if_neg hc).symm.trans h
          obtain ⟨q3, hq, h⟩ := bnd h
          refine go_call (fun _ hw => c_Sea_ofIsle hq hw) ?_
          obtain ⟨q4, hq, h⟩ := bnd h
          refine go_call (fun _ hw => c_Sea_ofIsle hq hw) ?_
          refine go_brn (fun hc : ¬ (q3 = q4) => ?_) (fun hc : q3 = q4 => ?_)
          · replace h := (if_neg hc).symm.trans h
            exact c_Trade_cheapest_L103 hP hQ hk6 _ _ _ x6 _ h
          · replace h := (if_pos hc).symm.trans h
            obtain ⟨q5, hq, h⟩ := bnd h
            refine go_call (fun _ hw => c_State_priceOf hq hw) ?_
            obtain ⟨q6, hq, h⟩ := bnd h
            refine go_call (fun _ hw => c_Sea_ofWater hq hw) ?_
            obtain ⟨q7, hq, h⟩ := bnd h
            refine go_call (fun _ hw => c_State_apart hq hw) ?_
            refine go_br (fun hc : x4 = (Int32.ofInt (-1)) => ?_) (fun hc : ¬ (x4 = (Int32.ofInt (-1))) => ?_)
            · replace h := (if_pos hc).symm.trans h
              exact c_Trade_cheapest_L93 hP hQ hk6 _ _ _ _ _ h
            · replace h := (if_neg hc).symm.trans h
              refine go_br (fun hc : (s.1 26 r0 4) ≤ (q5 + (q6 * q7)) => ?_) (fun hc : ¬ ((s.1 26 r0 4) ≤ (q5 + (q6 * q7))) => ?_)
              · replace h := (if_pos hc).symm.trans h
                exact c_Trade_cheapest_L103 hP hQ hk6 _ _ _ (some (q5 + (q6 * q7))) _ h
              · replace h := (if_neg hc).symm.trans h
                exact c_Trade_cheapest_L93 hP hQ hk6 _ _ _ _ _ h
theorem c_Trade_cheapest_L6 {xs : Nat → Int32} {L d : Nat} {r0 r1 r2 : Nat} {P : MK S2} {Q : S2 → Option MV → Prop} {res : S2 × Int32} (hP : MClosed (O3 xs L) (kcall (O3 xs L) (d + 1)) kd_Trade_cheapest 1 Q P) (hQ : Q res.1 (some (mI res.2))) : ∀ (fu : Nat) (x3 : Int32) (x4 : Int32) (x5 : Int32) (x6 : Option Int32) (s : S2), f_Trade_cheapest_L6 r0 r1 r2 fu x3 x4 x5 s = some res → P 6 [some (mR 26 r0), some (mR 13 r1), some (mR 20 r2), some (mI x3), some (mI x4), some (mI x5), oI x6] [] s (0, 0)
  | 0, _, _, _, _, _, h => by cases h
  | fu + 1, x3, x4, x5, x6, s, h => cb_Trade_cheapest_L6 hP hQ (c_Trade_cheapest_L6 hP hQ fu) x3 x4 x5 x6 s h
theorem c_Trade_cheapest {xs : Nat → Int32} {L d : Nat} {r0 : Nat} {r1 : Nat} {r2 : Nat} {a3 : Int32} {s : S2} {res : S2 × Int32} {Q : S2 → Option MV → Prop} (h : f_Trade_cheapest r0 r1 r2 a3 s = some res) (hQ : Q res.1 (some (mI res.2))) : kcall (O3 xs L) (d + 2) k_Trade_cheapest [mR 26 r0, mR 13 r1, mR 20 r2, mI a3] s Q := by
  refine kc_of (cd := kd_Trade_cheapest) (mx := 7) (rt := 1) rfl rfl ?_
  intro P hP
  refine mgo_sound hP [6, 93, 103] 260 _ _ _ _ _ ?_
  exact c_Trade_cheapest_L6 hP hQ FU _ _ _ none _ h
/-! Trade_bought -/
def f_Trade_bought (r0 : Nat) (a1 : Int32) (a2 : Int32) (s : S2) : Option Int32 := ((ix 36 ((a1 * (Int32.ofInt 6)) + a2)).bind fun j1 => some (s.1 27 r0 j1))
theorem c_Trade_bought {xs : Nat → Int32} {L d : Nat} {r0 : Nat} {a1 : Int32} {a2 : Int32} {s : S2} {res : Int32} {Q : S2 → Option MV → Prop} (h : f_Trade_bought r0 a1 a2 s = some res) (hQ : Q s (some (mI res))) : kcall (O3 xs L) (d + 1) k_Trade_bought [mR 26 r0, mI a1, mI a2] s Q := by
  refine kc_of (cd := kd_Trade_bought) (mx := 3) (rt := 1) rfl rfl ?_
  intro P hP
  refine mgo_sound hP [] 260 _ _ _ _ _ ?_
  obtain ⟨j1, hj, h⟩ := bnd h
  refine go_ix j1 (ix_lt hj) (ix_eq hj) ?_
  cases h
  exact hQ
/-! State_putAt -/
def f_State_putAt (r0 : Nat) (a1 : Int32) (a2 : Int32) (a3 : Int32) (s : S2) : Option S2 := ((ix 49 ((Int32.ofInt 0) + a1)).bind fun j2 => (some (pkS s 21 r0 j2 (g_D_held a2 (Int32.ofInt 999) s))).bind fun s1 => ((ix 49 ((Int32.ofInt 6) + a1)).bind fun j4 => (some (pkS s1 21 r0 j4 (g_D_held a3 (Int32.ofInt 999) s1))).bind fun s3 => some s3))
theorem c_State_putAt {xs : Nat → Int32} {L d : Nat} {r0 : Nat} {a1 : Int32} {a2 : Int32} {a3 : Int32} {s : S2} {res : S2} {Q : S2 → Option MV → Prop} (h : f_State_putAt r0 a1 a2 a3 s = some res) (hQ : Q res none) : kcall (O3 xs L) (d + 2) k_State_putAt [mR 20 r0, mI a1, mI a2, mI a3] s Q := by
  refine kc_of (cd := kd_State_putAt) (mx := 4) (rt := 0) rfl rfl ?_
  intro P hP
  refine mgo_sound hP [] 260 _ _ _ _ _ ?_
  refine go_call (fun _ hw => c_D_held hw) ?_
  obtain ⟨j2, hj, h⟩ := bnd h
  replace h := bnds h
  refine go_ix j2 (ix_lt hj) (ix_eq hj) ?_
  refine go_call (fun _ hw => c_D_held hw) ?_
  obtain ⟨j4, hj, h⟩ := bnd h
  replace h := bnds h
  refine go_ix j4 (ix_lt hj) (ix_eq hj) ?_
  cases h
  exact hQ
/-! State_becomeOne -/
def f_State_becomeOne_L91 (r0 : Nat) (k59 : Int32 → Int32 → Int32 → S2 → Option S2) (x1 : Int32) (x2 : Int32) (x4 : Int32) (s : S2) : Option S2 := (k59 x1 x2 (x4 + (Int32.ofInt 1)) s)
def b_State_becomeOne_L59 (r0 : Nat) (k59 : Int32 → Int32 → Int32 → S2 → Option S2) (x1 : Int32) (x2 : Int32) (x4 : Int32) (s : S2) : Option S2 := (if (Int32.ofInt 6) ≤ x4 then some s else ((ix 49 ((Int32.ofInt 18) + x4)).bind fun j1 => (if (s.1 21 r0 j1) = x2 then ((ix 49 ((Int32.ofInt 18) + x4)).bind fun j3 => (some (pkS s 21 r0 j3 x1)).bind fun s2 => (f_State_becomeOne_L91 r0 k59 x1 x2 x4 s2)) else (f_State_becomeOne_L91 r0 k59 x1 x2 x4 s))))
def f_State_becomeOne_L59 (r0 : Nat) : Nat → Int32 → Int32 → Int32 → S2 → Option S2
  | 0 => fun _ _ _ _ => none
  | n + 1 => b_State_becomeOne_L59 r0 (f_State_becomeOne_L59 r0 n)
def f_State_becomeOne (r0 : Nat) (a1 : Int32) (a2 : Int32) (a3 : Int32) (s : S2) : Option S2 := ((ix 49 ((Int32.ofInt 12) + a1)).bind fun j1 => ((ix 49 ((Int32.ofInt 12) + a2)).bind fun j2 => ((ix 49 ((Int32.ofInt 12) + a1)).bind fun j4 => (some (pkS s 21 r0 j4 (jmin (Int32.ofInt 99) ((s.1 21 r0 j1) + (s.1 21 r0 j2))))).bind fun s3 => ((ix 49 ((Int32.ofInt 24) + a1)).bind fun j5 => ((ix 49 ((Int32.ofInt 24) + a2)).bind fun j6 => ((ix 49 ((Int32.ofInt 24) + a1)).bind fun j8 => (some (pkS s3 21 r0 j8 ((s3.1 21 r0 j5) + ((s3.1 21 r0 j6) + a3)))).bind fun s7 => (f_State_becomeOne_L59 r0 FU a1 a2 (Int32.ofInt 0) s7)))))))
theorem c_State_becomeOne_L91 {xs : Nat → Int32} {L d : Nat} {r0 : Nat} {P : MK S2} {Q : S2 → Option MV → Prop} {res : S2} (hP : MClosed (O3 xs L) (kcall (O3 xs L) (d + 0)) kd_State_becomeOne 0 Q P) (hQ : Q res none) {k59 : Int32 → Int32 → Int32 → S2 → Option S2} (hk59 : ∀ (x1 : Int32) (x2 : Int32) (x4 : Int32) (x3 : Int32) (s : S2), k59 x1 x2 x4 s = some res → P 59 [some (mR 20 r0), some (mI x1), some (mI x2), some (mI x3), some (mI x4)] [] s (0, 0)) (x1 : Int32) (x2 : Int32) (x4 : Int32) (x3 : Int32) (s : S2) (h : f_State_becomeOne_L91 r0 k59 x1 x2 x4 s = some res) : P 91 [some (mR 20 r0), some (mI x1), some (mI x2), some (mI x3), some (mI x4)] [] s (0, 0) := by
  refine mgo_from hP [59, 91] 260 ?_
  exact hk59 _ _ _ _ _ h
theorem cb_State_becomeOne_L59 {xs : Nat → Int32} {L d : Nat} {r0 : Nat} {P : MK S2} {Q : S2 → Option MV → Prop} {res : S2} (hP : MClosed (O3 xs L) (kcall (O3 xs L) (d + 0)) kd_State_becomeOne 0 Q P) (hQ : Q res none) {k59 : Int32 → Int32 → Int32 → S2 → Option S2} (hk59 : ∀ (x1 : Int32) (x2 : Int32) (x4 : Int32) (x3 : Int32) (s : S2), k59 x1 x2 x4 s = some res → P 59 [some (mR 20 r0), some (mI x1), some (mI x2), some (mI x3), some (mI x4)] [] s (0, 0)) (x1 : Int32) (x2 : Int32) (x4 : Int32) (x3 : Int32) (s : S2) (h : b_State_becomeOne_L59 r0 k59 x1 x2 x4 s = some res) : P 59 [some (mR 20 r0), some (mI x1), some (mI x2), some (mI x3), some (mI x4)] [] s (0, 0) := by
  refine mgo_from hP [59, 91] 260 ?_
  refine go_br (fun hc : (Int32.ofInt 6) ≤ x4 => ?_) (fun hc : ¬ ((Int32.ofInt 6) ≤ x4) => ?_)
  · replace h := (if_pos hc).symm.trans h
    cases h
    exact hQ
  · replace h := (if_neg hc).symm.trans h
    obtain ⟨j1, hj, h⟩ := bnd h
    refine go_ix j1 (ix_lt hj) (ix_eq hj) ?_
    refine go_brn (fun hc : ¬ ((s.1 21 r0 j1) = x2) => ?_) (fun hc : (s.1 21 r0 j1) = x2 => ?_)
    · replace h := (if_neg hc).symm.trans h
      exact c_State_becomeOne_L91 hP hQ hk59 _ _ _ _ _ h
    · replace h := (if_pos hc).symm.trans h
      obtain ⟨j3, hj, h⟩ := bnd h
      replace h := bnds h
      refine go_ix j3 (ix_lt hj) (ix_eq hj) ?_
      exact c_State_becomeOne_L91 hP hQ hk59 _ _ _ _ _ h
theorem c_State_becomeOne_L59 {xs : Nat → Int32} {L d : Nat} {r0 : Nat} {P : MK S2} {Q : S2 → Option MV → Prop} {res : S2} (hP : MClosed (O3 xs L) (kcall (O3 xs L) (d + 0)) kd_State_becomeOne 0 Q P) (hQ : Q res none) : ∀ (fu : Nat) (x1 : Int32) (x2 : Int32) (x4 : Int32) (x3 : Int32) (s : S2), f_State_becomeOne_L59 r0 fu x1 x2 x4 s = some res → P 59 [some (mR 20 r0), some (mI x1), some (mI x2), some (mI x3), some (mI x4)] [] s (0, 0)
  | 0, _, _, _, _, _, h => by cases h
  | fu + 1, x1, x2, x4, x3, s, h => cb_State_becomeOne_L59 hP hQ (c_State_becomeOne_L59 hP hQ fu) x1 x2 x4 x3 s h
theorem c_State_becomeOne {xs : Nat → Int32} {L d : Nat} {r0 : Nat} {a1 : Int32} {a2 : Int32} {a3 : Int32} {s : S2} {res : S2} {Q : S2 → Option MV → Prop} (h : f_State_becomeOne r0 a1 a2 a3 s = some res) (hQ : Q res none) : kcall (O3 xs L) (d + 1) k_State_becomeOne [mR 20 r0, mI a1, mI a2, mI a3] s Q := by
  refine kc_of (cd := kd_State_becomeOne) (mx := 5) (rt := 0) rfl rfl ?_
  intro P hP
  refine mgo_sound hP [59, 91] 260 _ _ _ _ _ ?_
  obtain ⟨j1, hj, h⟩ := bnd h
  refine go_ix j1 (ix_lt hj) (ix_eq hj) ?_
  obtain ⟨j2, hj, h⟩ := bnd h
  refine go_ix j2 (ix_lt hj) (ix_eq hj) ?_
  obtain ⟨j4, hj, h⟩ := bnd h
  replace h := bnds h
  refine go_ix j4 (ix_lt hj) (ix_eq hj) ?_
  obtain ⟨j5, hj, h⟩ := bnd h
  refine go_ix j5 (ix_lt hj) (ix_eq hj) ?_
  obtain ⟨j6, hj, h⟩ := bnd h
  refine go_ix j6 (ix_lt hj) (ix_eq hj) ?_
  obtain ⟨j8, hj, h⟩ := bnd h
  replace h := bnds h
  refine go_ix j8 (ix_lt hj) (ix_eq hj) ?_
  exact c_State_becomeOne_L59 hP hQ FU _ _ _ _ _ h
/-! State_breakBridge -/
def f_State_breakBridge (r0 : Nat) (a1 : Int32) (s : S2) : Option S2 := ((ix 49 ((Int32.ofInt 38) + a1)).bind fun j2 => (some (pkS s 21 r0 j2 (Int32.ofInt 0))).bind fun s1 => some s1)
theorem c_State_breakBridge {xs : Nat → Int32} {L d : Nat} {r0 : Nat} {a1 : Int32} {s : S2} {res : S2} {Q : S2 → Option MV → Prop} (h : f_State_breakBridge r0 a1 s = some res) (hQ : Q res none) : kcall (O3 xs L) (d + 1) k_State_breakBridge [mR 20 r0, mI a1] s Q := by
  refine kc_of (cd := kd_State_breakBridge) (mx := 2) (rt := 0) rfl rfl ?_
  intro P hP
  refine mgo_sound hP [] 260 _ _ _ _ _ ?_
  obtain ⟨j2, hj, h⟩ := bnd h
  replace h := bnds h
  refine go_ix j2 (ix_lt hj) (ix_eq hj) ?_
  cases h
  exact hQ
/-! State_nextSeason -/
def f_State_nextSeason (r0 : Nat) (s : S2) : Option S2 := ((some (pkS s 21 r0 42 ((s.1 21 r0 42) + (Int32.ofInt 1)))).bind fun s1 => some s1)
theorem c_State_nextSeason {xs : Nat → Int32} {L d : Nat} {r0 : Nat} {s : S2} {res : S2} {Q : S2 → Option MV → Prop} (h : f_State_nextSeason r0 s = some res) (hQ : Q res none) : kcall (O3 xs L) (d + 1) k_State_nextSeason [mR 20 r0] s Q := by
  refine kc_of (cd := kd_State_nextSeason) (mx := 1) (rt := 0) rfl rfl ?_
  intro P hP
  refine mgo_sound hP [] 260 _ _ _ _ _ ?_
  refine go_ix 42 (Nat.le_of_ble_eq_true rfl) rfl ?_
  replace h := bnds h
  refine go_ix 42 (Nat.le_of_ble_eq_true rfl) rfl ?_
  cases h
  exact hQ
/-! Course_parts -/
def g_Course_parts (s : S2) : Int32 := (s.1 31 0 14)
theorem cr_Course_parts {xs : Nat → Int32} {L d : Nat} {s : S2} {res : Int32} {Q : S2 → Option MV → Prop} (h : g_Course_parts s = res) (hQ : Q s (some (mI res))) : kcall (O3 xs L) (d + 1) k_Course_parts [mR 31 0] s Q := by
  refine kc_of (cd := kd_Course_parts) (mx := 1) (rt := 1) rfl rfl ?_
  intro P hP
  refine mgo_sound hP [] 260 _ _ _ _ _ ?_
  cases h
  exact hQ
theorem c_Course_parts {xs : Nat → Int32} {L d : Nat} {s : S2} {Q : S2 → Option MV → Prop} (hQ : Q s (some (mI (g_Course_parts s)))) : kcall (O3 xs L) (d + 1) k_Course_parts [mR 31 0] s Q := cr_Course_parts rfl hQ
/-! Course_snapped -/
def g_Course_snapped (s : S2) : Int32 := (s.1 31 0 15)
theorem cr_Course_snapped {xs : Nat → Int32} {L d : Nat} {s : S2} {res : Int32} {Q : S2 → Option MV → Prop} (h : g_Course_snapped s = res) (hQ : Q s (some (mI res))) : kcall (O3 xs L) (d + 1) k_Course_snapped [mR 31 0] s Q := by
  refine kc_of (cd := kd_Course_snapped) (mx := 1) (rt := 1) rfl rfl ?_
  intro P hP
  refine mgo_sound hP [] 260 _ _ _ _ _ ?_
  cases h
  exact hQ
theorem c_Course_snapped {xs : Nat → Int32} {L d : Nat} {s : S2} {Q : S2 → Option MV → Prop} (hQ : Q s (some (mI (g_Course_snapped s)))) : kcall (O3 xs L) (d + 1) k_Course_snapped [mR 31 0] s Q := cr_Course_snapped rfl hQ
/-! Course_gone -/
def g_Course_gone (s : S2) : Int32 := (s.1 31 0 16)
theorem cr_Course_gone {xs : Nat → Int32} {L d : Nat} {s : S2} {res : Int32} {Q : S2 → Option MV → Prop} (h : g_Course_gone s = res) (hQ : Q s (some (mI res))) : kcall (O3 xs L) (d + 1) k_Course_gone [mR 31 0] s Q := by
  refine kc_of (cd := kd_Course_gone) (mx := 1) (rt := 1) rfl rfl ?_
  intro P hP
  refine mgo_sound hP [] 260 _ _ _ _ _ ?_
  cases h
  exact hQ
theorem c_Course_gone {xs : Nat → Int32} {L d : Nat} {s : S2} {Q : S2 → Option MV → Prop} (hQ : Q s (some (mI (g_Course_gone s)))) : kcall (O3 xs L) (d + 1) k_Course_gone [mR 31 0] s Q := cr_Course_gone rfl hQ
/-! Past_putBy -/
def f_Past_putBy (a1 : Int32) (a2 : Int32) (a3 : Int32) (s : S2) : Option S2 := ((ix 180 ((s.1 22 0 5) * (Int32.ofInt 3))).bind fun j2 => (some (pkS s 24 0 j2 a1)).bind fun s1 => ((ix 180 (((s1.1 22 0 5) * (Int32.ofInt 3)) + (Int32.ofInt 1))).bind fun j4 => (some (pkS s1 24 0 j4 a2)).bind fun s3 => ((ix 180 (((s3.1 22 0 5) * (Int32.ofInt 3)) + (Int32.ofInt 2))).bind fun j6 => (some (pkS s3 24 0 j6 a3)).bind fun s5 => ((some (pkS s5 22 0 5 (jrem ((s5.1 22 0 5) + (Int32.ofInt 1)) (Int32.ofInt 60)))).bind fun s7 => ((some (pkS s7 22 0 4 (jmin (Int32.ofInt 60) ((s7.1 22 0 4) + (Int32.ofInt 1))))).bind fun s8 => some s8)))))
set_option maxRecDepth 20000 in
set_option maxHeartbeats 4000000 in
theorem c_Past_putBy {xs : Nat → Int32} {L d : Nat} {a1 : Int32} {a2 : Int32} {a3 : Int32} {s : S2} {res : S2} {Q : S2 → Option MV → Prop} (h : f_Past_putBy a1 a2 a3 s = some res) (hQ : Q res none) : kcall (O3 xs L) (d + 1) k_Past_putBy [mR 22 0, mI a1, mI a2, mI a3] s Q := by
  refine kc_of (cd := kd_Past_putBy) (mx := 4) (rt := 0) rfl rfl ?_
  intro P hP
  refine mgo_sound hP [] 260 _ _ _ _ _ ?_
  obtain ⟨j2, hj, h⟩ := bnd h
  replace h := bnds h
  refine go_ix j2 (ix_lt hj) (ix_eq hj) ?_
  obtain ⟨j4, hj, h⟩ := bnd h
  replace h := bnds h
  refine go_ix j4 (ix_lt hj) (ix_eq hj) ?_
  obtain ⟨j6, hj, h⟩ := bnd h
  replace h := bnds h
  refine go_ix j6 (ix_lt hj) (ix_eq hj) ?_
  refine go_and (by decide) ?_
  replace h := bnds h
  replace h := bnds h
  cases h
  exact hQ
/-! Weather_begin -/
def f_Weather_begin (a1 : Int64) (s : S2) : Option S2 := ((some ((s.1, uJ s.2 25 a1))).bind fun s1 => some s1)
theorem c_Weather_begin {xs : Nat → Int32} {L d : Nat} {a1 : Int64} {s : S2} {res : S2} {Q : S2 → Option MV → Prop} (h : f_Weather_begin a1 s = some res) (hQ : Q res none) : kcall (O3 xs L) (d + 1) k_Weather_begin [mR 25 0, mL a1] s Q := by
  refine kc_of (cd := kd_Weather_begin) (mx := 3) (rt := 0) rfl rfl ?_
  intro P hP
  refine mgo_sound hP [] 260 _ _ _ _ _ ?_
  replace h := bnds h
  cases h
  exact hQ
/-! Weather_draw -/
def f_Weather_draw (a1 : Int32) (s : S2) : Option (S2 × Int32) := ((some ((s.1, uJ s.2 25 (((s.2 25) * (Int64.ofInt 6364136223846793005)) + (Int64.ofInt 1442695040888963407))))).bind fun s1 => (if a1 ≤ 0 then some (s1, (Int32.ofInt 0)) else (if (Int32.toInt64 a1) = 0 then none else some (s1, (Int64.toInt32 (jremL (jlushr (s1.2 25) (Int32.ofInt 33)) (Int32.toInt64 a1)))))))
theorem c_Weather_draw {xs : Nat → Int32} {L d : Nat} {a1 : Int32} {s : S2} {res : S2 × Int32} {Q : S2 → Option MV → Prop} (h : f_Weather_draw a1 s = some res) (hQ : Q res.1 (some (mI res.2))) : kcall (O3 xs L) (d + 1) k_Weather_draw [mR 25 0, mI a1] s Q := by
  refine kc_of (cd := kd_Weather_draw) (mx := 2) (rt := 1) rfl rfl ?_
  intro P hP
  refine mgo_sound hP [] 260 _ _ _ _ _ ?_
  replace h := bnds h
  refine go_br (fun hc : a1 ≤ 0 => ?_) (fun hc : ¬ (a1 ≤ 0) => ?_)
  · replace h := (if_pos hc).symm.trans h
    cases h
    exact hQ
  · replace h := (if_neg hc).symm.trans h
    obtain ⟨hz, h⟩ := nif h
    refine go_and hz ?_
    cases h
    exact hQ
/-! State_headByNumber -/
def f_State_headByNumber_L28 (r0 : Nat) (k4 : Int32 → Int32 → Int32 → S2 → Option Int32) (x1 : Int32) (x2 : Int32) (x3 : Int32) (s : S2) : Option Int32 := (k4 x1 x2 (x3 + (Int32.ofInt 1)) s)
def b_State_headByNumber_L4 (r0 : Nat) (k4 : Int32 → Int32 → Int32 → S2 → Option Int32) (x1 : Int32) (x2 : Int32) (x3 : Int32) (s : S2) : Option Int32 := (if (Int32.ofInt 6) ≤ x3 then some (Int32.ofInt (-1)) else ((f_State_isHead r0 x3 s).bind fun q1 => (if (bI q1) = 0 then (f_State_headByNumber_L28 r0 k4 x1 x2 x3 s) else (if x2 = x1 then some x3 else (f_State_headByNumber_L28 r0 k4 x1 (x2 + (Int32.ofInt 1)) x3 s)))))
def f_State_headByNumber_L4 (r0 : Nat) : Nat → Int32 → Int32 → Int32 → S2 → Option Int32
  | 0 => fun _ _ _ _ => none
  | n + 1 => b_State_headByNumber_L4 r0 (f_State_headByNumber_L4 r0 n)
def f_State_headByNumber (r0 : Nat) (a1 : Int32) (s : S2) : Option Int32 := (f_State_headByNumber_L4 r0 FU a1 (Int32.ofInt 0) (Int32.ofInt 0) s)
theorem c_State_headByNumber_L28 {xs : Nat → Int32} {L d : Nat} {r0 : Nat} {P : MK S2} {Q : S2 → Option MV → Prop} {res : Int32} {s : S2} (hP : MClosed (O3 xs L) (kcall (O3 xs L) (d + 1)) kd_State_headByNumber 1 Q P) (hQ : Q s (some (mI res))) {k4 : Int32 → Int32 → Int32 → S2 → Option Int32} (hk4 : ∀ (x1 : Int32) (x2 : Int32) (x3 : Int32), k4 x1 x2 x3 s = some res → P 4 [some (mR 20 r0), some (mI x1), some (mI x2), some (mI x3)] [] s (0, 0)) (x1 : Int32) (x2 : Int32) (x3 : Int32) (h : f_State_headByNumber_L28 r0 k4 x1 x2 x3 s = some res) : P 28 [some (mR 20 r0), some (mI x1), some (mI x2), some (mI x3)] [] s (0, 0) := by
  refine mgo_from hP [4, 28] 260 ?_
  exact hk4 _ _ _ h
theorem cb_State_headByNumber_L4 {xs : Nat → Int32} {L d : Nat} {r0 : Nat} {P : MK S2} {Q : S2 → Option MV → Prop} {res : Int32} {s : S2} (hP : MClosed (O3 xs L) (kcall (O3 xs L) (d + 1)) kd_State_headByNumber 1 Q P) (hQ : Q s (some (mI res))) {k4 : Int32 → Int32 → Int32 → S2 → Option Int32} (hk4 : ∀ (x1 : Int32) (x2 : Int32) (x3 : Int32), k4 x1 x2 x3 s = some res → P 4 [some (mR 20 r0), some (mI x1), some (mI x2), some (mI x3)] [] s (0, 0)) (x1 : Int32) (x2 : Int32) (x3 : Int32) (h : b_State_headByNumber_L4 r0 k4 x1 x2 x3 s = some res) : P 4 [some (mR 20 r0), some (mI x1), some (mI x2), some (mI x3)] [] s (0, 0) := by
  refine mgo_from hP [4, 28] 260 ?_
  refine go_br (fun hc : (Int32.ofInt 6) ≤ x3 => ?_) (fun hc : ¬ ((Int32.ofInt 6) ≤ x3) => ?_)
  · replace h := (if_pos hc).symm.trans h
    cases h
    exact hQ
  · replace h := (if_neg hc).symm.trans h
    obtain ⟨q1, hq, h⟩ := bnd h
    refine go_call (fun _ hw => c_State_isHead hq hw) ?_
    refine go_br (fun hc : (bI q1) = 0 => ?_) (fun hc : ¬ ((bI q1) = 0) => ?_)
    · replace h := (if_pos hc).symm.trans h
      exact c_State_headByNumber_L28 hP hQ hk4 _ _ _ h
    · replace h := (if_neg hc).symm.trans h
      refine go_brn (fun hc : ¬ (x2 = x1) => ?_) (fun hc : x2 = x1 => ?_)
      · replace h := (if_neg hc).symm.trans h
        exact c_State_headByNumber_L28 hP hQ hk4 _ _ _ h
      · replace h := (if_pos hc).symm.trans h
        cases h
        exact hQ
theorem c_State_headByNumber_L4 {xs : Nat → Int32} {L d : Nat} {r0 : Nat} {P : MK S2} {Q : S2 → Option MV → Prop} {res : Int32} {s : S2} (hP : MClosed (O3 xs L) (kcall (O3 xs L) (d + 1)) kd_State_headByNumber 1 Q P) (hQ : Q s (some (mI res))) : ∀ (fu : Nat) (x1 : Int32) (x2 : Int32) (x3 : Int32), f_State_headByNumber_L4 r0 fu x1 x2 x3 s = some res → P 4 [some (mR 20 r0), some (mI x1), some (mI x2), some (mI x3)] [] s (0, 0)
  | 0, _, _, _, h => by cases h
  | fu + 1, x1, x2, x3, h => cb_State_headByNumber_L4 hP hQ (c_State_headByNumber_L4 hP hQ fu) x1 x2 x3 h
theorem c_State_headByNumber {xs : Nat → Int32} {L d : Nat} {r0 : Nat} {a1 : Int32} {s : S2} {res : Int32} {Q : S2 → Option MV → Prop} (h : f_State_headByNumber r0 a1 s = some res) (hQ : Q s (some (mI res))) : kcall (O3 xs L) (d + 2) k_State_headByNumber [mR 20 r0, mI a1] s Q := by
  refine kc_of (cd := kd_State_headByNumber) (mx := 4) (rt := 1) rfl rfl ?_
  intro P hP
  refine mgo_sound hP [4, 28] 260 _ _ _ _ _ ?_
  exact c_State_headByNumber_L4 hP hQ FU _ _ _ h
/-! State_copyButPrices -/
def f_State_copyButPrices (r0 : Nat) (r1 : Nat) (s : S2) : Option S2 := ((nx (Int32.ofInt 43)).bind fun j2 => (nx (Int32.ofInt 0)).bind fun j3 => (nx (Int32.ofInt 0)).bind fun j4 => if j4 + j2 ≤ 49 ∧ j3 + j2 ≤ 49 then ((some (cpS s 21 r0 (s.1 21 r1) j4 j3 j2)).bind fun s1 => some s1) else none)
theorem c_State_copyButPrices {xs : Nat → Int32} {L d : Nat} {r0 : Nat} {r1 : Nat} {s : S2} {res : S2} {Q : S2 → Option MV → Prop} (h : f_State_copyButPrices r0 r1 s = some res) (hQ : Q res none) : kcall (O3 xs L) (d + 1) k_State_copyButPrices [mR 20 r0, mR 20 r1] s Q := by
  refine kc_of (cd := kd_State_copyButPrices) (mx := 2) (rt := 0) rfl rfl ?_
  intro P hP
  refine mgo_sound hP [] 260 _ _ _ _ _ ?_
  obtain ⟨j2, hj0, h⟩ := bnd h
  obtain ⟨j3, hj1, h⟩ := bnd h
  obtain ⟨j4, hj2, h⟩ := bnd h
  obtain ⟨hz, h⟩ := pif h
  replace h := bnds h
  refine go_cpy j2 j3 j4 (nx_eq hj0) (nx_eq hj1) (nx_eq hj2) hz.1 hz.2 rfl ?_
  cases h
  exact hQ
/-! Past_read -/
def f_Past_read (a1 : Int32) (a2 : Int32) (s : S2) : Option Int32 := (if (bI (g_D_isWithin a1 (Int32.ofInt 0) ((s.1 22 0 4) - (Int32.ofInt 1)) s)) = 0 then some (Int32.ofInt (-1)) else (if (bI (g_D_isWithin a2 (Int32.ofInt 0) (Int32.ofInt 2) s)) = 0 then some (Int32.ofInt (-1)) else ((ix 180 (((jrem ((((s.1 22 0 5) + (Int32.ofInt 60)) - (Int32.ofInt 1)) - a1) (Int32.ofInt 60)) * (Int32.ofInt 3)) + a2)).bind fun j1 => some (s.1 24 0 j1))))
theorem c_Past_read {xs : Nat → Int32} {L d : Nat} {a1 : Int32} {a2 : Int32} {s : S2} {res : Int32} {Q : S2 → Option MV → Prop} (h : f_Past_read a1 a2 s = some res) (hQ : Q s (some (mI res))) : kcall (O3 xs L) (d + 2) k_Past_read [mR 22 0, mI a1, mI a2] s Q := by
  refine kc_of (cd := kd_Past_read) (mx := 4) (rt := 1) rfl rfl ?_
  intro P hP
  refine mgo_sound hP [] 260 _ _ _ _ _ ?_
  refine go_call (fun _ hw => c_D_isWithin hw) ?_
  refine go_br (fun hc : (bI (g_D_isWithin a1 (Int32.ofInt 0) ((s.1 22 0 4) - (Int32.ofInt 1)) s)) = 0 => ?_) (fun hc : ¬ ((bI (g_D_isWithin a1 (Int32.ofInt 0) ((s.1 22 0 4) - (Int32.ofInt 1)) s)) = 0) => ?_)
  · replace h := (if_pos hc).symm.trans h
    cases h
    exact hQ
  · replace h := (if_neg hc).symm.trans h
    refine go_call (fun _ hw => c_D_isWithin hw) ?_
    refine go_brn (fun hc : ¬ ((bI (g_D_isWithin a2 (Int32.ofInt 0) (Int32.ofInt 2) s)) = 0) => ?_) (fun hc : (bI (g_D_isWithin a2 (Int32.ofInt 0) (Int32.ofInt 2) s)) = 0 => ?_)
    · replace h := (if_neg hc).symm.trans h
      refine go_and (by decide) ?_
      obtain ⟨j1, hj, h⟩ := bnd h
      refine go_ix j1 (ix_lt hj) (ix_eq hj) ?_
      cases h
      exact hQ
    · replace h := (if_pos hc).symm.trans h
      cases h
      exact hQ
/-! D_areTwo -/
def g_D_areTwo (a1 : Int32) (a2 : Int32) (s : S2) : Bool := (if (bI (g_D_isIsle a1 s)) = 0 then false else (if (bI (g_D_isIsle a2 s)) = 0 then false else (if a1 = a2 then false else true)))
theorem cr_D_areTwo {xs : Nat → Int32} {L d : Nat} {a1 : Int32} {a2 : Int32} {s : S2} {res : Bool} {Q : S2 → Option MV → Prop} (h : g_D_areTwo a1 a2 s = res) (hQ : Q s (some (mI (bI res)))) : kcall (O3 xs L) (d + 3) k_D_areTwo [mR 10 0, mI a1, mI a2] s Q := by
  refine kc_of (cd := kd_D_areTwo) (mx := 3) (rt := 2) rfl rfl ?_
  intro P hP
  refine mgo_sound hP [] 260 _ _ _ _ _ ?_
  refine go_call (fun _ hw => c_D_isIsle hw) ?_
  refine go_br (fun hc : (bI (g_D_isIsle a1 s)) = 0 => ?_) (fun hc : ¬ ((bI (g_D_isIsle a1 s)) = 0) => ?_)
  · replace h := (if_pos hc).symm.trans h
    cases h
    exact ⟨Or.inl rfl, hQ⟩
  · replace h := (if_neg hc).symm.trans h
    refine go_call (fun _ hw => c_D_isIsle hw) ?_
    refine go_br (fun hc : (bI (g_D_isIsle a2 s)) = 0 => ?_) (fun hc : ¬ ((bI (g_D_isIsle a2 s)) = 0) => ?_)
    · replace h := (if_pos hc).symm.trans h
      cases h
      exact ⟨Or.inl rfl, hQ⟩
    · replace h := (if_neg hc).symm.trans h
      refine go_br (fun hc : a1 = a2 => ?_) (fun hc : ¬ (a1 = a2) => ?_)
      · replace h := (if_pos hc).symm.trans h
        cases h
        exact ⟨Or.inl rfl, hQ⟩
      · replace h := (if_neg hc).symm.trans h
        cases h
        exact ⟨Or.inr rfl, hQ⟩
theorem c_D_areTwo {xs : Nat → Int32} {L d : Nat} {a1 : Int32} {a2 : Int32} {s : S2} {Q : S2 → Option MV → Prop} (hQ : Q s (some (mI (bI (g_D_areTwo a1 a2 s))))) : kcall (O3 xs L) (d + 3) k_D_areTwo [mR 10 0, mI a1, mI a2] s Q := cr_D_areTwo rfl hQ
/-! Trade_paidBy -/
def f_Trade_paidBy (r0 : Nat) (a1 : Int32) (s : S2) : Option Int32 := ((ix 6 a1).bind fun j1 => some (s.1 28 r0 j1))
theorem c_Trade_paidBy {xs : Nat → Int32} {L d : Nat} {r0 : Nat} {a1 : Int32} {s : S2} {res : Int32} {Q : S2 → Option MV → Prop} (h : f_Trade_paidBy r0 a1 s = some res) (hQ : Q s (some (mI res))) : kcall (O3 xs L) (d + 1) k_Trade_paidBy [mR 26 r0, mI a1] s Q := by
  refine kc_of (cd := kd_Trade_paidBy) (mx := 2) (rt := 1) rfl rfl ?_
  intro P hP
  refine mgo_sound hP [] 260 _ _ _ _ _ ?_
  obtain ⟨j1, hj, h⟩ := bnd h
  refine go_ix j1 (ix_lt hj) (ix_eq hj) ?_
  cases h
  exact hQ
/-! Trade_lackOf -/
def f_Trade_lackOf (r0 : Nat) (a1 : Int32) (s : S2) : Option Int32 := ((ix 6 a1).bind fun j1 => some (s.1 29 r0 j1))
theorem c_Trade_lackOf {xs : Nat → Int32} {L d : Nat} {r0 : Nat} {a1 : Int32} {s : S2} {res : Int32} {Q : S2 → Option MV → Prop} (h : f_Trade_lackOf r0 a1 s = some res) (hQ : Q s (some (mI res))) : kcall (O3 xs L) (d + 1) k_Trade_lackOf [mR 26 r0, mI a1] s Q := by
  refine kc_of (cd := kd_Trade_lackOf) (mx := 2) (rt := 1) rfl rfl ?_
  intro P hP
  refine mgo_sound hP [] 260 _ _ _ _ _ ?_
  obtain ⟨j1, hj, h⟩ := bnd h
  refine go_ix j1 (ix_lt hj) (ix_eq hj) ?_
  cases h
  exact hQ
/-! Trade_soldBy -/
def b_Trade_soldBy_L4 (r0 : Nat) (k4 : Int32 → Int32 → Int32 → S2 → Option Int32) (x1 : Int32) (x2 : Int32) (x3 : Int32) (s : S2) : Option Int32 := (if (Int32.ofInt 6) ≤ x3 then some x2 else ((f_Trade_bought r0 x3 x1 s).bind fun q1 => (k4 x1 (x2 + q1) (x3 + (Int32.ofInt 1)) s)))
def f_Trade_soldBy_L4 (r0 : Nat) : Nat → Int32 → Int32 → Int32 → S2 → Option Int32
  | 0 => fun _ _ _ _ => none
  | n + 1 => b_Trade_soldBy_L4 r0 (f_Trade_soldBy_L4 r0 n)
def f_Trade_soldBy (r0 : Nat) (a1 : Int32) (s : S2) : Option Int32 := (f_Trade_soldBy_L4 r0 FU a1 (Int32.ofInt 0) (Int32.ofInt 0) s)
theorem cb_Trade_soldBy_L4 {xs : Nat → Int32} {L d : Nat} {r0 : Nat} {P : MK S2} {Q : S2 → Option MV → Prop} {res : Int32} {s : S2} (hP : MClosed (O3 xs L) (kcall (O3 xs L) (d + 1)) kd_Trade_soldBy 1 Q P) (hQ : Q s (some (mI res))) {k4 : Int32 → Int32 → Int32 → S2 → Option Int32} (hk4 : ∀ (x1 : Int32) (x2 : Int32) (x3 : Int32), k4 x1 x2 x3 s = some res → P 4 [some (mR 26 r0), some (mI x1), some (mI x2), some (mI x3)] [] s (0, 0)) (x1 : Int32) (x2 : Int32) (x3 : Int32) (h : b_Trade_soldBy_L4 r0 k4 x1 x2 x3 s = some res) : P 4 [some (mR 26 r0), some (mI x1), some (mI x2), some (mI x3)] [] s (0, 0) := by
  refine mgo_from hP [4] 260 ?_
  refine go_br (fun hc : (Int32.ofInt 6) ≤ x3 => ?_) (fun hc : ¬ ((Int32.ofInt 6) ≤ x3) => ?_)
  · replace h := (if_pos hc).symm.trans h
    cases h
    exact hQ
  · replace h := (if_neg hc).symm.trans h
    obtain ⟨q1, hq, h⟩ := bnd h
    refine go_call (fun _ hw => c_Trade_bought hq hw) ?_
    exact hk4 _ _ _ h
theorem c_Trade_soldBy_L4 {xs : Nat → Int32} {L d : Nat} {r0 : Nat} {P : MK S2} {Q : S2 → Option MV → Prop} {res : Int32} {s : S2} (hP : MClosed (O3 xs L) (kcall (O3 xs L) (d + 1)) kd_Trade_soldBy 1 Q P) (hQ : Q s (some (mI res))) : ∀ (fu : Nat) (x1 : Int32) (x2 : Int32) (x3 : Int32), f_Trade_soldBy_L4 r0 fu x1 x2 x3 s = some res → P 4 [some (mR 26 r0), some (mI x1), some (mI x2), some (mI x3)] [] s (0, 0)
  | 0, _, _, _, h => by cases h
  | fu + 1, x1, x2, x3, h => cb_Trade_soldBy_L4 hP hQ (c_Trade_soldBy_L4 hP hQ fu) x1 x2 x3 h
theorem c_Trade_soldBy {xs : Nat → Int32} {L d : Nat} {r0 : Nat} {a1 : Int32} {s : S2} {res : Int32} {Q : S2 → Option MV → Prop} (h : f_Trade_soldBy r0 a1 s = some res) (hQ : Q s (some (mI res))) : kcall (O3 xs L) (d + 2) k_Trade_soldBy [mR 26 r0, mI a1] s Q := by
  refine kc_of (cd := kd_Trade_soldBy) (mx := 4) (rt := 1) rfl rfl ?_
  intro P hP
  refine mgo_sound hP [4] 260 _ _ _ _ _ ?_
  exact c_Trade_soldBy_L4 hP hQ FU _ _ _ h
/-! Forecast_begin -/
def f_Forecast_begin (s : S2) : Option S2 := ((f_State_copy 2 0 s).bind fun q1 => ((f_Course_drawByTold q1).bind fun q2 => some q2))
theorem c_Forecast_begin {xs : Nat → Int32} {L d : Nat} {s : S2} {res : S2} {Q : S2 → Option MV → Prop} (h : f_Forecast_begin s = some res) (hQ : Q res none) : kcall (O3 xs L) (d + 2) k_Forecast_begin [mR 41 0] s Q := by
  refine kc_of (cd := kd_Forecast_begin) (mx := 1) (rt := 0) rfl rfl ?_
  intro P hP
  refine mgo_sound hP [] 260 _ _ _ _ _ ?_
  obtain ⟨q1, hq, h⟩ := bnd h
  refine go_call (fun _ hw => c_State_copy hq hw) ?_
  obtain ⟨q2, hq, h⟩ := bnd h
  refine go_call (fun _ hw => c_Course_drawByTold hq hw) ?_
  cases h
  exact hQ
/-! Course_movedNothing -/
def g_Course_movedNothing (s : S2) : Bool := (if (s.1 31 0 16) = 0 then (if (s.1 31 0 14) = 0 then true else false) else false)
theorem cr_Course_movedNothing {xs : Nat → Int32} {L d : Nat} {s : S2} {res : Bool} {Q : S2 → Option MV → Prop} (h : g_Course_movedNothing s = res) (hQ : Q s (some (mI (bI res)))) : kcall (O3 xs L) (d + 1) k_Course_movedNothing [mR 31 0] s Q := by
  refine kc_of (cd := kd_Course_movedNothing) (mx := 1) (rt := 2) rfl rfl ?_
  intro P hP
  refine mgo_sound hP [] 260 _ _ _ _ _ ?_
  refine go_brn (fun hc : ¬ ((s.1 31 0 16) = 0) => ?_) (fun hc : (s.1 31 0 16) = 0 => ?_)
  · replace h := (if_neg hc).symm.trans h
    cases h
    exact ⟨Or.inl rfl, hQ⟩
  · replace h := (if_pos hc).symm.trans h
    refine go_brn (fun hc : ¬ ((s.1 31 0 14) = 0) => ?_) (fun hc : (s.1 31 0 14) = 0 => ?_)
    · replace h := (if_neg hc).symm.trans h
      cases h
      exact ⟨Or.inl rfl, hQ⟩
    · replace h := (if_pos hc).symm.trans h
      cases h
      exact ⟨Or.inr rfl, hQ⟩
theorem c_Course_movedNothing {xs : Nat → Int32} {L d : Nat} {s : S2} {Q : S2 → Option MV → Prop} (hQ : Q s (some (mI (bI (g_Course_movedNothing s))))) : kcall (O3 xs L) (d + 1) k_Course_movedNothing [mR 31 0] s Q := cr_Course_movedNothing rfl hQ
/-! Forecast_remember -/
def b_Forecast_remember_L7 (k7 : Int32 → Int32 → S2 → Option S2) (x2 : Int32) (x3 : Int32) (s : S2) : Option S2 := (if (g_Sea_isles 0 s) ≤ x3 then some s else ((f_State_xOf 2 x3 s).bind fun q1 => ((ix 1464 x2).bind fun j3 => (some (pkS s 42 0 j3 q1)).bind fun s2 => ((f_State_yOf 2 x3 s2).bind fun q4 => ((ix 1464 (x2 + (Int32.ofInt 1))).bind fun j6 => (some (pkS s2 42 0 j6 q4)).bind fun s5 => ((f_State_massOf 2 x3 s5).bind fun q7 => ((ix 1464 (x2 + (Int32.ofInt 2))).bind fun j9 => (some (pkS s5 42 0 j9 q7)).bind fun s8 => ((f_State_headOf 2 x3 s8).bind fun q10 => ((ix 1464 (x2 + (Int32.ofInt 3))).bind fun j12 => (some (pkS s8 42 0 j12 q10)).bind fun s11 => (k7 (x2 + (Int32.ofInt 4)) (x3 + (Int32.ofInt 1)) s11))))))))))
def f_Forecast_remember_L7 : Nat → Int32 → Int32 → S2 → Option S2
  | 0 => fun _ _ _ => none
  | n + 1 => b_Forecast_remember_L7 (f_Forecast_remember_L7 n)
def f_Forecast_remember (a1 : Int32) (s : S2) : Option S2 := (f_Forecast_remember_L7 FU (a1 * (Int32.ofInt 24)) (Int32.ofInt 0) s)
set_option maxRecDepth 20000 in
set_option maxHeartbeats 4000000 in
theorem cb_Forecast_remember_L7 {xs : Nat → Int32} {L d : Nat} {P : MK S2} {Q : S2 → Option MV → Prop} {res : S2} (hP : MClosed (O3 xs L) (kcall (O3 xs L) (d + 1)) kd_Forecast_remember 0 Q P) (hQ : Q res none) {k7 : Int32 → Int32 → S2 → Option S2} (hk7 : ∀ (x2 : Int32) (x3 : Int32) (x1 : Int32) (s : S2), k7 x2 x3 s = some res → P 7 [some (mR 41 0), some (mI x1), some (mI x2), some (mI x3)] [] s (0, 0)) (x2 : Int32) (x3 : Int32) (x1 : Int32) (s : S2) (h : b_Forecast_remember_L7 k7 x2 x3 s = some res) : P 7 [some (mR 41 0), some (mI x1), some (mI x2), some (mI x3)] [] s (0, 0) := by
  refine mgo_from hP [7] 260 ?_
  refine go_call (fun _ hw => c_Sea_isles hw) ?_
  refine go_br (fun hc : (g_Sea_isles 0 s) ≤ x3 => ?_) (fun hc : ¬ ((g_Sea_isles 0 s) ≤ x3) => ?_)
  · replace h := (if_pos hc).symm.trans h
    cases h
    exact hQ
  · replace h := (if_neg hc).symm.trans h
    obtain ⟨q1, hq, h⟩ := bnd h
    refine go_call (fun _ hw => c_State_xOf hq hw) ?_
    obtain ⟨j3, hj, h⟩ := bnd h
    replace h := bnds h
    refine go_ix j3 (ix_lt hj) (ix_eq hj) ?_
    obtain ⟨q4, hq, h⟩ := bnd h
    refine go_call (fun _ hw => c_State_yOf hq hw) ?_
    obtain ⟨j6, hj, h⟩ := bnd h
    replace h := bnds h
    refine go_ix j6 (ix_lt hj) (ix_eq hj) ?_
    obtain ⟨q7, hq, h⟩ := bnd h
    refine go_call (fun _ hw => c_State_massOf hq hw) ?_
    obtain ⟨j9, hj, h⟩ := bnd h
    replace h := bnds h
    refine go_ix j9 (ix_lt hj) (ix_eq hj) ?_
    obtain ⟨q10, hq, h⟩ := bnd h
    refine go_call (fun _ hw => c_State_headOf hq hw) ?_
    obtain ⟨j12, hj, h⟩ := bnd h
    replace h := bnds h
    refine go_ix j12 (ix_lt hj) (ix_eq hj) ?_
    exact hk7 _ _ _ _ h
theorem c_Forecast_remember_L7 {xs : Nat → Int32} {L d : Nat} {P : MK S2} {Q : S2 → Option MV → Prop} {res : S2} (hP : MClosed (O3 xs L) (kcall (O3 xs L) (d + 1)) kd_Forecast_remember 0 Q P) (hQ : Q res none) : ∀ (fu : Nat) (x2 : Int32) (x3 : Int32) (x1 : Int32) (s : S2), f_Forecast_remember_L7 fu x2 x3 s = some res → P 7 [some (mR 41 0), some (mI x1), some (mI x2), some (mI x3)] [] s (0, 0)
  | 0, _, _, _, _, h => by cases h
  | fu + 1, x2, x3, x1, s, h => cb_Forecast_remember_L7 hP hQ (c_Forecast_remember_L7 hP hQ fu) x2 x3 x1 s h
theorem c_Forecast_remember {xs : Nat → Int32} {L d : Nat} {a1 : Int32} {s : S2} {res : S2} {Q : S2 → Option MV → Prop} (h : f_Forecast_remember a1 s = some res) (hQ : Q res none) : kcall (O3 xs L) (d + 2) k_Forecast_remember [mR 41 0, mI a1] s Q := by
  refine kc_of (cd := kd_Forecast_remember) (mx := 4) (rt := 0) rfl rfl ?_
  intro P hP
  refine mgo_sound hP [7] 260 _ _ _ _ _ ?_
  exact c_Forecast_remember_L7 hP hQ FU _ _ _ _ h
/-! Forecast_areAlike -/
def b_Forecast_areAlike_L2 (k2 : Int32 → Int32 → Int32 → S2 → Option Bool) (x1 : Int32) (x2 : Int32) (x3 : Int32) (s : S2) : Option Bool := (if ((Int32.ofInt 4) * (g_Sea_isles 0 s)) ≤ x3 then some true else ((ix 1464 ((x1 * (Int32.ofInt 24)) + x3)).bind fun j1 => ((ix 1464 ((x2 * (Int32.ofInt 24)) + x3)).bind fun j2 => (if (s.1 42 0 j1) = (s.1 42 0 j2) then (k2 x1 x2 (x3 + (Int32.ofInt 1)) s) else some false))))
def f_Forecast_areAlike_L2 : Nat → Int32 → Int32 → Int32 → S2 → Option Bool
  | 0 => fun _ _ _ _ => none
  | n + 1 => b_Forecast_areAlike_L2 (f_Forecast_areAlike_L2 n)
def f_Forecast_areAlike (a1 : Int32) (a2 : Int32) (s : S2) : Option Bool := (f_Forecast_areAlike_L2 FU a1 a2 (Int32.ofInt 0) s)
theorem cb_Forecast_areAlike_L2 {xs : Nat → Int32} {L d : Nat} {P : MK S2} {Q : S2 → Option MV → Prop} {res : Bool} {s : S2} (hP : MClosed (O3 xs L) (kcall (O3 xs L) (d + 1)) kd_Forecast_areAlike 2 Q P) (hQ : Q s (some (mI (bI res)))) {k2 : Int32 → Int32 → Int32 → S2 → Option Bool} (hk2 : ∀ (x1 : Int32) (x2 : Int32) (x3 : Int32), k2 x1 x2 x3 s = some res → P 2 [some (mR 41 0), some (mI x1), some (mI x2), some (mI x3)] [] s (0, 0)) (x1 : Int32) (x2 : Int32) (x3 : Int32) (h : b_Forecast_areAlike_L2 k2 x1 x2 x3 s = some res) : P 2 [some (mR 41 0), some (mI x1), some (mI x2), some (mI x3)] [] s (0, 0) := by
  refine mgo_from hP [2] 260 ?_
  refine go_call (fun _ hw => c_Sea_isles hw) ?_
  refine go_br (fun hc : ((Int32.ofInt 4) * (g_Sea_isles 0 s)) ≤ x3 => ?_) (fun hc : ¬ (((Int32.ofInt 4) * (g_Sea_isles 0 s)) ≤ x3) => ?_)
  · replace h := (if_pos hc).symm.trans h
    cases h
    exact ⟨Or.inr rfl, hQ⟩
  · replace h := (if_neg hc).symm.trans h
    obtain ⟨j1, hj, h⟩ := bnd h
    refine go_ix j1 (ix_lt hj) (ix_eq hj) ?_
    obtain ⟨j2, hj, h⟩ := bnd h
    refine go_ix j2 (ix_lt hj) (ix_eq hj) ?_
    refine go_br (fun hc : (s.1 42 0 j1) = (s.1 42 0 j2) => ?_) (fun hc : ¬ ((s.1 42 0 j1) = (s.1 42 0 j2)) => ?_)
    · replace h := (if_pos hc).symm.trans h
      exact hk2 _ _ _ h
    · replace h := (if_neg hc).symm.trans h
      cases h
      exact ⟨Or.inl rfl, hQ⟩
theorem c_Forecast_areAlike_L2 {xs : Nat → Int32} {L d : Nat} {P : MK S2} {Q : S2 → Option MV → Prop} {res : Bool} {s : S2} (hP : MClosed (O3 xs L) (kcall (O3 xs L) (d + 1)) kd_Forecast_areAlike 2 Q P) (hQ : Q s (some (mI (bI res)))) : ∀ (fu : Nat) (x1 : Int32) (x2 : Int32) (x3 : Int32), f_Forecast_areAlike_L2 fu x1 x2 x3 s = some res → P 2 [some (mR 41 0), some (mI x1), some (mI x2), some (mI x3)] [] s (0, 0)
  | 0, _, _, _, h => by cases h
  | fu + 1, x1, x2, x3, h => cb_Forecast_areAlike_L2 hP hQ (c_Forecast_areAlike_L2 hP hQ fu) x1 x2 x3 h
theorem c_Forecast_areAlike {xs : Nat → Int32} {L d : Nat} {a1 : Int32} {a2 : Int32} {s : S2} {res : Bool} {Q : S2 → Option MV → Prop} (h : f_Forecast_areAlike a1 a2 s = some res) (hQ : Q s (some (mI (bI res)))) : kcall (O3 xs L) (d + 2) k_Forecast_areAlike [mR 41 0, mI a1, mI a2] s Q := by
  refine kc_of (cd := kd_Forecast_areAlike) (mx := 4) (rt := 2) rfl rfl ?_
  intro P hP
  refine mgo_sound hP [2] 260 _ _ _ _ _ ?_
  exact c_Forecast_areAlike_L2 hP hQ FU _ _ _ h
/-! Forecast_thereBehind -/
def f_Forecast_thereBehind_L141 (k23 : Int32 → Int32 → Int32 → Int32 → Int32 → S2 → Option (S2 × Int32)) (x2 : Int32) (x3 : Int32) (x4 : Int32) (x5 : Int32) (x6 : Int32) (s : S2) : Option (S2 × Int32) := (k23 x2 x3 x4 x5 (x6 + (Int32.ofInt 1)) s)
def f_Forecast_thereBehind_L59 (k23 : Int32 → Int32 → Int32 → Int32 → Int32 → S2 → Option (S2 × Int32)) (x2 : Int32) (x3 : Int32) (x4 : Int32) (x5 : Int32) (x6 : Int32) (y1 : Int32) (s : S2) : Option (S2 × Int32) := (if y1 = 0 ∨ y1 = 1 then ((some (pkS s 41 0 7 y1)).bind fun s1 => ((ix 61 x6).bind fun j2 => ((ix 61 x6).bind fun j3 => ((ix 61 x6).bind fun j4 => (if (x4 + (g_D_held ((s1.1 43 0 j2) - x4) x2 s1)) = (s1.1 43 0 j4) then ((ix 61 x6).bind fun j5 => (if (x5 + (g_D_held ((s1.1 44 0 j3) - x5) (x2 - (jabs (g_D_held ((s1.1 43 0 j2) - x4) x2 s1))) s1)) = (s1.1 44 0 j5) then some (s1, x6) else (f_Forecast_thereBehind_L141 k23 x2 x3 (x4 + (g_D_held ((s1.1 43 0 j2) - x4) x2 s1)) (x5 + (g_D_held ((s1.1 44 0 j3) - x5) (x2 - (jabs (g_D_held ((s1.1 43 0 j2) - x4) x2 s1))) s1)) x6 s1))) else (f_Forecast_thereBehind_L141 k23 x2 x3 (x4 + (g_D_held ((s1.1 43 0 j2) - x4) x2 s1)) (x5 + (g_D_held ((s1.1 44 0 j3) - x5) (x2 - (jabs (g_D_held ((s1.1 43 0 j2) - x4) x2 s1))) s1)) x6 s1)))))) else none)
def f_Forecast_thereBehind_L58 (k23 : Int32 → Int32 → Int32 → Int32 → Int32 → S2 → Option (S2 × Int32)) (x2 : Int32) (x3 : Int32) (x4 : Int32) (x5 : Int32) (x6 : Int32) (s : S2) : Option (S2 × Int32) := (f_Forecast_thereBehind_L59 k23 x2 x3 x4 x5 x6 (Int32.ofInt 0) s)
def b_Forecast_thereBehind_L23 (k23 : Int32 → Int32 → Int32 → Int32 → Int32 → S2 → Option (S2 × Int32)) (x2 : Int32) (x3 : Int32) (x4 : Int32) (x5 : Int32) (x6 : Int32) (s : S2) : Option (S2 × Int32) := (if x3 < x6 then some (s, (Int32.ofInt (-1))) else ((ix 61 x6).bind fun j1 => (if x4 = (s.1 43 0 j1) then ((ix 61 x6).bind fun j2 => (if x5 = (s.1 44 0 j2) then (f_Forecast_thereBehind_L59 k23 x2 x3 x4 x5 x6 (Int32.ofInt 1) s) else (f_Forecast_thereBehind_L58 k23 x2 x3 x4 x5 x6 s))) else (f_Forecast_thereBehind_L58 k23 x2 x3 x4 x5 x6 s))))
def f_Forecast_thereBehind_L23 : Nat → Int32 → Int32 → Int32 → Int32 → Int32 → S2 → Option (S2 × Int32)
  | 0 => fun _ _ _ _ _ _ => none
  | n + 1 => b_Forecast_thereBehind_L23 (f_Forecast_thereBehind_L23 n)
def f_Forecast_thereBehind (a1 : Int32) (a2 : Int32) (a3 : Int32) (s : S2) : Option (S2 × Int32) := ((f_State_xOf 0 a1 s).bind fun q1 => ((f_State_yOf 0 a1 s).bind fun q2 => (f_Forecast_thereBehind_L23 FU a2 a3 q1 q2 (Int32.ofInt 1) s)))
theorem c_Forecast_thereBehind_L141 {xs : Nat → Int32} {L d : Nat} {P : MK S2} {Q : S2 → Option MV → Prop} {res : S2 × Int32} (hP : MClosed (O3 xs L) (kcall (O3 xs L) (d + 1)) kd_Forecast_thereBehind 1 Q P) (hQ : Q res.1 (some (mI res.2))) {k23 : Int32 → Int32 → Int32 → Int32 → Int32 → S2 → Option (S2 × Int32)} (hk23 : ∀ (x2 : Int32) (x3 : Int32) (x4 : Int32) (x5 : Int32) (x6 : Int32) (x1 : Int32) (x7 : Option Int32) (x8 : Option Int32) (s : S2), k23 x2 x3 x4 x5 x6 s = some res → P 23 [some (mR 41 0), some (mI x1), some (mI x2), some (mI x3), some (mI x4), some (mI x5), some (mI x6), oI x7, oI x8] [] s (0, 0)) (x2 : Int32) (x3 : Int32) (x4 : Int32) (x5 : Int32) (x6 : Int32) (x1 : Int32) (x7 : Int32) (x8 : Int32) (s : S2) (h : f_Forecast_thereBehind_L141 k23 x2 x3 x4 x5 x6 s = some res) : P 141 [some (mR 41 0), some (mI x1), some (mI x2), some (mI x3), some (mI x4), some (mI x5), some (mI x6), some (mI x7), some (mI x8)] [] s (0, 0) := by
  refine mgo_from hP [23, 58, 59, 141] 260 ?_
  exact hk23 _ _ _ _ _ _ (some x7) (some x8) _ h
set_option maxRecDepth 20000 in
set_option maxHeartbeats 4000000 in
theorem c_Forecast_thereBehind_L59 {xs : Nat → Int32} {L d : Nat} {P : MK S2} {Q : S2 → Option MV → Prop} {res : S2 × Int32} (hP : MClosed (O3 xs L) (kcall (O3 xs L) (d + 1)) kd_Forecast_thereBehind 1 Q P) (hQ : Q res.1 (some (mI res.2))) {k23 : Int32 → Int32 → Int32 → Int32 → Int32 → S2 → Option (S2 × Int32)} (hk23 : ∀ (x2 : Int32) (x3 : Int32) (x4 : Int32) (x5 : Int32) (x6 : Int32) (x1 : Int32) (x7 : Option Int32) (x8 : Option Int32) (s : S2), k23 x2 x3 x4 x5 x6 s = some res → P 23 [some (mR 41 0), some (mI x1), some (mI x2), some (mI x3), some (mI x4), some (mI x5), some (mI x6), oI x7, oI x8] [] s (0, 0)) (x2 : Int32) (x3 : Int32) (x4 : Int32) (x5 : Int32) (x6 : Int32) (y1 : Int32) (x1 : Int32) (x7 : Option Int32) (x8 : Option Int32) (s : S2) (h : f_Forecast_thereBehind_L59 k23 x2 x3 x4 x5 x6 y1 s = some res) : P 59 [some (mR 41 0), some (mI x1), some (mI x2), some (mI x3), some (mI x4), some (mI x5), some (mI x6), oI x7, oI x8] [mI y1, mR 41 0] s (0, 0) := by
  refine mgo_from hP [23, 58, 59, 141] 260 ?_
  obtain ⟨hz, h⟩ := pif h
  have h := bnds h
  rcases hz with rfl | rfl
  · obtain ⟨j2, hj, h⟩ := bnd h
    refine go_ix j2 (ix_lt hj) (ix_eq hj) ?_
    refine go_call (fun _ hw => c_D_held hw) ?_
    obtain ⟨j3, hj, h⟩ := bnd h
    refine go_ix j3 (ix_lt hj) (ix_eq hj) ?_
    refine go_call (fun _ hw => c_D_held hw) ?_
    obtain ⟨j4, hj, h⟩ := bnd h
    refine go_ix j4 (ix_lt hj) (ix_eq hj) ?_
    refine go_brn (fun hc => ?_) (fun hc => ?_)
    · replace h := (if_neg hc).symm.trans h
      exact c_Forecast_thereBehind_L141 hP hQ hk23 _ _ _ _ _ _ _ _ _ h
    · replace h := (if_pos hc).symm.trans h
      obtain ⟨j5, hj, h⟩ := bnd h
      refine go_ix j5 (ix_lt hj) (ix_eq hj) ?_
      refine go_brn (fun hc => ?_) (fun hc => ?_)
      · replace h := (if_neg hc).symm.trans h
        exact c_Forecast_thereBehind_L141 hP hQ hk23 _ _ _ _ _ _ _ _ _ h
      · replace h := (if_pos hc).symm.trans h
        cases h
        exact hQ
  · obtain ⟨j2, hj, h⟩ := bnd h
    refine go_ix j2 (ix_lt hj) (ix_eq hj) ?_
    refine go_call (fun _ hw => c_D_held hw) ?_
    obtain ⟨j3, hj, h⟩ := bnd h
    refine go_ix j3 (ix_lt hj) (ix_eq hj) ?_
    refine go_call (fun _ hw => c_D_held hw) ?_
    obtain ⟨j4, hj, h⟩ := bnd h
    refine go_ix j4 (ix_lt hj) (ix_eq hj) ?_
    refine go_brn (fun hc => ?_) (fun hc => ?_)
    · replace h := (if_neg hc).symm.trans h
      exact c_Forecast_thereBehind_L141 hP hQ hk23 _ _ _ _ _ _ _ _ _ h
    · replace h := (if_pos hc).symm.trans h
      obtain ⟨j5, hj, h⟩ := bnd h
      refine go_ix j5 (ix_lt hj) (ix_eq hj) ?_
      refine go_brn (fun hc => ?_) (fun hc => ?_)
      · replace h := (if_neg hc).symm.trans h
        exact c_Forecast_thereBehind_L141 hP hQ hk23 _ _ _ _ _ _ _ _ _ h
      · replace h := (if_pos hc).symm.trans h
        cases h
        exact hQ
theorem c_Forecast_thereBehind_L58 {xs : Nat → Int32} {L d : Nat} {P : MK S2} {Q : S2 → Option MV → Prop} {res : S2 × Int32} (hP : MClosed (O3 xs L) (kcall (O3 xs L) (d + 1)) kd_Forecast_thereBehind 1 Q P) (hQ : Q res.1 (some (mI res.2))) {k23 : Int32 → Int32 → Int32 → Int32 → Int32 → S2 → Option (S2 × Int32)} (hk23 : ∀ (x2 : Int32) (x3 : Int32) (x4 : Int32) (x5 : Int32) (x6 : Int32) (x1 : Int32) (x7 : Option Int32) (x8 : Option Int32) (s : S2), k23 x2 x3 x4 x5 x6 s = some res → P 23 [some (mR 41 0), some (mI x1), some (mI x2), some (mI x3), some (mI x4), some (mI x5), some (mI x6), oI x7, oI x8] [] s (0, 0)) (x2 : Int32) (x3 : Int32) (x4 : Int32) (x5 : Int32) (x6 : Int32) (x1 : Int32) (x7 : Option Int32) (x8 : Option Int32) (s : S2) (h : f_Forecast_thereBehind_L58 k23 x2 x3 x4 x5 x6 s = some res) : P 58 [some (mR 41 0), some (mI x1), some (mI x2), some (mI x3), some (mI x4), some (mI x5), some (mI x6), oI x7, oI x8] [mR 41 0] s (0, 0) := by
  refine mgo_from hP [23, 58, 59, 141] 260 ?_
  exact c_Forecast_thereBehind_L59 hP hQ hk23 _ _ _ _ _ _ _ x7 x8 _ h
theorem cb_Forecast_thereBehind_L23 {xs : Nat → Int32} {L d : Nat} {P : MK S2} {Q : S2 → Option MV → Prop} {res : S2 × Int32} (hP : MClosed (O3 xs L) (kcall (O3 xs L) (d + 1)) kd_Forecast_thereBehind 1 Q P) (hQ : Q res.1 (some (mI res.2))) {k23 : Int32 → Int32 → Int32 → Int32 → Int32 → S2 → Option (S2 × Int32)} (hk23 : ∀ (x2 : Int32) (x3 : Int32) (x4 : Int32) (x5 : Int32) (x6 : Int32) (x1 : Int32) (x7 : Option Int32) (x8 : Option Int32) (s : S2), k23 x2 x3 x4 x5 x6 s = some res → P 23 [some (mR 41 0), some (mI x1), some (mI x2), some (mI x3), some (mI x4), some (mI x5), some (mI x6), oI x7, oI x8] [] s (0, 0)) (x2 : Int32) (x3 : Int32) (x4 : Int32) (x5 : Int32) (x6 : Int32) (x1 : Int32) (x7 : Option Int32) (x8 : Option Int32) (s : S2) (h : b_Forecast_thereBehind_L23 k23 x2 x3 x4 x5 x6 s = some res) : P 23 [some (mR 41 0), some (mI x1), some (mI x2), some (mI x3), some (mI x4), some (mI x5), some (mI x6), oI x7, oI x8] [] s (0, 0) := by
  refine mgo_from hP [23, 58, 59, 141] 260 ?_
  refine go_br (fun hc : x3 < x6 => ?_) (fun hc : ¬ (x3 < x6) => ?_)
  · replace h := (if_pos hc).symm.trans h
    cases h
    exact hQ
  · replace h := (if_neg hc).symm.trans h
    obtain ⟨j1, hj, h⟩ := bnd h
    refine go_ix j1 (ix_lt hj) (ix_eq hj) ?_
    refine go_brn (fun hc : ¬ (x4 = (s.1 43 0 j1)) => ?_) (fun hc : x4 = (s.1 43 0 j1) => ?_)
    · replace h := (if_neg hc).symm.trans h
      exact c_Forecast_thereBehind_L58 hP hQ hk23 _ _ _ _ _ _ x7 x8 _ h
    · replace h := (if_pos hc).symm.trans h
      obtain ⟨j2, hj, h⟩ := bnd h
      refine go_ix j2 (ix_lt hj) (ix_eq hj) ?_
      refine go_brn (fun hc : ¬ (x5 = (s.1 44 0 j2)) => ?_) (fun hc : x5 = (s.1 44 0 j2) => ?_)
      · replace h := (if_neg hc).symm.trans h
        exact c_Forecast_thereBehind_L58 hP hQ hk23 _ _ _ _ _ _ x7 x8 _ h
      · replace h := (if_pos hc).symm.trans h
        exact c_Forecast_thereBehind_L59 hP hQ hk23 _ _ _ _ _ _ _ x7 x8 _ h
theorem c_Forecast_thereBehind_L23 {xs : Nat → Int32} {L d : Nat} {P : MK S2} {Q : S2 → Option MV → Prop} {res : S2 × Int32} (hP : MClosed (O3 xs L) (kcall (O3 xs L) (d + 1)) kd_Forecast_thereBehind 1 Q P) (hQ : Q res.1 (some (mI res.2))) : ∀ (fu : Nat) (x2 : Int32) (x3 : Int32) (x4 : Int32) (x5 : Int32) (x6 : Int32) (x1 : Int32) (x7 : Option Int32) (x8 : Option Int32) (s : S2), f_Forecast_thereBehind_L23 fu x2 x3 x4 x5 x6 s = some res → P 23 [some (mR 41 0), some (mI x1), some (mI x2), some (mI x3), some (mI x4), some (mI x5), some (mI x6), oI x7, oI x8] [] s (0, 0)
  | 0, _, _, _, _, _, _, _, _, _, h => by cases h
  | fu + 1, x2, x3, x4, x5, x6, x1, x7, x8, s, h => cb_Forecast_thereBehind_L23 hP hQ (c_Forecast_thereBehind_L23 hP hQ fu) x2 x3 x4 x5 x6 x1 x7 x8 s h
theorem c_Forecast_thereBehind {xs : Nat → Int32} {L d : Nat} {a1 : Int32} {a2 : Int32} {a3 : Int32} {s : S2} {res : S2 × Int32} {Q : S2 → Option MV → Prop} (h : f_Forecast_thereBehind a1 a2 a3 s = some res) (hQ : Q res.1 (some (mI res.2))) : kcall (O3 xs L) (d + 2) k_Forecast_thereBehind [mR 41 0, mI a1, mI a2, mI a3] s Q := by
  refine kc_of (cd := kd_Forecast_thereBehind) (mx := 9) (rt := 1) rfl rfl ?_
  intro P hP
  refine mgo_sound hP [23, 58, 59, 141] 260 _ _ _ _ _ ?_
  obtain ⟨q1, hq, h⟩ := bnd h
  refine go_call (fun _ hw => c_State_xOf hq hw) ?_
  obtain ⟨q2, hq, h⟩ := bnd h
  refine go_call (fun _ hw => c_State_yOf hq hw) ?_
  exact c_Forecast_thereBehind_L23 hP hQ FU _ _ _ _ _ _ none none _ h
/-! Forecast_wasOvertaken -/
def f_Forecast_wasOvertaken (s : S2) : Option Bool := ((rb (s.1 41 0 7)).bind fun b1 => some b1)
theorem c_Forecast_wasOvertaken {xs : Nat → Int32} {L d : Nat} {s : S2} {res : Bool} {Q : S2 → Option MV → Prop} (h : f_Forecast_wasOvertaken s = some res) (hQ : Q s (some (mI (bI res)))) : kcall (O3 xs L) (d + 1) k_Forecast_wasOvertaken [mR 41 0] s Q := by
  refine kc_of (cd := kd_Forecast_wasOvertaken) (mx := 1) (rt := 2) rfl rfl ?_
  intro P hP
  refine mgo_sound hP [] 260 _ _ _ _ _ ?_
  obtain ⟨b1, hb, h⟩ := bnd h
  cases h
  exact ret_z hb hQ
/-! D_isPair -/
def g_D_isPair (a1 : Int32) (s : S2) : Bool := (if a1 < 0 then false else (if (bI (g_D_areTwo (a1 / (Int32.ofInt 10)) (jrem a1 (Int32.ofInt 10)) s)) = 0 then false else true))
theorem cr_D_isPair {xs : Nat → Int32} {L d : Nat} {a1 : Int32} {s : S2} {res : Bool} {Q : S2 → Option MV → Prop} (h : g_D_isPair a1 s = res) (hQ : Q s (some (mI (bI res)))) : kcall (O3 xs L) (d + 4) k_D_isPair [mR 10 0, mI a1] s Q := by
  refine kc_of (cd := kd_D_isPair) (mx := 2) (rt := 2) rfl rfl ?_
  intro P hP
  refine mgo_sound hP [] 260 _ _ _ _ _ ?_
  refine go_br (fun hc : a1 < 0 => ?_) (fun hc : ¬ (a1 < 0) => ?_)
  · replace h := (if_pos hc).symm.trans h
    cases h
    exact ⟨Or.inl rfl, hQ⟩
  · replace h := (if_neg hc).symm.trans h
    refine go_and (by decide) ?_
    refine go_and (by decide) ?_
    refine go_call (fun _ hw => c_D_areTwo hw) ?_
    refine go_br (fun hc : (bI (g_D_areTwo (a1 / (Int32.ofInt 10)) (jrem a1 (Int32.ofInt 10)) s)) = 0 => ?_) (fun hc : ¬ ((bI (g_D_areTwo (a1 / (Int32.ofInt 10)) (jrem a1 (Int32.ofInt 10)) s)) = 0) => ?_)
    · replace h := (if_pos hc).symm.trans h
      cases h
      exact ⟨Or.inl rfl, hQ⟩
    · replace h := (if_neg hc).symm.trans h
      cases h
      exact ⟨Or.inr rfl, hQ⟩
theorem c_D_isPair {xs : Nat → Int32} {L d : Nat} {a1 : Int32} {s : S2} {Q : S2 → Option MV → Prop} (hQ : Q s (some (mI (bI (g_D_isPair a1 s))))) : kcall (O3 xs L) (d + 4) k_D_isPair [mR 10 0, mI a1] s Q := cr_D_isPair rfl hQ
/-! Deals_tellPairs -/
def f_Deals_tellPairs_L91 (k7 : Int32 → S2 → Option S2) (k22 : Int32 → Int32 → S2 → Option S2) (x1 : Int32) (x2 : Int32) (s : S2) : Option S2 := (k22 x1 (x2 + (Int32.ofInt 1)) s)
def b_Deals_tellPairs_L22 (k7 : Int32 → S2 → Option S2) (k22 : Int32 → Int32 → S2 → Option S2) (x1 : Int32) (x2 : Int32) (s : S2) : Option S2 := (if (g_Sea_isles 0 s) ≤ x2 then (k7 (x1 + (Int32.ofInt 1)) s) else (if (Int32.ofInt 15) ≤ (s.1 45 0 7) then (f_Deals_tellPairs_L91 k7 k22 x1 x2 s) else ((f_State_headOf 0 x1 s).bind fun q1 => ((f_State_headOf 0 x2 s).bind fun q2 => (if q1 = q2 then (f_Deals_tellPairs_L91 k7 k22 x1 x2 s) else ((ix 15 (s.1 45 0 7)).bind fun j4 => (some (pkS s 46 0 j4 x1)).bind fun s3 => ((ix 15 (s3.1 45 0 7)).bind fun j6 => (some (pkS s3 47 0 j6 x2)).bind fun s5 => ((some (pkS s5 45 0 7 ((s5.1 45 0 7) + (Int32.ofInt 1)))).bind fun s7 => (f_Deals_tellPairs_L91 k7 k22 x1 x2 s7)))))))))
def f_Deals_tellPairs_L22 (k7 : Int32 → S2 → Option S2) : Nat → Int32 → Int32 → S2 → Option S2
  | 0 => fun _ _ _ => none
  | n + 1 => b_Deals_tellPairs_L22 k7 (f_Deals_tellPairs_L22 k7 n)
def b_Deals_tellPairs_L7 (k7 : Int32 → S2 → Option S2) (x1 : Int32) (s : S2) : Option S2 := (if (g_Sea_isles 0 s) ≤ x1 then some s else (f_Deals_tellPairs_L22 k7 FU x1 (x1 + (Int32.ofInt 1)) s))
def f_Deals_tellPairs_L7 : Nat → Int32 → S2 → Option S2
  | 0 => fun _ _ => none
  | n + 1 => b_Deals_tellPairs_L7 (f_Deals_tellPairs_L7 n)
def f_Deals_tellPairs (s : S2) : Option S2 := ((some (pkS s 45 0 7 (Int32.ofInt 0))).bind fun s1 => (f_Deals_tellPairs_L7 FU (Int32.ofInt 0) s1))
theorem c_Deals_tellPairs_L91 {xs : Nat → Int32} {L d : Nat} {P : MK S2} {Q : S2 → Option MV → Prop} {res : S2} (hP : MClosed (O3 xs L) (kcall (O3 xs L) (d + 1)) kd_Deals_tellPairs 0 Q P) (hQ : Q res none) {k7 : Int32 → S2 → Option S2} {k22 : Int32 → Int32 → S2 → Option S2} (hk7 : ∀ (x1 : Int32) (x2 : Option Int32) (s : S2), k7 x1 s = some res → P 7 [some (mR 45 0), some (mI x1), oI x2] [] s (0, 0)) (hk22 : ∀ (x1 : Int32) (x2 : Int32) (s : S2), k22 x1 x2 s = some res → P 22 [some (mR 45 0), some (mI x1), some (mI x2)] [] s (0, 0)) (x1 : Int32) (x2 : Int32) (s : S2) (h : f_Deals_tellPairs_L91 k7 k22 x1 x2 s = some res) : P 91 [some (mR 45 0), some (mI x1), some (mI x2)] [] s (0, 0) := by
  refine mgo_from hP [7, 22, 91] 260 ?_
  exact hk22 _ _ _ h
set_option maxRecDepth 20000 in
set_option maxHeartbeats 4000000 in
theorem cb_Deals_tellPairs_L22 {xs : Nat → Int32} {L d : Nat} {P : MK S2} {Q : S2 → Option MV → Prop} {res : S2} (hP : MClosed (O3 xs L) (kcall (O3 xs L) (d + 1)) kd_Deals_tellPairs 0 Q P) (hQ : Q res none) {k7 : Int32 → S2 → Option S2} (hk7 : ∀ (x1 : Int32) (x2 : Option Int32) (s : S2), k7 x1 s = some res → P 7 [some (mR 45 0), some (mI x1), oI x2] [] s (0, 0)) {k22 : Int32 → Int32 → S2 → Option S2} (hk22 : ∀ (x1 : Int32) (x2 : Int32) (s : S2), k22 x1 x2 s = some res → P 22 [some (mR 45 0), some (mI x1), some (mI x2)] [] s (0, 0)) (x1 : Int32) (x2 : Int32) (s : S2) (h : b_Deals_tellPairs_L22 k7 k22 x1 x2 s = some res) : P 22 [some (mR 45 0), some (mI x1), some (mI x2)] [] s (0, 0) := by
  refine mgo_from hP [7, 22, 91] 260 ?_
  refine go_call (fun _ hw => c_Sea_isles hw) ?_
  refine go_br (fun hc : (g_Sea_isles 0 s) ≤ x2 => ?_) (fun hc : ¬ ((g_Sea_isles 0 s) ≤ x2) => ?_)
  · replace h := (if_pos hc).symm.trans h
    exact hk7 _ (some x2) _ h
  · replace h := (if_neg hc).symm.trans h
    refine go_br (fun hc : (Int32.ofInt 15) ≤ (s.1 45 0 7) => ?_) (fun hc : ¬ ((Int32.ofInt 15) ≤ (s.1 45 0 7)) => ?_)
    · replace h := (if_pos hc).symm.trans h
      exact c_Deals_tellPairs_L91 hP hQ hk7 hk22 _ _ _ h
    · replace h := (if_neg hc).symm.trans h
      obtain ⟨q1, hq, h⟩ := bnd h
      refine go_call (fun _ hw => c_State_headOf hq hw) ?_
      obtain ⟨q2, hq, h⟩ := bnd h
      refine go_call (fun _ hw => c_State_headOf hq hw) ?_
      refine go_br (fun hc : q1 = q2 => ?_) (fun hc : ¬ (q1 = q2) => ?_)
      · replace h := (if_pos hc).symm.trans h
        exact c_Deals_tellPairs_L91 hP hQ hk7 hk22 _ _ _ h
      · replace h := (if_neg hc).symm.trans h
        obtain ⟨j4, hj, h⟩ := bnd h
        replace h := bnds h
        refine go_ix j4 (ix_lt hj) (ix_eq hj) ?_
        obtain ⟨j6, hj, h⟩ := bnd h
        replace h := bnds h
        refine go_ix j6 (ix_lt hj) (ix_eq hj) ?_
        replace h := bnds h
        exact c_Deals_tellPairs_L91 hP hQ hk7 hk22 _ _ _ h
theorem c_Deals_tellPairs_L22 {xs : Nat → Int32} {L d : Nat} {P : MK S2} {Q : S2 → Option MV → Prop} {res : S2} (hP : MClosed (O3 xs L) (kcall (O3 xs L) (d + 1)) kd_Deals_tellPairs 0 Q P) (hQ : Q res none) {k7 : Int32 → S2 → Option S2} (hk7 : ∀ (x1 : Int32) (x2 : Option Int32) (s : S2), k7 x1 s = some res → P 7 [some (mR 45 0), some (mI x1), oI x2] [] s (0, 0)) : ∀ (fu : Nat) (x1 : Int32) (x2 : Int32) (s : S2), f_Deals_tellPairs_L22 k7 fu x1 x2 s = some res → P 22 [some (mR 45 0), some (mI x1), some (mI x2)] [] s (0, 0)
  | 0, _, _, _, h => by cases h
  | fu + 1, x1, x2, s, h => cb_Deals_tellPairs_L22 hP hQ hk7 (c_Deals_tellPairs_L22 hP hQ hk7 fu) x1 x2 s h
theorem cb_Deals_tellPairs_L7 {xs : Nat → Int32} {L d : Nat} {P : MK S2} {Q : S2 → Option MV → Prop} {res : S2} (hP : MClosed (O3 xs L) (kcall (O3 xs L) (d + 1)) kd_Deals_tellPairs 0 Q P) (hQ : Q res none) {k7 : Int32 → S2 → Option S2} (hk7 : ∀ (x1 : Int32) (x2 : Option Int32) (s : S2), k7 x1 s = some res → P 7 [some (mR 45 0), some (mI x1), oI x2] [] s (0, 0)) (x1 : Int32) (x2 : Option Int32) (s : S2) (h : b_Deals_tellPairs_L7 k7 x1 s = some res) : P 7 [some (mR 45 0), some (mI x1), oI x2] [] s (0, 0) := by
  refine mgo_from hP [7, 22, 91] 260 ?_
  refine go_call (fun _ hw => c_Sea_isles hw) ?_
  refine go_br (fun hc : (g_Sea_isles 0 s) ≤ x1 => ?_) (fun hc : ¬ ((g_Sea_isles 0 s) ≤ x1) => ?_)
  · replace h := (if_pos hc).symm.trans h
    cases h
    exact hQ
  · replace h := (if_neg hc).symm.trans h
    exact c_Deals_tellPairs_L22 hP hQ hk7 FU _ _ _ h
theorem c_Deals_tellPairs_L7 {xs : Nat → Int32} {L d : Nat} {P : MK S2} {Q : S2 → Option MV → Prop} {res : S2} (hP : MClosed (O3 xs L) (kcall (O3 xs L) (d + 1)) kd_Deals_tellPairs 0 Q P) (hQ : Q res none) : ∀ (fu : Nat) (x1 : Int32) (x2 : Option Int32) (s : S2), f_Deals_tellPairs_L7 fu x1 s = some res → P 7 [some (mR 45 0), some (mI x1), oI x2] [] s (0, 0)
  | 0, _, _, _, h => by cases h
  | fu + 1, x1, x2, s, h => cb_Deals_tellPairs_L7 hP hQ (c_Deals_tellPairs_L7 hP hQ fu) x1 x2 s h
theorem c_Deals_tellPairs {xs : Nat → Int32} {L d : Nat} {s : S2} {res : S2} {Q : S2 → Option MV → Prop} (h : f_Deals_tellPairs s = some res) (hQ : Q res none) : kcall (O3 xs L) (d + 2) k_Deals_tellPairs [mR 45 0] s Q := by
  refine kc_of (cd := kd_Deals_tellPairs) (mx := 3) (rt := 0) rfl rfl ?_
  intro P hP
  refine mgo_sound hP [7, 22, 91] 260 _ _ _ _ _ ?_
  replace h := bnds h
  exact c_Deals_tellPairs_L7 hP hQ FU _ none _ h
/-! Course_addTie -/
def f_Course_addTie (a1 : Int32) (a2 : Int32) (a3 : Int32) (a4 : Int32) (s : S2) : Option S2 := (if (Int32.ofInt 3) ≤ (s.1 31 0 13) then some s else ((ix 3 (s.1 31 0 13)).bind fun j2 => (some (pkS s 37 0 j2 a1)).bind fun s1 => ((ix 3 (s1.1 31 0 13)).bind fun j4 => (some (pkS s1 38 0 j4 a2)).bind fun s3 => ((ix 3 (s3.1 31 0 13)).bind fun j6 => (some (pkS s3 39 0 j6 a3)).bind fun s5 => ((ix 3 (s5.1 31 0 13)).bind fun j8 => (some (pkS s5 40 0 j8 a4)).bind fun s7 => ((some (pkS s7 31 0 13 ((s7.1 31 0 13) + (Int32.ofInt 1)))).bind fun s9 => some s9))))))
set_option maxRecDepth 20000 in
set_option maxHeartbeats 4000000 in
theorem c_Course_addTie {xs : Nat → Int32} {L d : Nat} {a1 : Int32} {a2 : Int32} {a3 : Int32} {a4 : Int32} {s : S2} {res : S2} {Q : S2 → Option MV → Prop} (h : f_Course_addTie a1 a2 a3 a4 s = some res) (hQ : Q res none) : kcall (O3 xs L) (d + 1) k_Course_addTie [mR 31 0, mI a1, mI a2, mI a3, mI a4] s Q := by
  refine kc_of (cd := kd_Course_addTie) (mx := 5) (rt := 0) rfl rfl ?_
  intro P hP
  refine mgo_sound hP [] 260 _ _ _ _ _ ?_
  refine go_br (fun hc : (Int32.ofInt 3) ≤ (s.1 31 0 13) => ?_) (fun hc : ¬ ((Int32.ofInt 3) ≤ (s.1 31 0 13)) => ?_)
  · replace h := (if_pos hc).symm.trans h
    cases h
    exact hQ
  · replace h := (if_neg hc).symm.trans h
    obtain ⟨j2, hj, h⟩ := bnd h
    replace h := bnds h
    refine go_ix j2 (ix_lt hj) (ix_eq hj) ?_
    obtain ⟨j4, hj, h⟩ := bnd h
    replace h := bnds h
    refine go_ix j4 (ix_lt hj) (ix_eq hj) ?_
    obtain ⟨j6, hj, h⟩ := bnd h
    replace h := bnds h
    refine go_ix j6 (ix_lt hj) (ix_eq hj) ?_
    obtain ⟨j8, hj, h⟩ := bnd h
    replace h := bnds h
    refine go_ix j8 (ix_lt hj) (ix_eq hj) ?_
    replace h := bnds h
    cases h
    exact hQ
/-! Deals_pickedRow -/
def b_Deals_pickedRow_L4 (k4 : Int32 → Int32 → S2 → Option Int32) (x1 : Int32) (x2 : Int32) (s : S2) : Option Int32 := (if (s.1 45 0 8) ≤ x2 then some x1 else ((ix 3 x2).bind fun j1 => ((ix 15 (s.1 48 0 j1)).bind fun j2 => ((ix 3 x2).bind fun j3 => ((ix 15 (s.1 48 0 j3)).bind fun j4 => (k4 (((x1 * (Int32.ofInt 100)) + ((Int32.ofInt 10) * (s.1 46 0 j2))) + (s.1 47 0 j4)) (x2 + (Int32.ofInt 1)) s))))))
def f_Deals_pickedRow_L4 : Nat → Int32 → Int32 → S2 → Option Int32
  | 0 => fun _ _ _ => none
  | n + 1 => b_Deals_pickedRow_L4 (f_Deals_pickedRow_L4 n)
def f_Deals_pickedRow (s : S2) : Option Int32 := (f_Deals_pickedRow_L4 FU (Int32.ofInt 0) (Int32.ofInt 0) s)
theorem cb_Deals_pickedRow_L4 {xs : Nat → Int32} {L d : Nat} {P : MK S2} {Q : S2 → Option MV → Prop} {res : Int32} {s : S2} (hP : MClosed (O3 xs L) (kcall (O3 xs L) (d + 0)) kd_Deals_pickedRow 1 Q P) (hQ : Q s (some (mI res))) {k4 : Int32 → Int32 → S2 → Option Int32} (hk4 : ∀ (x1 : Int32) (x2 : Int32), k4 x1 x2 s = some res → P 4 [some (mR 45 0), some (mI x1), some (mI x2)] [] s (0, 0)) (x1 : Int32) (x2 : Int32) (h : b_Deals_pickedRow_L4 k4 x1 x2 s = some res) : P 4 [some (mR 45 0), some (mI x1), some (mI x2)] [] s (0, 0) := by
  refine mgo_from hP [4] 260 ?_
  refine go_br (fun hc : (s.1 45 0 8) ≤ x2 => ?_) (fun hc : ¬ ((s.1 45 0 8) ≤ x2) => ?_)
  · replace h := (if_pos hc).symm.trans h
    cases h
    exact hQ
  · replace h := (if_neg hc).symm.trans h
    obtain ⟨j1, hj, h⟩ := bnd h
    refine go_ix j1 (ix_lt hj) (ix_eq hj) ?_
    obtain ⟨j2, hj, h⟩ := bnd h
    refine go_ix j2 (ix_lt hj) (ix_eq hj) ?_
    obtain ⟨j3, hj, h⟩ := bnd h
    refine go_ix j3 (ix_lt hj) (ix_eq hj) ?_
    obtain ⟨j4, hj, h⟩ := bnd h
    refine go_ix j4 (ix_lt hj) (ix_eq hj) ?_
    exact hk4 _ _ h
theorem c_Deals_pickedRow_L4 {xs : Nat → Int32} {L d : Nat} {P : MK S2} {Q : S2 → Option MV → Prop} {res : Int32} {s : S2} (hP : MClosed (O3 xs L) (kcall (O3 xs L) (d + 0)) kd_Deals_pickedRow 1 Q P) (hQ : Q s (some (mI res))) : ∀ (fu : Nat) (x1 : Int32) (x2 : Int32), f_Deals_pickedRow_L4 fu x1 x2 s = some res → P 4 [some (mR 45 0), some (mI x1), some (mI x2)] [] s (0, 0)
  | 0, _, _, h => by cases h
  | fu + 1, x1, x2, h => cb_Deals_pickedRow_L4 hP hQ (c_Deals_pickedRow_L4 hP hQ fu) x1 x2 h
theorem c_Deals_pickedRow {xs : Nat → Int32} {L d : Nat} {s : S2} {res : Int32} {Q : S2 → Option MV → Prop} (h : f_Deals_pickedRow s = some res) (hQ : Q s (some (mI res))) : kcall (O3 xs L) (d + 1) k_Deals_pickedRow [mR 45 0] s Q := by
  refine kc_of (cd := kd_Deals_pickedRow) (mx := 3) (rt := 1) rfl rfl ?_
  intro P hP
  refine mgo_sound hP [4] 260 _ _ _ _ _ ?_
  exact c_Deals_pickedRow_L4 hP hQ FU _ _ h
/-! Deals_pickFirst -/
def b_Deals_pickFirst_L22 (k22 : Int32 → Int32 → S2 → Option (S2 × Bool)) (x1 : Int32) (x2 : Int32) (s : S2) : Option (S2 × Bool) := (if x1 ≤ x2 then some (s, true) else ((ix 3 x2).bind fun j2 => (some (pkS s 48 0 j2 x2)).bind fun s1 => (k22 x1 (x2 + (Int32.ofInt 1)) s1)))
def f_Deals_pickFirst_L22 : Nat → Int32 → Int32 → S2 → Option (S2 × Bool)
  | 0 => fun _ _ _ => none
  | n + 1 => b_Deals_pickFirst_L22 (f_Deals_pickFirst_L22 n)
def f_Deals_pickFirst (a1 : Int32) (s : S2) : Option (S2 × Bool) := (if (s.1 45 0 7) < a1 then some (s, false) else (if a1 ≤ (Int32.ofInt 3) then ((some (pkS s 45 0 8 a1)).bind fun s1 => (f_Deals_pickFirst_L22 FU a1 (Int32.ofInt 0) s1)) else some (s, false)))
theorem cb_Deals_pickFirst_L22 {xs : Nat → Int32} {L d : Nat} {P : MK S2} {Q : S2 → Option MV → Prop} {res : S2 × Bool} (hP : MClosed (O3 xs L) (kcall (O3 xs L) (d + 0)) kd_Deals_pickFirst 2 Q P) (hQ : Q res.1 (some (mI (bI res.2)))) {k22 : Int32 → Int32 → S2 → Option (S2 × Bool)} (hk22 : ∀ (x1 : Int32) (x2 : Int32) (s : S2), k22 x1 x2 s = some res → P 22 [some (mR 45 0), some (mI x1), some (mI x2)] [] s (0, 0)) (x1 : Int32) (x2 : Int32) (s : S2) (h : b_Deals_pickFirst_L22 k22 x1 x2 s = some res) : P 22 [some (mR 45 0), some (mI x1), some (mI x2)] [] s (0, 0) := by
  refine mgo_from hP [22] 260 ?_
  refine go_br (fun hc : x1 ≤ x2 => ?_) (fun hc : ¬ (x1 ≤ x2) => ?_)
  · replace h := (if_pos hc).symm.trans h
    cases h
    exact ⟨Or.inr rfl, hQ⟩
  · replace h := (if_neg hc).symm.trans h
    obtain ⟨j2, hj, h⟩ := bnd h
    replace h := bnds h
    refine go_ix j2 (ix_lt hj) (ix_eq hj) ?_
    exact hk22 _ _ _ h
theorem c_Deals_pickFirst_L22 {xs : Nat → Int32} {L d : Nat} {P : MK S2} {Q : S2 → Option MV → Prop} {res : S2 × Bool} (hP : MClosed (O3 xs L) (kcall (O3 xs L) (d + 0)) kd_Deals_pickFirst 2 Q P) (hQ : Q res.1 (some (mI (bI res.2)))) : ∀ (fu : Nat) (x1 : Int32) (x2 : Int32) (s : S2), f_Deals_pickFirst_L22 fu x1 x2 s = some res → P 22 [some (mR 45 0), some (mI x1), some (mI x2)] [] s (0, 0)
  | 0, _, _, _, h => by cases h
  | fu + 1, x1, x2, s, h => cb_Deals_pickFirst_L22 hP hQ (c_Deals_pickFirst_L22 hP hQ fu) x1 x2 s h
theorem c_Deals_pickFirst {xs : Nat → Int32} {L d : Nat} {a1 : Int32} {s : S2} {res : S2 × Bool} {Q : S2 → Option MV → Prop} (h : f_Deals_pickFirst a1 s = some res) (hQ : Q res.1 (some (mI (bI res.2)))) : kcall (O3 xs L) (d + 1) k_Deals_pickFirst [mR 45 0, mI a1] s Q := by
  refine kc_of (cd := kd_Deals_pickFirst) (mx := 3) (rt := 2) rfl rfl ?_
  intro P hP
  refine mgo_sound hP [22] 260 _ _ _ _ _ ?_
  refine go_br (fun hc : (s.1 45 0 7) < a1 => ?_) (fun hc : ¬ ((s.1 45 0 7) < a1) => ?_)
  · replace h := (if_pos hc).symm.trans h
    cases h
    exact ⟨Or.inl rfl, hQ⟩
  · replace h := (if_neg hc).symm.trans h
    refine go_br (fun hc : a1 ≤ (Int32.ofInt 3) => ?_) (fun hc : ¬ (a1 ≤ (Int32.ofInt 3)) => ?_)
    · replace h := (if_pos hc).symm.trans h
      replace h := bnds h
      exact c_Deals_pickFirst_L22 hP hQ FU _ _ _ h
    · replace h := (if_neg hc).symm.trans h
      cases h
      exact ⟨Or.inl rfl, hQ⟩
/-! Deals_dealsIn -/
def f_Deals_dealsIn_L17 (k4 : Int32 → Int32 → S2 → Option Int32) (x1 : Int32) (x2 : Int32) (s : S2) : Option Int32 := (k4 x1 (x2 / (Int32.ofInt 3)) s)
def b_Deals_dealsIn_L4 (k4 : Int32 → Int32 → S2 → Option Int32) (x1 : Int32) (x2 : Int32) (s : S2) : Option Int32 := (if x2 ≤ 0 then some x1 else (if (jrem x2 (Int32.ofInt 3)) = 0 then (f_Deals_dealsIn_L17 k4 x1 x2 s) else (f_Deals_dealsIn_L17 k4 (x1 + (Int32.ofInt 1)) x2 s)))
def f_Deals_dealsIn_L4 : Nat → Int32 → Int32 → S2 → Option Int32
  | 0 => fun _ _ _ => none
  | n + 1 => b_Deals_dealsIn_L4 (f_Deals_dealsIn_L4 n)
def f_Deals_dealsIn (a0 : Int32) (s : S2) : Option Int32 := (f_Deals_dealsIn_L4 FU (Int32.ofInt 0) a0 s)
theorem c_Deals_dealsIn_L17 {xs : Nat → Int32} {L d : Nat} {P : MK S2} {Q : S2 → Option MV → Prop} {res : Int32} {s : S2} (hP : MClosed (O3 xs L) (kcall (O3 xs L) (d + 0)) kd_Deals_dealsIn 1 Q P) (hQ : Q s (some (mI res))) {k4 : Int32 → Int32 → S2 → Option Int32} (hk4 : ∀ (x1 : Int32) (x2 : Int32) (x0 : Int32), k4 x1 x2 s = some res → P 4 [some (mI x0), some (mI x1), some (mI x2)] [] s (0, 0)) (x1 : Int32) (x2 : Int32) (x0 : Int32) (h : f_Deals_dealsIn_L17 k4 x1 x2 s = some res) : P 17 [some (mI x0), some (mI x1), some (mI x2)] [] s (0, 0) := by
  refine mgo_from hP [4, 17] 260 ?_
  refine go_and (by decide) ?_
  exact hk4 _ _ _ h
theorem cb_Deals_dealsIn_L4 {xs : Nat → Int32} {L d : Nat} {P : MK S2} {Q : S2 → Option MV → Prop} {res : Int32} {s : S2} (hP : MClosed (O3 xs L) (kcall (O3 xs L) (d + 0)) kd_Deals_dealsIn 1 Q P) (hQ : Q s (some (mI res))) {k4 : Int32 → Int32 → S2 → Option Int32} (hk4 : ∀ (x1 : Int32) (x2 : Int32) (x0 : Int32), k4 x1 x2 s = some res → P 4 [some (mI x0), some (mI x1), some (mI x2)] [] s (0, 0)) (x1 : Int32) (x2 : Int32) (x0 : Int32) (h : b_Deals_dealsIn_L4 k4 x1 x2 s = some res) : P 4 [some (mI x0), some (mI x1), some (mI x2)] [] s (0, 0) := by
  refine mgo_from hP [4, 17] 260 ?_
  refine go_br (fun hc : x2 ≤ 0 => ?_) (fun hc : ¬ (x2 ≤ 0) => ?_)
  · replace h := (if_pos hc).symm.trans h
    cases h
    exact hQ
  · replace h := (if_neg hc).symm.trans h
    refine go_and (by decide) ?_
    refine go_br (fun hc : (jrem x2 (Int32.ofInt 3)) = 0 => ?_) (fun hc : ¬ ((jrem x2 (Int32.ofInt 3)) = 0) => ?_)
    · replace h := (if_pos hc).symm.trans h
      exact c_Deals_dealsIn_L17 hP hQ hk4 _ _ _ h
    · replace h := (if_neg hc).symm.trans h
      exact c_Deals_dealsIn_L17 hP hQ hk4 _ _ _ h
theorem c_Deals_dealsIn_L4 {xs : Nat → Int32} {L d : Nat} {P : MK S2} {Q : S2 → Option MV → Prop} {res : Int32} {s : S2} (hP : MClosed (O3 xs L) (kcall (O3 xs L) (d + 0)) kd_Deals_dealsIn 1 Q P) (hQ : Q s (some (mI res))) : ∀ (fu : Nat) (x1 : Int32) (x2 : Int32) (x0 : Int32), f_Deals_dealsIn_L4 fu x1 x2 s = some res → P 4 [some (mI x0), some (mI x1), some (mI x2)] [] s (0, 0)
  | 0, _, _, _, h => by cases h
  | fu + 1, x1, x2, x0, h => cb_Deals_dealsIn_L4 hP hQ (c_Deals_dealsIn_L4 hP hQ fu) x1 x2 x0 h
theorem c_Deals_dealsIn {xs : Nat → Int32} {L d : Nat} {a0 : Int32} {s : S2} {res : Int32} {Q : S2 → Option MV → Prop} (h : f_Deals_dealsIn a0 s = some res) (hQ : Q s (some (mI res))) : kcall (O3 xs L) (d + 1) k_Deals_dealsIn [mI a0] s Q := by
  refine kc_of (cd := kd_Deals_dealsIn) (mx := 3) (rt := 1) rfl rfl ?_
  intro P hP
  refine mgo_sound hP [4, 17] 260 _ _ _ _ _ ?_
  exact c_Deals_dealsIn_L4 hP hQ FU _ _ _ h
/-! Deals_asDigits -/
def b_Deals_asDigits_L6 (k6 : Int32 → Int32 → Int32 → S2 → Option Int32) (x0 : Int32) (x2 : Int32) (x3 : Int32) (s : S2) : Option Int32 := (if x3 ≤ 0 then some x2 else (if x3 = 0 then none else (k6 x0 ((x2 * (Int32.ofInt 10)) + (jrem (x0 / x3) (Int32.ofInt 3))) (x3 / (Int32.ofInt 3)) s)))
def f_Deals_asDigits_L6 : Nat → Int32 → Int32 → Int32 → S2 → Option Int32
  | 0 => fun _ _ _ _ => none
  | n + 1 => b_Deals_asDigits_L6 (f_Deals_asDigits_L6 n)
def f_Deals_asDigits (a0 : Int32) (a1 : Int32) (s : S2) : Option Int32 := (f_Deals_asDigits_L6 FU a0 (Int32.ofInt 0) (a1 / (Int32.ofInt 3)) s)
theorem cb_Deals_asDigits_L6 {xs : Nat → Int32} {L d : Nat} {P : MK S2} {Q : S2 → Option MV → Prop} {res : Int32} {s : S2} (hP : MClosed (O3 xs L) (kcall (O3 xs L) (d + 0)) kd_Deals_asDigits 1 Q P) (hQ : Q s (some (mI res))) {k6 : Int32 → Int32 → Int32 → S2 → Option Int32} (hk6 : ∀ (x0 : Int32) (x2 : Int32) (x3 : Int32) (x1 : Int32), k6 x0 x2 x3 s = some res → P 6 [some (mI x0), some (mI x1), some (mI x2), some (mI x3)] [] s (0, 0)) (x0 : Int32) (x2 : Int32) (x3 : Int32) (x1 : Int32) (h : b_Deals_asDigits_L6 k6 x0 x2 x3 s = some res) : P 6 [some (mI x0), some (mI x1), some (mI x2), some (mI x3)] [] s (0, 0) := by
  refine mgo_from hP [6] 260 ?_
  refine go_br (fun hc : x3 ≤ 0 => ?_) (fun hc : ¬ (x3 ≤ 0) => ?_)
  · replace h := (if_pos hc).symm.trans h
    cases h
    exact hQ
  · replace h := (if_neg hc).symm.trans h
    obtain ⟨hz, h⟩ := nif h
    refine go_and hz ?_
    refine go_and (by decide) ?_
    refine go_and (by decide) ?_
    exact hk6 _ _ _ _ h
theorem c_Deals_asDigits_L6 {xs : Nat → Int32} {L d : Nat} {P : MK S2} {Q : S2 → Option MV → Prop} {res : Int32} {s : S2} (hP : MClosed (O3 xs L) (kcall (O3 xs L) (d + 0)) kd_Deals_asDigits 1 Q P) (hQ : Q s (some (mI res))) : ∀ (fu : Nat) (x0 : Int32) (x2 : Int32) (x3 : Int32) (x1 : Int32), f_Deals_asDigits_L6 fu x0 x2 x3 s = some res → P 6 [some (mI x0), some (mI x1), some (mI x2), some (mI x3)] [] s (0, 0)
  | 0, _, _, _, _, h => by cases h
  | fu + 1, x0, x2, x3, x1, h => cb_Deals_asDigits_L6 hP hQ (c_Deals_asDigits_L6 hP hQ fu) x0 x2 x3 x1 h
theorem c_Deals_asDigits {xs : Nat → Int32} {L d : Nat} {a0 : Int32} {a1 : Int32} {s : S2} {res : Int32} {Q : S2 → Option MV → Prop} (h : f_Deals_asDigits a0 a1 s = some res) (hQ : Q s (some (mI res))) : kcall (O3 xs L) (d + 1) k_Deals_asDigits [mI a0, mI a1] s Q := by
  refine kc_of (cd := kd_Deals_asDigits) (mx := 4) (rt := 1) rfl rfl ?_
  intro P hP
  refine mgo_sound hP [6] 260 _ _ _ _ _ ?_
  refine go_and (by decide) ?_
  exact c_Deals_asDigits_L6 hP hQ FU _ _ _ _ h
/-! Charts_add -/
def f_Charts_add (a1 : Int32) (a2 : Int32) (a3 : Int32) (a4 : Int32) (s : S2) : Option (S2 × Bool) := (if (s.1 49 0 8) < (Int32.ofInt 20) then ((ix 20 (s.1 49 0 8)).bind fun j2 => (some (pkS s 50 0 j2 a1)).bind fun s1 => ((ix 20 (s1.1 49 0 8)).bind fun j4 => (some (pkS s1 51 0 j4 a2)).bind fun s3 => ((ix 20 (s3.1 49 0 8)).bind fun j6 => (some (pkS s3 52 0 j6 a3)).bind fun s5 => ((ix 20 (s5.1 49 0 8)).bind fun j8 => (some (pkS s5 53 0 j8 a4)).bind fun s7 => ((some (pkS s7 49 0 8 ((s7.1 49 0 8) + (Int32.ofInt 1)))).bind fun s9 => some (s9, true)))))) else some (s, false))
set_option maxRecDepth 20000 in
set_option maxHeartbeats 4000000 in
theorem c_Charts_add {xs : Nat → Int32} {L d : Nat} {a1 : Int32} {a2 : Int32} {a3 : Int32} {a4 : Int32} {s : S2} {res : S2 × Bool} {Q : S2 → Option MV → Prop} (h : f_Charts_add a1 a2 a3 a4 s = some res) (hQ : Q res.1 (some (mI (bI res.2)))) : kcall (O3 xs L) (d + 1) k_Charts_add [mR 49 0, mI a1, mI a2, mI a3, mI a4] s Q := by
  refine kc_of (cd := kd_Charts_add) (mx := 5) (rt := 2) rfl rfl ?_
  intro P hP
  refine mgo_sound hP [] 260 _ _ _ _ _ ?_
  refine go_br (fun hc : (s.1 49 0 8) < (Int32.ofInt 20) => ?_) (fun hc : ¬ ((s.1 49 0 8) < (Int32.ofInt 20)) => ?_)
  · replace h := (if_pos hc).symm.trans h
    obtain ⟨j2, hj, h⟩ := bnd h
    replace h := bnds h
    refine go_ix j2 (ix_lt hj) (ix_eq hj) ?_
    obtain ⟨j4, hj, h⟩ := bnd h
    replace h := bnds h
    refine go_ix j4 (ix_lt hj) (ix_eq hj) ?_
    obtain ⟨j6, hj, h⟩ := bnd h
    replace h := bnds h
    refine go_ix j6 (ix_lt hj) (ix_eq hj) ?_
    obtain ⟨j8, hj, h⟩ := bnd h
    replace h := bnds h
    refine go_ix j8 (ix_lt hj) (ix_eq hj) ?_
    replace h := bnds h
    cases h
    exact ⟨Or.inr rfl, hQ⟩
  · replace h := (if_neg hc).symm.trans h
    cases h
    exact ⟨Or.inl rfl, hQ⟩
/-! Course_drawBySet -/
def f_Course_drawBySet (a1 : Int32) (s : S2) : Option S2 := ((some (pkS s 31 0 12 a1)).bind fun s1 => ((some (pkS s1 31 0 13 (Int32.ofInt 0))).bind fun s2 => some s2))
theorem c_Course_drawBySet {xs : Nat → Int32} {L d : Nat} {a1 : Int32} {s : S2} {res : S2} {Q : S2 → Option MV → Prop} (h : f_Course_drawBySet a1 s = some res) (hQ : Q res none) : kcall (O3 xs L) (d + 1) k_Course_drawBySet [mR 31 0, mI a1] s Q := by
  refine kc_of (cd := kd_Course_drawBySet) (mx := 2) (rt := 0) rfl rfl ?_
  intro P hP
  refine mgo_sound hP [] 260 _ _ _ _ _ ?_
  replace h := bnds h
  replace h := bnds h
  cases h
  exact hQ
/-! Charts_areSoBehind -/
def f_Charts_areSoBehind_L66 (k2 : Int32 → Int32 → S2 → Option Bool) (x1 : Int32) (x2 : Int32) (s : S2) : Option Bool := (k2 x1 (x2 + (Int32.ofInt 1)) s)
def b_Charts_areSoBehind_L2 (k2 : Int32 → Int32 → S2 → Option Bool) (x1 : Int32) (x2 : Int32) (s : S2) : Option Bool := (if (s.1 49 0 8) ≤ x2 then some true else ((ix 20 x2).bind fun j1 => (if (s.1 50 0 j1) = x1 then ((ix 20 x2).bind fun j2 => ((f_State_xOf 4 (s.1 51 0 j2) s).bind fun q3 => ((ix 20 x2).bind fun j4 => (if q3 = (s.1 52 0 j4) then ((ix 20 x2).bind fun j5 => ((f_State_yOf 4 (s.1 51 0 j5) s).bind fun q6 => ((ix 20 x2).bind fun j7 => (if q6 = (s.1 53 0 j7) then (f_Charts_areSoBehind_L66 k2 x1 x2 s) else some false)))) else some false)))) else (f_Charts_areSoBehind_L66 k2 x1 x2 s))))
def f_Charts_areSoBehind_L2 : Nat → Int32 → Int32 → S2 → Option Bool
  | 0 => fun _ _ _ => none
  | n + 1 => b_Charts_areSoBehind_L2 (f_Charts_areSoBehind_L2 n)
def f_Charts_areSoBehind (a1 : Int32) (s : S2) : Option Bool := (f_Charts_areSoBehind_L2 FU a1 (Int32.ofInt 0) s)
theorem c_Charts_areSoBehind_L66 {xs : Nat → Int32} {L d : Nat} {P : MK S2} {Q : S2 → Option MV → Prop} {res : Bool} {s : S2} (hP : MClosed (O3 xs L) (kcall (O3 xs L) (d + 1)) kd_Charts_areSoBehind 2 Q P) (hQ : Q s (some (mI (bI res)))) {k2 : Int32 → Int32 → S2 → Option Bool} (hk2 : ∀ (x1 : Int32) (x2 : Int32), k2 x1 x2 s = some res → P 2 [some (mR 49 0), some (mI x1), some (mI x2)] [] s (0, 0)) (x1 : Int32) (x2 : Int32) (h : f_Charts_areSoBehind_L66 k2 x1 x2 s = some res) : P 66 [some (mR 49 0), some (mI x1), some (mI x2)] [] s (0, 0) := by
  refine mgo_from hP [2, 66] 260 ?_
  exact hk2 _ _ h
set_option maxRecDepth 20000 in
set_option maxHeartbeats 4000000 in
theorem cb_Charts_areSoBehind_L2 {xs : Nat → Int32} {L d : Nat} {P : MK S2} {Q : S2 → Option MV → Prop} {res : Bool} {s : S2} (hP : MClosed (O3 xs L) (kcall (O3 xs L) (d + 1)) kd_Charts_areSoBehind 2 Q P) (hQ : Q s (some (mI (bI res)))) {k2 : Int32 → Int32 → S2 → Option Bool} (hk2 : ∀ (x1 : Int32) (x2 : Int32), k2 x1 x2 s = some res → P 2 [some (mR 49 0), some (mI x1), some (mI x2)] [] s (0, 0)) (x1 : Int32) (x2 : Int32) (h : b_Charts_areSoBehind_L2 k2 x1 x2 s = some res) : P 2 [some (mR 49 0), some (mI x1), some (mI x2)] [] s (0, 0) := by
  refine mgo_from hP [2, 66] 260 ?_
  refine go_br (fun hc : (s.1 49 0 8) ≤ x2 => ?_) (fun hc : ¬ ((s.1 49 0 8) ≤ x2) => ?_)
  · replace h := (if_pos hc).symm.trans h
    cases h
    exact ⟨Or.inr rfl, hQ⟩
  · replace h := (if_neg hc).symm.trans h
    obtain ⟨j1, hj, h⟩ := bnd h
    refine go_ix j1 (ix_lt hj) (ix_eq hj) ?_
    refine go_brn (fun hc : ¬ ((s.1 50 0 j1) = x1) => ?_) (fun hc : (s.1 50 0 j1) = x1 => ?_)
    · replace h := (if_neg hc).symm.trans h
      exact c_Charts_areSoBehind_L66 hP hQ hk2 _ _ h
    · replace h := (if_pos hc).symm.trans h
      obtain ⟨j2, hj, h⟩ := bnd h
      refine go_ix j2 (ix_lt hj) (ix_eq hj) ?_
      obtain ⟨q3, hq, h⟩ := bnd h
      refine go_call (fun _ hw => c_State_xOf hq hw) ?_
      obtain ⟨j4, hj, h⟩ := bnd h
      refine go_ix j4 (ix_lt hj) (ix_eq hj) ?_
      refine go_brn (fun hc : ¬ (q3 = (s.1 52 0 j4)) => ?_) (fun hc : q3 = (s.1 52 0 j4) => ?_)
      · replace h := (if_neg hc).symm.trans h
        cases h
        exact ⟨Or.inl rfl, hQ⟩
      · replace h := (if_pos hc).symm.trans h
        obtain ⟨j5, hj, h⟩ := bnd h
        refine go_ix j5 (ix_lt hj) (ix_eq hj) ?_
        obtain ⟨q6, hq, h⟩ := bnd h
        refine go_call (fun _ hw => c_State_yOf hq hw) ?_
        obtain ⟨j7, hj, h⟩ := bnd h
        refine go_ix j7 (ix_lt hj) (ix_eq hj) ?_
        refine go_br (fun hc : q6 = (s.1 53 0 j7) => ?_) (fun hc : ¬ (q6 = (s.1 53 0 j7)) => ?_)
        · replace h := (if_pos hc).symm.trans h
          exact c_Charts_areSoBehind_L66 hP hQ hk2 _ _ h
        · replace h := (if_neg hc).symm.trans h
          cases h
          exact ⟨Or.inl rfl, hQ⟩
theorem c_Charts_areSoBehind_L2 {xs : Nat → Int32} {L d : Nat} {P : MK S2} {Q : S2 → Option MV → Prop} {res : Bool} {s : S2} (hP : MClosed (O3 xs L) (kcall (O3 xs L) (d + 1)) kd_Charts_areSoBehind 2 Q P) (hQ : Q s (some (mI (bI res)))) : ∀ (fu : Nat) (x1 : Int32) (x2 : Int32), f_Charts_areSoBehind_L2 fu x1 x2 s = some res → P 2 [some (mR 49 0), some (mI x1), some (mI x2)] [] s (0, 0)
  | 0, _, _, h => by cases h
  | fu + 1, x1, x2, h => cb_Charts_areSoBehind_L2 hP hQ (c_Charts_areSoBehind_L2 hP hQ fu) x1 x2 h
theorem c_Charts_areSoBehind {xs : Nat → Int32} {L d : Nat} {a1 : Int32} {s : S2} {res : Bool} {Q : S2 → Option MV → Prop} (h : f_Charts_areSoBehind a1 s = some res) (hQ : Q s (some (mI (bI res)))) : kcall (O3 xs L) (d + 2) k_Charts_areSoBehind [mR 49 0, mI a1] s Q := by
  refine kc_of (cd := kd_Charts_areSoBehind) (mx := 3) (rt := 2) rfl rfl ?_
  intro P hP
  refine mgo_sound hP [2, 66] 260 _ _ _ _ _ ?_
  exact c_Charts_areSoBehind_L2 hP hQ FU _ _ h
/-! State_seenFrom -/
def f_State_seenFrom_L45 (r0 : Nat) (k5 : Int32 → Int32 → Int32 → Int32 → S2 → Option Int32) (x1 : Int32) (x2 : Int32) (x3 : Int32) (x4 : Int32) (s : S2) : Option Int32 := (k5 x1 x2 x3 (x4 + (Int32.ofInt 1)) s)
def b_State_seenFrom_L5 (r0 : Nat) (k5 : Int32 → Int32 → Int32 → Int32 → S2 → Option Int32) (x1 : Int32) (x2 : Int32) (x3 : Int32) (x4 : Int32) (s : S2) : Option Int32 := (if (Int32.ofInt 6) ≤ x4 then some x3 else (if x4 = x1 then (f_State_seenFrom_L45 r0 k5 x1 x2 x3 x4 s) else ((f_State_isHead r0 x4 s).bind fun q1 => (if (bI q1) = 0 then (f_State_seenFrom_L45 r0 k5 x1 x2 x3 x4 s) else ((f_State_apart r0 x1 x4 s).bind fun q2 => (if x2 < q2 then (f_State_seenFrom_L45 r0 k5 x1 x2 x3 x4 s) else (f_State_seenFrom_L45 r0 k5 x1 x2 (x3 ||| ((Int32.ofInt 1) <<< (x4 &&& 31))) x4 s)))))))
def f_State_seenFrom_L5 (r0 : Nat) : Nat → Int32 → Int32 → Int32 → Int32 → S2 → Option Int32
  | 0 => fun _ _ _ _ _ => none
  | n + 1 => b_State_seenFrom_L5 r0 (f_State_seenFrom_L5 r0 n)
def f_State_seenFrom (r0 : Nat) (a1 : Int32) (a2 : Int32) (s : S2) : Option Int32 := (f_State_seenFrom_L5 r0 FU a1 a2 (Int32.ofInt 0) (Int32.ofInt 0) s)
theorem c_State_seenFrom_L45 {xs : Nat → Int32} {L d : Nat} {r0 : Nat} {P : MK S2} {Q : S2 → Option MV → Prop} {res : Int32} {s : S2} (hP : MClosed (O3 xs L) (kcall (O3 xs L) (d + 1)) kd_State_seenFrom 1 Q P) (hQ : Q s (some (mI res))) {k5 : Int32 → Int32 → Int32 → Int32 → S2 → Option Int32} (hk5 : ∀ (x1 : Int32) (x2 : Int32) (x3 : Int32) (x4 : Int32), k5 x1 x2 x3 x4 s = some res → P 5 [some (mR 20 r0), some (mI x1), some (mI x2), some (mI x3), some (mI x4)] [] s (0, 0)) (x1 : Int32) (x2 : Int32) (x3 : Int32) (x4 : Int32) (h : f_State_seenFrom_L45 r0 k5 x1 x2 x3 x4 s = some res) : P 45 [some (mR 20 r0), some (mI x1), some (mI x2), some (mI x3), some (mI x4)] [] s (0, 0) := by
  refine mgo_from hP [5, 45] 260 ?_
  exact hk5 _ _ _ _ h
theorem cb_State_seenFrom_L5 {xs : Nat → Int32} {L d : Nat} {r0 : Nat} {P : MK S2} {Q : S2 → Option MV → Prop} {res : Int32} {s : S2} (hP : MClosed (O3 xs L) (kcall (O3 xs L) (d + 1)) kd_State_seenFrom 1 Q P) (hQ : Q s (some (mI res))) {k5 : Int32 → Int32 → Int32 → Int32 → S2 → Option Int32} (hk5 : ∀ (x1 : Int32) (x2 : Int32) (x3 : Int32) (x4 : Int32), k5 x1 x2 x3 x4 s = some res → P 5 [some (mR 20 r0), some (mI x1), some (mI x2), some (mI x3), some (mI x4)] [] s (0, 0)) (x1 : Int32) (x2 : Int32) (x3 : Int32) (x4 : Int32) (h : b_State_seenFrom_L5 r0 k5 x1 x2 x3 x4 s = some res) : P 5 [some (mR 20 r0), some (mI x1), some (mI x2), some (mI x3), some (mI x4)] [] s (0, 0) := by
  refine mgo_from hP [5, 45] 260 ?_
  refine go_br (fun hc : (Int32.ofInt 6) ≤ x4 => ?_) (fun hc : ¬ ((Int32.ofInt 6) ≤ x4) => ?_)
  · replace h := (if_pos hc).symm.trans h
    cases h
    exact hQ
  · replace h := (if_neg hc).symm.trans h
    refine go_br (fun hc : x4 = x1 => ?_) (fun hc : ¬ (x4 = x1) => ?_)
    · replace h := (if_pos hc).symm.trans h
      exact c_State_seenFrom_L45 hP hQ hk5 _ _ _ _ h
    · replace h := (if_neg hc).symm.trans h
      obtain ⟨q1, hq, h⟩ := bnd h
      refine go_call (fun _ hw => c_State_isHead hq hw) ?_
      refine go_br (fun hc : (bI q1) = 0 => ?_) (fun hc : ¬ ((bI q1) = 0) => ?_)
      · replace h := (if_pos hc).symm.trans h
        exact c_State_seenFrom_L45 hP hQ hk5 _ _ _ _ h
      · replace h := (if_neg hc).symm.trans h
        obtain ⟨q2, hq, h⟩ := bnd h
        refine go_call (fun _ hw => c_State_apart hq hw) ?_
        refine go_br (fun hc : x2 < q2 => ?_) (fun hc : ¬ (x2 < q2) => ?_)
        · replace h := (if_pos hc).symm.trans h
          exact c_State_seenFrom_L45 hP hQ hk5 _ _ _ _ h
        · replace h := (if_neg hc).symm.trans h
          exact c_State_seenFrom_L45 hP hQ hk5 _ _ _ _ h
theorem c_State_seenFrom_L5 {xs : Nat → Int32} {L d : Nat} {r0 : Nat} {P : MK S2} {Q : S2 → Option MV → Prop} {res : Int32} {s : S2} (hP : MClosed (O3 xs L) (kcall (O3 xs L) (d + 1)) kd_State_seenFrom 1 Q P) (hQ : Q s (some (mI res))) : ∀ (fu : Nat) (x1 : Int32) (x2 : Int32) (x3 : Int32) (x4 : Int32), f_State_seenFrom_L5 r0 fu x1 x2 x3 x4 s = some res → P 5 [some (mR 20 r0), some (mI x1), some (mI x2), some (mI x3), some (mI x4)] [] s (0, 0)
  | 0, _, _, _, _, h => by cases h
  | fu + 1, x1, x2, x3, x4, h => cb_State_seenFrom_L5 hP hQ (c_State_seenFrom_L5 hP hQ fu) x1 x2 x3 x4 h
theorem c_State_seenFrom {xs : Nat → Int32} {L d : Nat} {r0 : Nat} {a1 : Int32} {a2 : Int32} {s : S2} {res : Int32} {Q : S2 → Option MV → Prop} (h : f_State_seenFrom r0 a1 a2 s = some res) (hQ : Q s (some (mI res))) : kcall (O3 xs L) (d + 2) k_State_seenFrom [mR 20 r0, mI a1, mI a2] s Q := by
  refine kc_of (cd := kd_State_seenFrom) (mx := 5) (rt := 1) rfl rfl ?_
  intro P hP
  refine mgo_sound hP [5, 45] 260 _ _ _ _ _ ?_
  exact c_State_seenFrom_L5 hP hQ FU _ _ _ _ h
