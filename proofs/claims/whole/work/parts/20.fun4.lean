/-! M_unit -/
def b_M_goOnAnd_L0 (g_M_unit : S2 → Option S2) (k0 : S2 → Option S2) (s : S2) : Option S2 := (if (s.1 60 0 4) = (Int32.ofInt (-1)) then ((f_M_look s).bind fun q1 => (if q1.2 = (Int32.ofInt 38) then ((some (pkS q1.1 60 0 3 ((q1.1.1 60 0 3) + (Int32.ofInt 1)))).bind fun s2 => ((g_M_unit s2).bind fun q3 => ((f_M_put (Int32.ofInt 10) (Int32.ofInt 0) q3).bind fun q4 => (k0 q4)))) else some q1.1)) else some s)
def f_M_goOnAnd_L0 (g_M_unit : S2 → Option S2) : Nat → S2 → Option S2
  | 0 => fun _ => none
  | n + 1 => b_M_goOnAnd_L0 g_M_unit (f_M_goOnAnd_L0 g_M_unit n)
def f_M_goOnAnd (g_M_unit : S2 → Option S2) (s : S2) : Option S2 := (f_M_goOnAnd_L0 g_M_unit FU s)
def b_M_goOnOr_L0 (g_M_unit : S2 → Option S2) (k0 : S2 → Option S2) (s : S2) : Option S2 := (if (s.1 60 0 4) = (Int32.ofInt (-1)) then ((f_M_look s).bind fun q1 => (if q1.2 = (Int32.ofInt 124) then ((some (pkS q1.1 60 0 3 ((q1.1.1 60 0 3) + (Int32.ofInt 1)))).bind fun s2 => ((g_M_unit s2).bind fun q3 => ((f_M_goOnAnd g_M_unit q3).bind fun q4 => ((f_M_put (Int32.ofInt 11) (Int32.ofInt 0) q4).bind fun q5 => (k0 q5))))) else some q1.1)) else some s)
def f_M_goOnOr_L0 (g_M_unit : S2 → Option S2) : Nat → S2 → Option S2
  | 0 => fun _ => none
  | n + 1 => b_M_goOnOr_L0 g_M_unit (f_M_goOnOr_L0 g_M_unit n)
def f_M_goOnOr (g_M_unit : S2 → Option S2) (s : S2) : Option S2 := (f_M_goOnOr_L0 g_M_unit FU s)
def f_M_condition (g_M_unit : S2 → Option S2) (s : S2) : Option S2 := ((g_M_unit s).bind fun q1 => ((f_M_goOnAnd g_M_unit q1).bind fun q2 => ((f_M_goOnOr g_M_unit q2).bind fun q3 => some q3)))
def fb_M_unit (g_M_unit : S2 → Option S2) (s : S2) : Option S2 := ((f_M_look s).bind fun q1 => (if q1.2 = (Int32.ofInt 33) then ((f_M_opens q1.1).bind fun q7 => (if (q7.1 60 0 4) = (Int32.ofInt (-1)) then ((g_M_unit q7).bind fun q8 => ((f_M_put (Int32.ofInt 9) (Int32.ofInt 0) q8).bind fun q9 => ((some (pkS q9 60 0 5 ((q9.1 60 0 5) - (Int32.ofInt 1)))).bind fun s10 => some s10))) else some q7)) else (if q1.2 = (Int32.ofInt 40) then ((f_M_opens q1.1).bind fun q4 => (if (q4.1 60 0 4) = (Int32.ofInt (-1)) then ((f_M_condition g_M_unit q4).bind fun q5 => ((f_M_closes (Int32.ofInt 41) q5).bind fun q6 => some q6)) else some q4)) else ((f_M_sum 9 q1.1).bind fun q2 => (if (q2.1 60 0 4) = (Int32.ofInt (-1)) then ((f_M_compare q2).bind fun q3 => some q3) else some q2)))))
def f_M_unit : Nat → S2 → Option S2
  | 0 => fun _ => none
  | n + 1 => fb_M_unit (f_M_unit n)
theorem cb_M_goOnAnd_L0 {xs : Nat → Int32} {L d : Nat} {g_M_unit : S2 → Option S2} {P : MK S2} {Q : S2 → Option MV → Prop} {res : S2} (hP : MClosed (O3 xs L) (kcall (O3 xs L) (d + 189)) kd_M_goOnAnd 0 Q P) (hQ : Q res none) (hg_M_unit : ∀ {e : Nat}, d + 189 ≤ e → ∀  (s : S2) {res : S2} {Q : S2 → Option MV → Prop}, g_M_unit  s = some res → Q res none → kcall (O3 xs L) e k_M_unit [mR 60 0] s Q) {k0 : S2 → Option S2} (hk0 : ∀ (s : S2), k0 s = some res → P 0 [some (mR 60 0)] [] s (0, 0)) (s : S2) (h : b_M_goOnAnd_L0 g_M_unit k0 s = some res) : P 0 [some (mR 60 0)] [] s (0, 0) := by
  refine mgo_from hP [0] 260 ?_
  refine go_brn (fun hc : ¬ ((s.1 60 0 4) = (Int32.ofInt (-1))) => ?_) (fun hc : (s.1 60 0 4) = (Int32.ofInt (-1)) => ?_)
  · replace h := (if_neg hc).symm.trans h
    cases h
    exact hQ
  · replace h := (if_pos hc).symm.trans h
    obtain ⟨q1, hq, h⟩ := bnd h
    refine go_call (fun _ hw => c_M_look hq hw) ?_
    refine go_brn (fun hc : ¬ (q1.2 = (Int32.ofInt 38)) => ?_) (fun hc : q1.2 = (Int32.ofInt 38) => ?_)
    · replace h := (if_neg hc).symm.trans h
      cases h
      exact hQ
    · replace h := (if_pos hc).symm.trans h
      replace h := bnds h
      obtain ⟨q3, hq, h⟩ := bnd h
      refine go_call (fun _ hw => hg_M_unit (by omega) _ hq hw) ?_
      obtain ⟨q4, hq, h⟩ := bnd h
      refine go_call (fun _ hw => c_M_put hq hw) ?_
      exact hk0 _ h
theorem c_M_goOnAnd_L0 {xs : Nat → Int32} {L d : Nat} {g_M_unit : S2 → Option S2} {P : MK S2} {Q : S2 → Option MV → Prop} {res : S2} (hP : MClosed (O3 xs L) (kcall (O3 xs L) (d + 189)) kd_M_goOnAnd 0 Q P) (hQ : Q res none) (hg_M_unit : ∀ {e : Nat}, d + 189 ≤ e → ∀  (s : S2) {res : S2} {Q : S2 → Option MV → Prop}, g_M_unit  s = some res → Q res none → kcall (O3 xs L) e k_M_unit [mR 60 0] s Q) : ∀ (fu : Nat) (s : S2), f_M_goOnAnd_L0 g_M_unit fu s = some res → P 0 [some (mR 60 0)] [] s (0, 0)
  | 0, _, h => by cases h
  | fu + 1, s, h => cb_M_goOnAnd_L0 hP hQ hg_M_unit (c_M_goOnAnd_L0 hP hQ hg_M_unit fu) s h
theorem c_M_goOnAnd {xs : Nat → Int32} {L d : Nat} {g_M_unit : S2 → Option S2} {s : S2} {res : S2} {Q : S2 → Option MV → Prop} (hg_M_unit : ∀ {e : Nat}, d + 189 ≤ e → ∀  (s : S2) {res : S2} {Q : S2 → Option MV → Prop}, g_M_unit  s = some res → Q res none → kcall (O3 xs L) e k_M_unit [mR 60 0] s Q) (h : f_M_goOnAnd g_M_unit s = some res) (hQ : Q res none) : kcall (O3 xs L) (d + 190) k_M_goOnAnd [mR 60 0] s Q := by
  refine kc_of (cd := kd_M_goOnAnd) (mx := 1) (rt := 0) rfl rfl ?_
  intro P hP
  refine mgo_sound hP [0] 260 _ _ _ _ _ ?_
  exact c_M_goOnAnd_L0 hP hQ hg_M_unit FU _ h
theorem cb_M_goOnOr_L0 {xs : Nat → Int32} {L d : Nat} {g_M_unit : S2 → Option S2} {P : MK S2} {Q : S2 → Option MV → Prop} {res : S2} (hP : MClosed (O3 xs L) (kcall (O3 xs L) (d + 190)) kd_M_goOnOr 0 Q P) (hQ : Q res none) (hg_M_unit : ∀ {e : Nat}, d + 189 ≤ e → ∀  (s : S2) {res : S2} {Q : S2 → Option MV → Prop}, g_M_unit  s = some res → Q res none → kcall (O3 xs L) e k_M_unit [mR 60 0] s Q) {k0 : S2 → Option S2} (hk0 : ∀ (s : S2), k0 s = some res → P 0 [some (mR 60 0)] [] s (0, 0)) (s : S2) (h : b_M_goOnOr_L0 g_M_unit k0 s = some res) : P 0 [some (mR 60 0)] [] s (0, 0) := by
  refine mgo_from hP [0] 260 ?_
  refine go_brn (fun hc : ¬ ((s.1 60 0 4) = (Int32.ofInt (-1))) => ?_) (fun hc : (s.1 60 0 4) = (Int32.ofInt (-1)) => ?_)
  · replace h := (if_neg hc).symm.trans h
    cases h
    exact hQ
  · replace h := (if_pos hc).symm.trans h
    obtain ⟨q1, hq, h⟩ := bnd h
    refine go_call (fun _ hw => c_M_look hq hw) ?_
    refine go_brn (fun hc : ¬ (q1.2 = (Int32.ofInt 124)) => ?_) (fun hc : q1.2 = (Int32.ofInt 124) => ?_)
    · replace h := (if_neg hc).symm.trans h
      cases h
      exact hQ
    · replace h := (if_pos hc).symm.trans h
      replace h := bnds h
      obtain ⟨q3, hq, h⟩ := bnd h
      refine go_call (fun _ hw => hg_M_unit (by omega) _ hq hw) ?_
      obtain ⟨q4, hq, h⟩ := bnd h
      refine go_call (fun _ hw => c_M_goOnAnd (fun he => hg_M_unit (by omega)) hq hw) ?_
      obtain ⟨q5, hq, h⟩ := bnd h
      refine go_call (fun _ hw => c_M_put hq hw) ?_
      exact hk0 _ h
theorem c_M_goOnOr_L0 {xs : Nat → Int32} {L d : Nat} {g_M_unit : S2 → Option S2} {P : MK S2} {Q : S2 → Option MV → Prop} {res : S2} (hP : MClosed (O3 xs L) (kcall (O3 xs L) (d + 190)) kd_M_goOnOr 0 Q P) (hQ : Q res none) (hg_M_unit : ∀ {e : Nat}, d + 189 ≤ e → ∀  (s : S2) {res : S2} {Q : S2 → Option MV → Prop}, g_M_unit  s = some res → Q res none → kcall (O3 xs L) e k_M_unit [mR 60 0] s Q) : ∀ (fu : Nat) (s : S2), f_M_goOnOr_L0 g_M_unit fu s = some res → P 0 [some (mR 60 0)] [] s (0, 0)
  | 0, _, h => by cases h
  | fu + 1, s, h => cb_M_goOnOr_L0 hP hQ hg_M_unit (c_M_goOnOr_L0 hP hQ hg_M_unit fu) s h
theorem c_M_goOnOr {xs : Nat → Int32} {L d : Nat} {g_M_unit : S2 → Option S2} {s : S2} {res : S2} {Q : S2 → Option MV → Prop} (hg_M_unit : ∀ {e : Nat}, d + 189 ≤ e → ∀  (s : S2) {res : S2} {Q : S2 → Option MV → Prop}, g_M_unit  s = some res → Q res none → kcall (O3 xs L) e k_M_unit [mR 60 0] s Q) (h : f_M_goOnOr g_M_unit s = some res) (hQ : Q res none) : kcall (O3 xs L) (d + 191) k_M_goOnOr [mR 60 0] s Q := by
  refine kc_of (cd := kd_M_goOnOr) (mx := 1) (rt := 0) rfl rfl ?_
  intro P hP
  refine mgo_sound hP [0] 260 _ _ _ _ _ ?_
  exact c_M_goOnOr_L0 hP hQ hg_M_unit FU _ h
theorem c_M_condition {xs : Nat → Int32} {L d : Nat} {g_M_unit : S2 → Option S2} {s : S2} {res : S2} {Q : S2 → Option MV → Prop} (hg_M_unit : ∀ {e : Nat}, d + 189 ≤ e → ∀  (s : S2) {res : S2} {Q : S2 → Option MV → Prop}, g_M_unit  s = some res → Q res none → kcall (O3 xs L) e k_M_unit [mR 60 0] s Q) (h : f_M_condition g_M_unit s = some res) (hQ : Q res none) : kcall (O3 xs L) (d + 192) k_M_condition [mR 60 0] s Q := by
  refine kc_of (cd := kd_M_condition) (mx := 1) (rt := 0) rfl rfl ?_
  intro P hP
  refine mgo_sound hP [] 260 _ _ _ _ _ ?_
  obtain ⟨q1, hq, h⟩ := bnd h
  refine go_call (fun _ hw => hg_M_unit (by omega) _ hq hw) ?_
  obtain ⟨q2, hq, h⟩ := bnd h
  refine go_call (fun _ hw => c_M_goOnAnd (fun he => hg_M_unit (by omega)) hq hw) ?_
  obtain ⟨q3, hq, h⟩ := bnd h
  refine go_call (fun _ hw => c_M_goOnOr (fun he => hg_M_unit (by omega)) hq hw) ?_
  cases h
  exact hQ
set_option maxRecDepth 20000 in
set_option maxHeartbeats 4000000 in
theorem cb_M_unit {xs : Nat → Int32} {L d : Nat} {g_M_unit : S2 → Option S2} {s : S2} {res : S2} {Q : S2 → Option MV → Prop} (hg_M_unit : ∀ {e : Nat}, d + 189 ≤ e → ∀  (s : S2) {res : S2} {Q : S2 → Option MV → Prop}, g_M_unit  s = some res → Q res none → kcall (O3 xs L) e k_M_unit [mR 60 0] s Q) (h : fb_M_unit g_M_unit s = some res) (hQ : Q res none) : kcall (O3 xs L) (d + 193) k_M_unit [mR 60 0] s Q := by
  refine kc_of (cd := kd_M_unit) (mx := 2) (rt := 0) rfl rfl ?_
  intro P hP
  refine mgo_sound hP [] 260 _ _ _ _ _ ?_
  obtain ⟨q1, hq, h⟩ := bnd h
  refine go_call (fun _ hw => c_M_look hq hw) ?_
  refine go_brn (fun hc : ¬ (q1.2 = (Int32.ofInt 33)) => ?_) (fun hc : q1.2 = (Int32.ofInt 33) => ?_)
  · replace h := (if_neg hc).symm.trans h
    refine go_brn (fun hc : ¬ (q1.2 = (Int32.ofInt 40)) => ?_) (fun hc : q1.2 = (Int32.ofInt 40) => ?_)
    · replace h := (if_neg hc).symm.trans h
      obtain ⟨q2, hq, h⟩ := bnd h
      refine go_call (fun _ hw => c_M_sum hq hw) ?_
      refine go_brn (fun hc : ¬ ((q2.1 60 0 4) = (Int32.ofInt (-1))) => ?_) (fun hc : (q2.1 60 0 4) = (Int32.ofInt (-1)) => ?_)
      · replace h := (if_neg hc).symm.trans h
        cases h
        exact hQ
      · replace h := (if_pos hc).symm.trans h
        obtain ⟨q3, hq, h⟩ := bnd h
        refine go_call (fun _ hw => c_M_compare hq hw) ?_
        cases h
        exact hQ
    · replace h := (if_pos hc).symm.trans h
      obtain ⟨q4, hq, h⟩ := bnd h
      refine go_call (fun _ hw => c_M_opens hq hw) ?_
      refine go_brn (fun hc : ¬ ((q4.1 60 0 4) = (Int32.ofInt (-1))) => ?_) (fun hc : (q4.1 60 0 4) = (Int32.ofInt (-1)) => ?_)
      · replace h := (if_neg hc).symm.trans h
        cases h
        exact hQ
      · replace h := (if_pos hc).symm.trans h
        obtain ⟨q5, hq, h⟩ := bnd h
        refine go_call (fun _ hw => c_M_condition (fun he => hg_M_unit (by omega)) hq hw) ?_
        obtain ⟨q6, hq, h⟩ := bnd h
        refine go_call (fun _ hw => c_M_closes hq hw) ?_
        cases h
        exact hQ
  · replace h := (if_pos hc).symm.trans h
    obtain ⟨q7, hq, h⟩ := bnd h
    refine go_call (fun _ hw => c_M_opens hq hw) ?_
    refine go_brn (fun hc : ¬ ((q7.1 60 0 4) = (Int32.ofInt (-1))) => ?_) (fun hc : (q7.1 60 0 4) = (Int32.ofInt (-1)) => ?_)
    · replace h := (if_neg hc).symm.trans h
      cases h
      exact hQ
    · replace h := (if_pos hc).symm.trans h
      obtain ⟨q8, hq, h⟩ := bnd h
      refine go_call (fun _ hw => hg_M_unit (by omega) _ hq hw) ?_
      obtain ⟨q9, hq, h⟩ := bnd h
      refine go_call (fun _ hw => c_M_put hq hw) ?_
      replace h := bnds h
      cases h
      exact hQ
theorem cn_M_unit {xs : Nat → Int32} {L : Nat} : ∀ (n : Nat) {e : Nat}, n * 20 + 193 ≤ e → ∀ (s : S2) {res : S2} {Q : S2 → Option MV → Prop}, f_M_unit n s = some res → Q res none → kcall (O3 xs L) e k_M_unit [mR 60 0] s Q
  | 0, _, _, _, _, _, h, _ => by cases h
  | n + 1, e, he, s, res, Q, h, hQ => by
    obtain ⟨d, rfl⟩ : ∃ d, e = d + 193 := ⟨e - 193, by omega⟩
    exact cb_M_unit (fun {e} he => cn_M_unit n (by omega)) h hQ
theorem c_M_unit {xs : Nat → Int32} {L d : Nat} {s : S2} {res : S2} {Q : S2 → Option MV → Prop} (h : f_M_unit 9 s = some res) (hQ : Q res none) : kcall (O3 xs L) (d + 373) k_M_unit [mR 60 0] s Q := cn_M_unit 9 (by omega) _ h hQ
/-! M_atEnd -/
def f_M_atEnd_L20 (s : S2) : Option (S2 × Int32) := some (s, (s.1 60 0 4))
def f_M_atEnd (s : S2) : Option (S2 × Int32) := (if (s.1 60 0 4) = (Int32.ofInt (-1)) then ((f_M_look s).bind fun q1 => (if q1.2 = (Int32.ofInt (-1)) then (f_M_atEnd_L20 q1.1) else ((f_M_bad q1.1).bind fun q2 => (f_M_atEnd_L20 q2)))) else (f_M_atEnd_L20 s))
theorem c_M_atEnd_L20 {xs : Nat → Int32} {L d : Nat} {P : MK S2} {Q : S2 → Option MV → Prop} {res : S2 × Int32} (hP : MClosed (O3 xs L) (kcall (O3 xs L) (d + 2)) kd_M_atEnd 1 Q P) (hQ : Q res.1 (some (mI res.2))) (s : S2) (h : f_M_atEnd_L20 s = some res) : P 20 [some (mR 60 0)] [] s (0, 0) := by
  refine mgo_from hP [20] 260 ?_
  cases h
  exact hQ
theorem c_M_atEnd {xs : Nat → Int32} {L d : Nat} {s : S2} {res : S2 × Int32} {Q : S2 → Option MV → Prop} (h : f_M_atEnd s = some res) (hQ : Q res.1 (some (mI res.2))) : kcall (O3 xs L) (d + 3) k_M_atEnd [mR 60 0] s Q := by
  refine kc_of (cd := kd_M_atEnd) (mx := 1) (rt := 1) rfl rfl ?_
  intro P hP
  refine mgo_sound hP [20] 260 _ _ _ _ _ ?_
  refine go_brn (fun hc : ¬ ((s.1 60 0 4) = (Int32.ofInt (-1))) => ?_) (fun hc : (s.1 60 0 4) = (Int32.ofInt (-1)) => ?_)
  · replace h := (if_neg hc).symm.trans h
    exact c_M_atEnd_L20 hP hQ _ h
  · replace h := (if_pos hc).symm.trans h
    obtain ⟨q1, hq, h⟩ := bnd h
    refine go_call (fun _ hw => c_M_look hq hw) ?_
    refine go_br (fun hc : q1.2 = (Int32.ofInt (-1)) => ?_) (fun hc : ¬ (q1.2 = (Int32.ofInt (-1))) => ?_)
    · replace h := (if_pos hc).symm.trans h
      exact c_M_atEnd_L20 hP hQ _ h
    · replace h := (if_neg hc).symm.trans h
      obtain ⟨q2, hq, h⟩ := bnd h
      refine go_call (fun _ hw => c_M_bad hq hw) ?_
      exact c_M_atEnd_L20 hP hQ _ h
/-! M_isle -/
def f_M_isle_L24 (x1 : Int32) (x2 : Int32) (y1 : Int32) (s : S2) : Option (S2 × Int32) := ((some (pkS s 60 0 0 y1)).bind fun s1 => (if (s1.1 60 0 0) = (Int32.ofInt 1) then some (s1, (Int32.ofInt 0)) else (if x2 = (Int32.ofInt 0) then ((ix 6 x1).bind fun j2 => ((ix 6 (s1.1 82 0 j2)).bind fun j3 => some (s1, (s1.1 79 0 j3)))) else (if x2 = (Int32.ofInt 1) then ((ix 6 x1).bind fun j4 => ((ix 6 (s1.1 82 0 j4)).bind fun j5 => some (s1, (s1.1 80 0 j5)))) else (if x2 = (Int32.ofInt 2) then ((ix 6 x1).bind fun j6 => ((ix 6 (s1.1 82 0 j6)).bind fun j7 => some (s1, (s1.1 81 0 j7)))) else (if x2 = (Int32.ofInt 3) then ((ix 6 x1).bind fun j8 => some (s1, (s1.1 82 0 j8))) else (if x2 = (Int32.ofInt 4) then ((ix 6 x1).bind fun j9 => ((ix 6 (s1.1 82 0 j9)).bind fun j10 => some (s1, (s1.1 83 0 j10)))) else ((f_M_of x1 (x2 - (Int32.ofInt 2)) s1).bind fun q11 => some (s1, q11)))))))))
def f_M_isle_L23 (x1 : Int32) (x2 : Int32) (s : S2) : Option (S2 × Int32) := (f_M_isle_L24 x1 x2 (Int32.ofInt 1) s)
def f_M_isle (a1 : Int32) (a2 : Int32) (s : S2) : Option (S2 × Int32) := (if (bI (g_M_isIsle a1 s)) = 0 then (f_M_isle_L23 a1 a2 s) else (if (bI (g_M_in a2 (Int32.ofInt 0) (Int32.ofInt 9) s)) = 0 then (f_M_isle_L23 a1 a2 s) else (f_M_isle_L24 a1 a2 (Int32.ofInt 0) s)))
set_option maxRecDepth 20000 in
set_option maxHeartbeats 4000000 in
theorem c_M_isle_L24 {xs : Nat → Int32} {L d : Nat} {P : MK S2} {Q : S2 → Option MV → Prop} {res : S2 × Int32} (hP : MClosed (O3 xs L) (kcall (O3 xs L) (d + 2)) kd_M_isle 1 Q P) (hQ : Q res.1 (some (mI res.2))) (x1 : Int32) (x2 : Int32) (y1 : Int32) (s : S2) (h : f_M_isle_L24 x1 x2 y1 s = some res) : P 24 [some (mR 60 0), some (mI x1), some (mI x2)] [mI y1, mR 60 0] s (0, 0) := by
  refine mgo_from hP [23, 24] 260 ?_
  replace h := bnds h
  refine go_brn (fun hc => ?_) (fun hc => ?_)
  · replace h := (if_neg hc).symm.trans h
    refine go_br (fun hc : x2 = (Int32.ofInt 0) => ?_) (fun hc : ¬ (x2 = (Int32.ofInt 0)) => ?_)
    · replace h := (if_pos hc).symm.trans h
      obtain ⟨j2, hj, h⟩ := bnd h
      refine go_ix j2 (ix_lt hj) (ix_eq hj) ?_
      obtain ⟨j3, hj, h⟩ := bnd h
      refine go_ix j3 (ix_lt hj) (ix_eq hj) ?_
      cases h
      exact hQ
    · replace h := (if_neg hc).symm.trans h
      refine go_br (fun hc : x2 = (Int32.ofInt 1) => ?_) (fun hc : ¬ (x2 = (Int32.ofInt 1)) => ?_)
      · replace h := (if_pos hc).symm.trans h
        obtain ⟨j4, hj, h⟩ := bnd h
        refine go_ix j4 (ix_lt hj) (ix_eq hj) ?_
        obtain ⟨j5, hj, h⟩ := bnd h
        refine go_ix j5 (ix_lt hj) (ix_eq hj) ?_
        cases h
        exact hQ
      · replace h := (if_neg hc).symm.trans h
        refine go_br (fun hc : x2 = (Int32.ofInt 2) => ?_) (fun hc : ¬ (x2 = (Int32.ofInt 2)) => ?_)
        · replace h := (if_pos hc).symm.trans h
          obtain ⟨j6, hj, h⟩ := bnd h
          refine go_ix j6 (ix_lt hj) (ix_eq hj) ?_
          obtain ⟨j7, hj, h⟩ := bnd h
          refine go_ix j7 (ix_lt hj) (ix_eq hj) ?_
          cases h
          exact hQ
        · replace h := (if_neg hc).symm.trans h
          refine go_br (fun hc : x2 = (Int32.ofInt 3) => ?_) (fun hc : ¬ (x2 = (Int32.ofInt 3)) => ?_)
          · replace h := (if_pos hc).symm.trans h
            obtain ⟨j8, hj, h⟩ := bnd h
            refine go_ix j8 (ix_lt hj) (ix_eq hj) ?_
            cases h
            exact hQ
          · replace h := (if_neg hc).symm.trans h
            refine go_br (fun hc : x2 = (Int32.ofInt 4) => ?_) (fun hc : ¬ (x2 = (Int32.ofInt 4)) => ?_)
            · replace h := (if_pos hc).symm.trans h
              obtain ⟨j9, hj, h⟩ := bnd h
              refine go_ix j9 (ix_lt hj) (ix_eq hj) ?_
              obtain ⟨j10, hj, h⟩ := bnd h
              refine go_ix j10 (ix_lt hj) (ix_eq hj) ?_
              cases h
              exact hQ
            · replace h := (if_neg hc).symm.trans h
              obtain ⟨q11, hq, h⟩ := bnd h
              refine go_call (fun _ hw => c_M_of hq hw) ?_
              cases h
              exact hQ
  · replace h := (if_pos hc).symm.trans h
    cases h
    exact hQ
theorem c_M_isle_L23 {xs : Nat → Int32} {L d : Nat} {P : MK S2} {Q : S2 → Option MV → Prop} {res : S2 × Int32} (hP : MClosed (O3 xs L) (kcall (O3 xs L) (d + 2)) kd_M_isle 1 Q P) (hQ : Q res.1 (some (mI res.2))) (x1 : Int32) (x2 : Int32) (s : S2) (h : f_M_isle_L23 x1 x2 s = some res) : P 23 [some (mR 60 0), some (mI x1), some (mI x2)] [mR 60 0] s (0, 0) := by
  refine mgo_from hP [23, 24] 260 ?_
  exact c_M_isle_L24 hP hQ _ _ _ _ h
theorem c_M_isle {xs : Nat → Int32} {L d : Nat} {a1 : Int32} {a2 : Int32} {s : S2} {res : S2 × Int32} {Q : S2 → Option MV → Prop} (h : f_M_isle a1 a2 s = some res) (hQ : Q res.1 (some (mI res.2))) : kcall (O3 xs L) (d + 3) k_M_isle [mR 60 0, mI a1, mI a2] s Q := by
  refine kc_of (cd := kd_M_isle) (mx := 3) (rt := 1) rfl rfl ?_
  intro P hP
  refine mgo_sound hP [23, 24] 260 _ _ _ _ _ ?_
  refine go_call (fun _ hw => c_M_isIsle hw) ?_
  refine go_br (fun hc : (bI (g_M_isIsle a1 s)) = 0 => ?_) (fun hc : ¬ ((bI (g_M_isIsle a1 s)) = 0) => ?_)
  · replace h := (if_pos hc).symm.trans h
    exact c_M_isle_L23 hP hQ _ _ _ h
  · replace h := (if_neg hc).symm.trans h
    refine go_call (fun _ hw => c_M_in hw) ?_
    refine go_br (fun hc : (bI (g_M_in a2 (Int32.ofInt 0) (Int32.ofInt 9) s)) = 0 => ?_) (fun hc : ¬ ((bI (g_M_in a2 (Int32.ofInt 0) (Int32.ofInt 9) s)) = 0) => ?_)
    · replace h := (if_pos hc).symm.trans h
      exact c_M_isle_L23 hP hQ _ _ _ h
    · replace h := (if_neg hc).symm.trans h
      exact c_M_isle_L24 hP hQ _ _ _ _ h
/-! M_far -/
def f_M_far (a1 : Int32) (a2 : Int32) (s : S2) : Option Int32 := (if (bI (g_M_isIsle a1 s)) = 0 then some (Int32.ofInt (-1)) else (if (bI (g_M_isIsle a2 s)) = 0 then some (Int32.ofInt (-1)) else ((f_M_farOf a1 a2 s).bind fun q1 => some q1)))
theorem c_M_far {xs : Nat → Int32} {L d : Nat} {a1 : Int32} {a2 : Int32} {s : S2} {res : Int32} {Q : S2 → Option MV → Prop} (h : f_M_far a1 a2 s = some res) (hQ : Q s (some (mI res))) : kcall (O3 xs L) (d + 3) k_M_far [mR 60 0, mI a1, mI a2] s Q := by
  refine kc_of (cd := kd_M_far) (mx := 3) (rt := 1) rfl rfl ?_
  intro P hP
  refine mgo_sound hP [] 260 _ _ _ _ _ ?_
  refine go_call (fun _ hw => c_M_isIsle hw) ?_
  refine go_br (fun hc : (bI (g_M_isIsle a1 s)) = 0 => ?_) (fun hc : ¬ ((bI (g_M_isIsle a1 s)) = 0) => ?_)
  · replace h := (if_pos hc).symm.trans h
    cases h
    exact hQ
  · replace h := (if_neg hc).symm.trans h
    refine go_call (fun _ hw => c_M_isIsle hw) ?_
    refine go_br (fun hc : (bI (g_M_isIsle a2 s)) = 0 => ?_) (fun hc : ¬ ((bI (g_M_isIsle a2 s)) = 0) => ?_)
    · replace h := (if_pos hc).symm.trans h
      cases h
      exact hQ
    · replace h := (if_neg hc).symm.trans h
      obtain ⟨q1, hq, h⟩ := bnd h
      refine go_call (fun _ hw => c_M_farOf hq hw) ?_
      cases h
      exact hQ
/-! M_turn -/
def f_M_turn (a1 : Int32) (s : S2) : Option (S2 × Bool) := (if (bI (g_M_isTie a1 s)) = 0 then some (s, false) else ((ix 44 (((Int32.ofInt 4) * a1) + (Int32.ofInt 2))).bind fun j1 => ((ix 44 (((Int32.ofInt 4) * a1) + (Int32.ofInt 2))).bind fun j3 => (some (pkS s 77 0 j3 ((Int32.ofInt 1) - (s.1 77 0 j1)))).bind fun s2 => some (s2, true))))
theorem c_M_turn {xs : Nat → Int32} {L d : Nat} {a1 : Int32} {s : S2} {res : S2 × Bool} {Q : S2 → Option MV → Prop} (h : f_M_turn a1 s = some res) (hQ : Q res.1 (some (mI (bI res.2)))) : kcall (O3 xs L) (d + 3) k_M_turn [mR 60 0, mI a1] s Q := by
  refine kc_of (cd := kd_M_turn) (mx := 2) (rt := 2) rfl rfl ?_
  intro P hP
  refine mgo_sound hP [] 260 _ _ _ _ _ ?_
  refine go_call (fun _ hw => c_M_isTie hw) ?_
  refine go_brn (fun hc : ¬ ((bI (g_M_isTie a1 s)) = 0) => ?_) (fun hc : (bI (g_M_isTie a1 s)) = 0 => ?_)
  · replace h := (if_neg hc).symm.trans h
    obtain ⟨j1, hj, h⟩ := bnd h
    refine go_ix j1 (ix_lt hj) (ix_eq hj) ?_
    obtain ⟨j3, hj, h⟩ := bnd h
    replace h := bnds h
    refine go_ix j3 (ix_lt hj) (ix_eq hj) ?_
    cases h
    exact ⟨Or.inr rfl, hQ⟩
  · replace h := (if_pos hc).symm.trans h
    cases h
    exact ⟨Or.inl rfl, hQ⟩
/-! M_keep -/
def f_M_keep_L50 (s : S2) : Option S2 := ((f_M_write 92 0 1380 ((Int32.ofInt 46) * (s.1 60 0 55)) s).bind fun q1 => ((some (pkS q1 60 0 55 ((q1.1 60 0 55) + (Int32.ofInt 1)))).bind fun s2 => some s2))
def b_M_keep_L12 (k12 : Int32 → S2 → Option S2) (x1 : Int32) (s : S2) : Option S2 := (if (Int32.ofInt 1380) ≤ x1 then ((some (pkS s 60 0 55 ((s.1 60 0 55) - (Int32.ofInt 1)))).bind fun s1 => (f_M_keep_L50 s1)) else ((ix 1380 x1).bind fun j2 => ((ix 1380 (x1 - (Int32.ofInt 46))).bind fun j4 => (some (pkS s 92 0 j4 (s.1 92 0 j2))).bind fun s3 => (k12 (x1 + (Int32.ofInt 1)) s3))))
def f_M_keep_L12 : Nat → Int32 → S2 → Option S2
  | 0 => fun _ _ => none
  | n + 1 => b_M_keep_L12 (f_M_keep_L12 n)
def f_M_keep (s : S2) : Option S2 := (if (s.1 60 0 55) = (Int32.ofInt 30) then (f_M_keep_L12 FU (Int32.ofInt 46) s) else (f_M_keep_L50 s))
theorem c_M_keep_L50 {xs : Nat → Int32} {L d : Nat} {P : MK S2} {Q : S2 → Option MV → Prop} {res : S2} (hP : MClosed (O3 xs L) (kcall (O3 xs L) (d + 2)) kd_M_keep 0 Q P) (hQ : Q res none) (x1 : Option Int32) (s : S2) (h : f_M_keep_L50 s = some res) : P 50 [some (mR 60 0), oI x1] [] s (0, 0) := by
  refine mgo_from hP [12, 50] 260 ?_
  obtain ⟨q1, hq, h⟩ := bnd h
  refine go_call (fun _ hw => c_M_write_92 hq hw) ?_
  replace h := bnds h
  cases h
  exact hQ
theorem cb_M_keep_L12 {xs : Nat → Int32} {L d : Nat} {P : MK S2} {Q : S2 → Option MV → Prop} {res : S2} (hP : MClosed (O3 xs L) (kcall (O3 xs L) (d + 2)) kd_M_keep 0 Q P) (hQ : Q res none) {k12 : Int32 → S2 → Option S2} (hk12 : ∀ (x1 : Int32) (s : S2), k12 x1 s = some res → P 12 [some (mR 60 0), some (mI x1)] [] s (0, 0)) (x1 : Int32) (s : S2) (h : b_M_keep_L12 k12 x1 s = some res) : P 12 [some (mR 60 0), some (mI x1)] [] s (0, 0) := by
  refine mgo_from hP [12, 50] 260 ?_
  refine go_br (fun hc : (Int32.ofInt 1380) ≤ x1 => ?_) (fun hc : ¬ ((Int32.ofInt 1380) ≤ x1) => ?_)
  · replace h := (if_pos hc).symm.trans h
    replace h := bnds h
    exact c_M_keep_L50 hP hQ (some x1) _ h
  · replace h := (if_neg hc).symm.trans h
    obtain ⟨j2, hj, h⟩ := bnd h
    refine go_ix j2 (ix_lt hj) (ix_eq hj) ?_
    obtain ⟨j4, hj, h⟩ := bnd h
    replace h := bnds h
    refine go_ix j4 (ix_lt hj) (ix_eq hj) ?_
    exact hk12 _ _ h
theorem c_M_keep_L12 {xs : Nat → Int32} {L d : Nat} {P : MK S2} {Q : S2 → Option MV → Prop} {res : S2} (hP : MClosed (O3 xs L) (kcall (O3 xs L) (d + 2)) kd_M_keep 0 Q P) (hQ : Q res none) : ∀ (fu : Nat) (x1 : Int32) (s : S2), f_M_keep_L12 fu x1 s = some res → P 12 [some (mR 60 0), some (mI x1)] [] s (0, 0)
  | 0, _, _, h => by cases h
  | fu + 1, x1, s, h => cb_M_keep_L12 hP hQ (c_M_keep_L12 hP hQ fu) x1 s h
theorem c_M_keep {xs : Nat → Int32} {L d : Nat} {s : S2} {res : S2} {Q : S2 → Option MV → Prop} (h : f_M_keep s = some res) (hQ : Q res none) : kcall (O3 xs L) (d + 3) k_M_keep [mR 60 0] s Q := by
  refine kc_of (cd := kd_M_keep) (mx := 2) (rt := 0) rfl rfl ?_
  intro P hP
  refine mgo_sound hP [12, 50] 260 _ _ _ _ _ ?_
  refine go_brn (fun hc : ¬ ((s.1 60 0 55) = (Int32.ofInt 30)) => ?_) (fun hc : (s.1 60 0 55) = (Int32.ofInt 30) => ?_)
  · replace h := (if_neg hc).symm.trans h
    exact c_M_keep_L50 hP hQ none _ h
  · replace h := (if_pos hc).symm.trans h
    exact c_M_keep_L12 hP hQ FU _ _ h
/-! M_worked -/
def f_M_worked_L144 (x1 : Int64) (x3 : Int64) (s : S2) : Option Int32 := (if (lg_cmp x1 (Int64.ofNat 0)) = 0 then (if (lg_cmp x3 (Int64.ofNat 0)) = 0 then some (Int32.ofInt 0) else some (Int32.ofInt 1)) else some (Int32.ofInt 1))
def f_M_worked (a0 : Int32) (a1 : Int64) (a3 : Int64) (s : S2) : Option Int32 := (if a0 = (Int32.ofInt 2) then some (g_M_bounded (a1 + a3) s) else (if a0 = (Int32.ofInt 3) then some (g_M_bounded (a1 - a3) s) else (if a0 = (Int32.ofInt 4) then some (g_M_bounded (a1 * a3) s) else (if a0 = (Int32.ofInt 5) then (if (lg_cmp a3 (Int64.ofNat 0)) = 0 then some (Int32.ofInt 0) else (if a3 = 0 then none else some (g_M_bounded (a1 / a3) s))) else (if a0 = (Int32.ofInt 6) then (if (lg_cmp a1 a3) = 0 then some (Int32.ofInt 1) else some (Int32.ofInt 0)) else (if a0 = (Int32.ofInt 7) then (if 0 ≤ (lg_cmp a1 a3) then some (Int32.ofInt 0) else some (Int32.ofInt 1)) else (if a0 = (Int32.ofInt 8) then (if (lg_cmp a1 a3) ≤ 0 then some (Int32.ofInt 0) else some (Int32.ofInt 1)) else (if a0 = (Int32.ofInt 9) then (f_M_worked_L144 a1 a3 s) else (if a0 = (Int32.ofInt 10) then (if (lg_cmp a1 (Int64.ofNat 0)) = 0 then some (Int32.ofInt 0) else (if (lg_cmp a3 (Int64.ofNat 0)) = 0 then some (Int32.ofInt 0) else some (Int32.ofInt 1))) else (f_M_worked_L144 a1 a3 s))))))))))
theorem c_M_worked_L144 {xs : Nat → Int32} {L d : Nat} {P : MK S2} {Q : S2 → Option MV → Prop} {res : Int32} {s : S2} (hP : MClosed (O3 xs L) (kcall (O3 xs L) (d + 1)) kd_M_worked 1 Q P) (hQ : Q s (some (mI res))) (x1 : Int64) (x3 : Int64) (x0 : Int32) (h : f_M_worked_L144 x1 x3 s = some res) : P 144 [some (mI x0), some (mL x1), none, some (mL x3), none] [] s (0, 0) := by
  refine mgo_from hP [144] 260 ?_
  refine go_brn (fun hc : ¬ ((lg_cmp x1 (Int64.ofNat 0)) = 0) => ?_) (fun hc : (lg_cmp x1 (Int64.ofNat 0)) = 0 => ?_)
  · replace h := (if_neg hc).symm.trans h
    cases h
    exact hQ
  · replace h := (if_pos hc).symm.trans h
    refine go_br (fun hc : (lg_cmp x3 (Int64.ofNat 0)) = 0 => ?_) (fun hc : ¬ ((lg_cmp x3 (Int64.ofNat 0)) = 0) => ?_)
    · replace h := (if_pos hc).symm.trans h
      cases h
      exact hQ
    · replace h := (if_neg hc).symm.trans h
      cases h
      exact hQ
set_option maxRecDepth 20000 in
set_option maxHeartbeats 4000000 in
theorem c_M_worked {xs : Nat → Int32} {L d : Nat} {a0 : Int32} {a1 : Int64} {a3 : Int64} {s : S2} {res : Int32} {Q : S2 → Option MV → Prop} (h : f_M_worked a0 a1 a3 s = some res) (hQ : Q s (some (mI res))) : kcall (O3 xs L) (d + 2) k_M_worked [mI a0, mL a1, mL a3] s Q := by
  refine kc_of (cd := kd_M_worked) (mx := 5) (rt := 1) rfl rfl ?_
  intro P hP
  refine mgo_sound hP [144] 260 _ _ _ _ _ ?_
  refine go_br (fun hc : a0 = (Int32.ofInt 2) => ?_) (fun hc : ¬ (a0 = (Int32.ofInt 2)) => ?_)
  · replace h := (if_pos hc).symm.trans h
    refine go_call (fun _ hw => c_M_bounded hw) ?_
    cases h
    exact hQ
  · replace h := (if_neg hc).symm.trans h
    refine go_br (fun hc : a0 = (Int32.ofInt 3) => ?_) (fun hc : ¬ (a0 = (Int32.ofInt 3)) => ?_)
    · replace h := (if_pos hc).symm.trans h
      refine go_call (fun _ hw => c_M_bounded hw) ?_
      cases h
      exact hQ
    · replace h := (if_neg hc).symm.trans h
      refine go_br (fun hc : a0 = (Int32.ofInt 4) => ?_) (fun hc : ¬ (a0 = (Int32.ofInt 4)) => ?_)
      · replace h := (if_pos hc).symm.trans h
        refine go_call (fun _ hw => c_M_bounded hw) ?_
        cases h
        exact hQ
      · replace h := (if_neg hc).symm.trans h
        refine go_br (fun hc : a0 = (Int32.ofInt 5) => ?_) (fun hc : ¬ (a0 = (Int32.ofInt 5)) => ?_)
        · replace h := (if_pos hc).symm.trans h
          refine go_brn (fun hc : ¬ ((lg_cmp a3 (Int64.ofNat 0)) = 0) => ?_) (fun hc : (lg_cmp a3 (Int64.ofNat 0)) = 0 => ?_)
          · replace h := (if_neg hc).symm.trans h
            obtain ⟨hz, h⟩ := nif h
            refine go_and hz ?_
            refine go_call (fun _ hw => c_M_bounded hw) ?_
            cases h
            exact hQ
          · replace h := (if_pos hc).symm.trans h
            cases h
            exact hQ
        · replace h := (if_neg hc).symm.trans h
          refine go_br (fun hc : a0 = (Int32.ofInt 6) => ?_) (fun hc : ¬ (a0 = (Int32.ofInt 6)) => ?_)
          · replace h := (if_pos hc).symm.trans h
            refine go_brn (fun hc : ¬ ((lg_cmp a1 a3) = 0) => ?_) (fun hc : (lg_cmp a1 a3) = 0 => ?_)
            · replace h := (if_neg hc).symm.trans h
              cases h
              exact hQ
            · replace h := (if_pos hc).symm.trans h
              cases h
              exact hQ
          · replace h := (if_neg hc).symm.trans h
            refine go_br (fun hc : a0 = (Int32.ofInt 7) => ?_) (fun hc : ¬ (a0 = (Int32.ofInt 7)) => ?_)
            · replace h := (if_pos hc).symm.trans h
              refine go_br (fun hc : 0 ≤ (lg_cmp a1 a3) => ?_) (fun hc : ¬ (0 ≤ (lg_cmp a1 a3)) => ?_)
              · replace h := (if_pos hc).symm.trans h
                cases h
                exact hQ
              · replace h := (if_neg hc).symm.trans h
                cases h
                exact hQ
            · replace h := (if_neg hc).symm.trans h
              refine go_br (fun hc : a0 = (Int32.ofInt 8) => ?_) (fun hc : ¬ (a0 = (Int32.ofInt 8)) => ?_)
              · replace h := (if_pos hc).symm.trans h
                refine go_br (fun hc : (lg_cmp a1 a3) ≤ 0 => ?_) (fun hc : ¬ ((lg_cmp a1 a3) ≤ 0) => ?_)
                · replace h := (if_pos hc).symm.trans h
                  cases h
                  exact hQ
                · replace h := (if_neg hc).symm.trans h
                  cases h
                  exact hQ
              · replace h := (if_neg hc).symm.trans h
                refine go_br (fun hc : a0 = (Int32.ofInt 9) => ?_) (fun hc : ¬ (a0 = (Int32.ofInt 9)) => ?_)
                · replace h := (if_pos hc).symm.trans h
                  exact c_M_worked_L144 hP hQ _ _ _ h
                · replace h := (if_neg hc).symm.trans h
                  refine go_br (fun hc : a0 = (Int32.ofInt 10) => ?_) (fun hc : ¬ (a0 = (Int32.ofInt 10)) => ?_)
                  · replace h := (if_pos hc).symm.trans h
                    refine go_br (fun hc : (lg_cmp a1 (Int64.ofNat 0)) = 0 => ?_) (fun hc : ¬ ((lg_cmp a1 (Int64.ofNat 0)) = 0) => ?_)
                    · replace h := (if_pos hc).symm.trans h
                      cases h
                      exact hQ
                    · replace h := (if_neg hc).symm.trans h
                      refine go_br (fun hc : (lg_cmp a3 (Int64.ofNat 0)) = 0 => ?_) (fun hc : ¬ ((lg_cmp a3 (Int64.ofNat 0)) = 0) => ?_)
                      · replace h := (if_pos hc).symm.trans h
                        cases h
                        exact hQ
                      · replace h := (if_neg hc).symm.trans h
                        cases h
                        exact hQ
                  · replace h := (if_neg hc).symm.trans h
                    exact c_M_worked_L144 hP hQ _ _ _ h
/-! M_cheapestFor -/
def f_M_cheapestFor_L86 (k4 : Int32 → Int32 → Int32 → S2 → Option Int32) (x1 : Int32) (x3 : Int32) (y0 : Int32) (s : S2) : Option Int32 := (k4 x1 y0 (x3 + (Int32.ofInt 1)) s)
def f_M_cheapestFor_L85 (k4 : Int32 → Int32 → Int32 → S2 → Option Int32) (x1 : Int32) (x2 : Int32) (x3 : Int32) (s : S2) : Option Int32 := (f_M_cheapestFor_L86 k4 x1 x3 x2 s)
def f_M_cheapestFor_L81 (k4 : Int32 → Int32 → Int32 → S2 → Option Int32) (x1 : Int32) (x3 : Int32) (s : S2) : Option Int32 := (f_M_cheapestFor_L86 k4 x1 x3 x3 s)
def f_M_cheapestFor_L54 (k4 : Int32 → Int32 → Int32 → S2 → Option Int32) (x1 : Int32) (x2 : Int32) (x3 : Int32) (y0 : Int32) (s : S2) : Option Int32 := (if y0 = 0 then (f_M_cheapestFor_L85 k4 x1 x2 x3 s) else (if x2 = (Int32.ofInt (-1)) then (f_M_cheapestFor_L81 k4 x1 x3 s) else ((f_M_costOf x1 x3 s).bind fun q1 => ((f_M_costOf x1 x2 s).bind fun q2 => (if q2 ≤ q1 then (f_M_cheapestFor_L85 k4 x1 x2 x3 s) else (f_M_cheapestFor_L81 k4 x1 x3 s))))))
def f_M_cheapestFor_L53 (k4 : Int32 → Int32 → Int32 → S2 → Option Int32) (x1 : Int32) (x2 : Int32) (x3 : Int32) (s : S2) : Option Int32 := (f_M_cheapestFor_L54 k4 x1 x2 x3 (Int32.ofInt 0) s)
def b_M_cheapestFor_L4 (k4 : Int32 → Int32 → Int32 → S2 → Option Int32) (x1 : Int32) (x2 : Int32) (x3 : Int32) (s : S2) : Option Int32 := (if (s.1 60 0 28) ≤ x3 then some x2 else (if x3 = x1 then (f_M_cheapestFor_L53 k4 x1 x2 x3 s) else ((f_M_isHead x3 s).bind fun q1 => (if (bI q1) = 0 then (f_M_cheapestFor_L53 k4 x1 x2 x3 s) else ((f_M_of x3 (Int32.ofInt 3) s).bind fun q2 => ((f_M_of x1 (Int32.ofInt 4) s).bind fun q3 => (if q2 = q3 then ((ix 6 x3).bind fun j4 => (if (s.1 86 0 j4) ≤ 0 then (f_M_cheapestFor_L53 k4 x1 x2 x3 s) else (f_M_cheapestFor_L54 k4 x1 x2 x3 (Int32.ofInt 1) s))) else (f_M_cheapestFor_L53 k4 x1 x2 x3 s))))))))
def f_M_cheapestFor_L4 : Nat → Int32 → Int32 → Int32 → S2 → Option Int32
  | 0 => fun _ _ _ _ => none
  | n + 1 => b_M_cheapestFor_L4 (f_M_cheapestFor_L4 n)
def f_M_cheapestFor (a1 : Int32) (s : S2) : Option Int32 := (f_M_cheapestFor_L4 FU a1 (Int32.ofInt (-1)) (Int32.ofInt 0) s)
theorem c_M_cheapestFor_L86 {xs : Nat → Int32} {L d : Nat} {P : MK S2} {Q : S2 → Option MV → Prop} {res : Int32} {s : S2} (hP : MClosed (O3 xs L) (kcall (O3 xs L) (d + 3)) kd_M_cheapestFor 1 Q P) (hQ : Q s (some (mI res))) {k4 : Int32 → Int32 → Int32 → S2 → Option Int32} (hk4 : ∀ (x1 : Int32) (x2 : Int32) (x3 : Int32) (x4 : Option Int32), k4 x1 x2 x3 s = some res → P 4 [some (mR 60 0), some (mI x1), some (mI x2), some (mI x3), oI x4] [] s (0, 0)) (x1 : Int32) (x3 : Int32) (y0 : Int32) (x2 : Int32) (x4 : Int32) (h : f_M_cheapestFor_L86 k4 x1 x3 y0 s = some res) : P 86 [some (mR 60 0), some (mI x1), some (mI x2), some (mI x3), some (mI x4)] [mI y0] s (0, 0) := by
  refine mgo_from hP [4, 53, 54, 81, 85, 86] 260 ?_
  exact hk4 _ _ _ (some x4) h
theorem c_M_cheapestFor_L85 {xs : Nat → Int32} {L d : Nat} {P : MK S2} {Q : S2 → Option MV → Prop} {res : Int32} {s : S2} (hP : MClosed (O3 xs L) (kcall (O3 xs L) (d + 3)) kd_M_cheapestFor 1 Q P) (hQ : Q s (some (mI res))) {k4 : Int32 → Int32 → Int32 → S2 → Option Int32} (hk4 : ∀ (x1 : Int32) (x2 : Int32) (x3 : Int32) (x4 : Option Int32), k4 x1 x2 x3 s = some res → P 4 [some (mR 60 0), some (mI x1), some (mI x2), some (mI x3), oI x4] [] s (0, 0)) (x1 : Int32) (x2 : Int32) (x3 : Int32) (x4 : Int32) (h : f_M_cheapestFor_L85 k4 x1 x2 x3 s = some res) : P 85 [some (mR 60 0), some (mI x1), some (mI x2), some (mI x3), some (mI x4)] [] s (0, 0) := by
  refine mgo_from hP [4, 53, 54, 81, 85, 86] 260 ?_
  exact c_M_cheapestFor_L86 hP hQ hk4 _ _ _ _ _ h
theorem c_M_cheapestFor_L81 {xs : Nat → Int32} {L d : Nat} {P : MK S2} {Q : S2 → Option MV → Prop} {res : Int32} {s : S2} (hP : MClosed (O3 xs L) (kcall (O3 xs L) (d + 3)) kd_M_cheapestFor 1 Q P) (hQ : Q s (some (mI res))) {k4 : Int32 → Int32 → Int32 → S2 → Option Int32} (hk4 : ∀ (x1 : Int32) (x2 : Int32) (x3 : Int32) (x4 : Option Int32), k4 x1 x2 x3 s = some res → P 4 [some (mR 60 0), some (mI x1), some (mI x2), some (mI x3), oI x4] [] s (0, 0)) (x1 : Int32) (x3 : Int32) (x2 : Int32) (x4 : Int32) (h : f_M_cheapestFor_L81 k4 x1 x3 s = some res) : P 81 [some (mR 60 0), some (mI x1), some (mI x2), some (mI x3), some (mI x4)] [] s (0, 0) := by
  refine mgo_from hP [4, 53, 54, 81, 85, 86] 260 ?_
  exact c_M_cheapestFor_L86 hP hQ hk4 _ _ _ _ _ h
theorem c_M_cheapestFor_L54 {xs : Nat → Int32} {L d : Nat} {P : MK S2} {Q : S2 → Option MV → Prop} {res : Int32} {s : S2} (hP : MClosed (O3 xs L) (kcall (O3 xs L) (d + 3)) kd_M_cheapestFor 1 Q P) (hQ : Q s (some (mI res))) {k4 : Int32 → Int32 → Int32 → S2 → Option Int32} (hk4 : ∀ (x1 : Int32) (x2 : Int32) (x3 : Int32) (x4 : Option Int32), k4 x1 x2 x3 s = some res → P 4 [some (mR 60 0), some (mI x1), some (mI x2), some (mI x3), oI x4] [] s (0, 0)) (x1 : Int32) (x2 : Int32) (x3 : Int32) (y0 : Int32) (x4 : Option Int32) (h : f_M_cheapestFor_L54 k4 x1 x2 x3 y0 s = some res) : P 54 [some (mR 60 0), some (mI x1), some (mI x2), some (mI x3), oI x4] [mI y0] s (0, 0) := by
  refine mgo_from hP [4, 53, 54, 81, 85, 86] 260 ?_
  refine go_br (fun hc : y0 = 0 => ?_) (fun hc : ¬ (y0 = 0) => ?_)
  · replace h := (if_pos hc).symm.trans h
    exact c_M_cheapestFor_L85 hP hQ hk4 _ _ _ _ h
  · replace h := (if_neg hc).symm.trans h
    refine go_br (fun hc : x2 = (Int32.ofInt (-1)) => ?_) (fun hc : ¬ (x2 = (Int32.ofInt (-1))) => ?_)
    · replace h := (if_pos hc).symm.trans h
      exact c_M_cheapestFor_L81 hP hQ hk4 _ _ _ _ h
    · replace h := (if_neg hc).symm.trans h
      obtain ⟨q1, hq, h⟩ := bnd h
      refine go_call (fun _ hw => c_M_costOf hq hw) ?_
      obtain ⟨q2, hq, h⟩ := bnd h
      refine go_call (fun _ hw => c_M_costOf hq hw) ?_
      refine go_br (fun hc : q2 ≤ q1 => ?_) (fun hc : ¬ (q2 ≤ q1) => ?_)
      · replace h := (if_pos hc).symm.trans h
        exact c_M_cheapestFor_L85 hP hQ hk4 _ _ _ _ h
      · replace h := (if_neg hc).symm.trans h
        exact c_M_cheapestFor_L81 hP hQ hk4 _ _ _ _ h
theorem c_M_cheapestFor_L53 {xs : Nat → Int32} {L d : Nat} {P : MK S2} {Q : S2 → Option MV → Prop} {res : Int32} {s : S2} (hP : MClosed (O3 xs L) (kcall (O3 xs L) (d + 3)) kd_M_cheapestFor 1 Q P) (hQ : Q s (some (mI res))) {k4 : Int32 → Int32 → Int32 → S2 → Option Int32} (hk4 : ∀ (x1 : Int32) (x2 : Int32) (x3 : Int32) (x4 : Option Int32), k4 x1 x2 x3 s = some res → P 4 [some (mR 60 0), some (mI x1), some (mI x2), some (mI x3), oI x4] [] s (0, 0)) (x1 : Int32) (x2 : Int32) (x3 : Int32) (x4 : Option Int32) (h : f_M_cheapestFor_L53 k4 x1 x2 x3 s = some res) : P 53 [some (mR 60 0), some (mI x1), some (mI x2), some (mI x3), oI x4] [] s (0, 0) := by
  refine mgo_from hP [4, 53, 54, 81, 85, 86] 260 ?_
  exact c_M_cheapestFor_L54 hP hQ hk4 _ _ _ _ x4 h
set_option maxRecDepth 20000 in
set_option maxHeartbeats 4000000 in
theorem cb_M_cheapestFor_L4 {xs : Nat → Int32} {L d : Nat} {P : MK S2} {Q : S2 → Option MV → Prop} {res : Int32} {s : S2} (hP : MClosed (O3 xs L) (kcall (O3 xs L) (d + 3)) kd_M_cheapestFor 1 Q P) (hQ : Q s (some (mI res))) {k4 : Int32 → Int32 → Int32 → S2 → Option Int32} (hk4 : ∀ (x1 : Int32) (x2 : Int32) (x3 : Int32) (x4 : Option Int32), k4 x1 x2 x3 s = some res → P 4 [some (mR 60 0), some (mI x1), some (mI x2), some (mI x3), oI x4] [] s (0, 0)) (x1 : Int32) (x2 : Int32) (x3 : Int32) (x4 : Option Int32) (h : b_M_cheapestFor_L4 k4 x1 x2 x3 s = some res) : P 4 [some (mR 60 0), some (mI x1), some (mI x2), some (mI x3), oI x4] [] s (0, 0) := by
  refine mgo_from hP [4, 53, 54, 81, 85, 86] 260 ?_
  refine go_br (fun hc : (s.1 60 0 28) ≤ x3 => ?_) (fun hc : ¬ ((s.1 60 0 28) ≤ x3) => ?_)
  · replace h := (if_pos hc).symm.trans h
    cases h
    exact hQ
  · replace h := (if_neg hc).symm.trans h
    refine go_br (fun hc : x3 = x1 => ?_) (fun hc : ¬ (x3 = x1) => ?_)
    · replace h := (if_pos hc).symm.trans h
      exact c_M_cheapestFor_L53 hP hQ hk4 _ _ _ x4 h
    · replace h := (if_neg hc).symm.trans h
      obtain ⟨q1, hq, h⟩ := bnd h
      refine go_call (fun _ hw => c_M_isHead hq hw) ?_
      refine go_br (fun hc : (bI q1) = 0 => ?_) (fun hc : ¬ ((bI q1) = 0) => ?_)
      · replace h := (if_pos hc).symm.trans h
        exact c_M_cheapestFor_L53 hP hQ hk4 _ _ _ x4 h
      · replace h := (if_neg hc).symm.trans h
        obtain ⟨q2, hq, h⟩ := bnd h
        refine go_call (fun _ hw => c_M_of hq hw) ?_
        obtain ⟨q3, hq, h⟩ := bnd h
        refine go_call (fun _ hw => c_M_of hq hw) ?_
        refine go_brn (fun hc : ¬ (q2 = q3) => ?_) (fun hc : q2 = q3 => ?_)
        · replace h := (if_neg hc).symm.trans h
          exact c_M_cheapestFor_L53 hP hQ hk4 _ _ _ x4 h
        · replace h := (if_pos hc).symm.trans h
          obtain ⟨j4, hj, h⟩ := bnd h
          refine go_ix j4 (ix_lt hj) (ix_eq hj) ?_
          refine go_br (fun hc : (s.1 86 0 j4) ≤ 0 => ?_) (fun hc : ¬ ((s.1 86 0 j4) ≤ 0) => ?_)
          · replace h := (if_pos hc).symm.trans h
            exact c_M_cheapestFor_L53 hP hQ hk4 _ _ _ x4 h
          · replace h := (if_neg hc).symm.trans h
            exact c_M_cheapestFor_L54 hP hQ hk4 _ _ _ _ x4 h
theorem c_M_cheapestFor_L4 {xs : Nat → Int32} {L d : Nat} {P : MK S2} {Q : S2 → Option MV → Prop} {res : Int32} {s : S2} (hP : MClosed (O3 xs L) (kcall (O3 xs L) (d + 3)) kd_M_cheapestFor 1 Q P) (hQ : Q s (some (mI res))) : ∀ (fu : Nat) (x1 : Int32) (x2 : Int32) (x3 : Int32) (x4 : Option Int32), f_M_cheapestFor_L4 fu x1 x2 x3 s = some res → P 4 [some (mR 60 0), some (mI x1), some (mI x2), some (mI x3), oI x4] [] s (0, 0)
  | 0, _, _, _, _, h => by cases h
  | fu + 1, x1, x2, x3, x4, h => cb_M_cheapestFor_L4 hP hQ (c_M_cheapestFor_L4 hP hQ fu) x1 x2 x3 x4 h
theorem c_M_cheapestFor {xs : Nat → Int32} {L d : Nat} {a1 : Int32} {s : S2} {res : Int32} {Q : S2 → Option MV → Prop} (h : f_M_cheapestFor a1 s = some res) (hQ : Q s (some (mI res))) : kcall (O3 xs L) (d + 4) k_M_cheapestFor [mR 60 0, mI a1] s Q := by
  refine kc_of (cd := kd_M_cheapestFor) (mx := 5) (rt := 1) rfl rfl ?_
  intro P hP
  refine mgo_sound hP [4, 53, 54, 81, 85, 86] 260 _ _ _ _ _ ?_
  exact c_M_cheapestFor_L4 hP hQ FU _ _ _ none h
/-! M_blow -/
def f_M_blow_L50 (k24 : Int32 → Int32 → S2 → Option S2) (x2 : Int32) (y0 : Int32) (y1 : Int32) (s : S2) : Option S2 := (k24 (y0 - y1) (x2 + (Int32.ofInt 1)) s)
def f_M_blow_L36 (k24 : Int32 → Int32 → S2 → Option S2) (x1 : Int32) (x2 : Int32) (s : S2) : Option S2 := ((f_M_isHead x2 s).bind fun q1 => (if (bI q1) = 0 then (f_M_blow_L50 k24 x2 x1 (Int32.ofInt 0) s) else (f_M_blow_L50 k24 x2 x1 (Int32.ofInt 1) s)))
def f_M_blow_L108 (s : S2) : Option S2 := ((f_M_draw (Int32.ofInt 100) s).bind fun q1 => (if (q1.1.1 60 0 39) ≤ q1.2 then some q1.1 else (if (q1.1.1 60 0 29) ≤ 0 then some q1.1 else ((f_M_draw (q1.1.1 60 0 29) q1.1).bind fun q2 => ((f_M_turn q2.2 q2.1).bind fun q3 => some q3.1)))))
def b_M_blow_L24 (k24 : Int32 → Int32 → S2 → Option S2) (x1 : Int32) (x2 : Int32) (s : S2) : Option S2 := ((f_M_isHead x2 s).bind fun q1 => (if (bI q1) = 0 then (f_M_blow_L36 k24 x1 x2 s) else (if x1 ≤ 0 then ((ix 6 x2).bind fun j2 => ((f_M_draw (Int32.ofInt 19) s).bind fun q3 => ((ix 6 x2).bind fun j5 => (some (pkS q3.1 79 0 j5 (g_M_within (((s.1 79 0 j2) + q3.2) - (Int32.ofInt 9)) q3.1))).bind fun s4 => ((ix 6 x2).bind fun j6 => ((f_M_draw (Int32.ofInt 19) s4).bind fun q7 => ((ix 6 x2).bind fun j9 => (some (pkS q7.1 80 0 j9 (g_M_within (((s4.1 80 0 j6) + q7.2) - (Int32.ofInt 9)) q7.1))).bind fun s8 => (f_M_blow_L108 s8))))))) else (f_M_blow_L36 k24 x1 x2 s))))
def f_M_blow_L24 : Nat → Int32 → Int32 → S2 → Option S2
  | 0 => fun _ _ _ => none
  | n + 1 => b_M_blow_L24 (f_M_blow_L24 n)
def f_M_blow (s : S2) : Option S2 := ((f_M_draw (Int32.ofInt 100) s).bind fun q1 => (if (q1.1.1 60 0 38) ≤ q1.2 then (f_M_blow_L108 q1.1) else ((f_M_headMany q1.1).bind fun q2 => ((f_M_draw q2 q1.1).bind fun q3 => (f_M_blow_L24 FU q3.2 (Int32.ofInt 0) q3.1)))))
theorem c_M_blow_L50 {xs : Nat → Int32} {L d : Nat} {P : MK S2} {Q : S2 → Option MV → Prop} {res : S2} (hP : MClosed (O3 xs L) (kcall (O3 xs L) (d + 4)) kd_M_blow 0 Q P) (hQ : Q res none) {k24 : Int32 → Int32 → S2 → Option S2} (hk24 : ∀ (x1 : Int32) (x2 : Int32) (s : S2), k24 x1 x2 s = some res → P 24 [some (mR 60 0), some (mI x1), some (mI x2)] [] s (0, 0)) (x2 : Int32) (y0 : Int32) (y1 : Int32) (x1 : Int32) (s : S2) (h : f_M_blow_L50 k24 x2 y0 y1 s = some res) : P 50 [some (mR 60 0), some (mI x1), some (mI x2)] [mI y1, mI y0] s (0, 0) := by
  refine mgo_from hP [24, 36, 50, 108] 260 ?_
  exact hk24 _ _ _ h
theorem c_M_blow_L36 {xs : Nat → Int32} {L d : Nat} {P : MK S2} {Q : S2 → Option MV → Prop} {res : S2} (hP : MClosed (O3 xs L) (kcall (O3 xs L) (d + 4)) kd_M_blow 0 Q P) (hQ : Q res none) {k24 : Int32 → Int32 → S2 → Option S2} (hk24 : ∀ (x1 : Int32) (x2 : Int32) (s : S2), k24 x1 x2 s = some res → P 24 [some (mR 60 0), some (mI x1), some (mI x2)] [] s (0, 0)) (x1 : Int32) (x2 : Int32) (s : S2) (h : f_M_blow_L36 k24 x1 x2 s = some res) : P 36 [some (mR 60 0), some (mI x1), some (mI x2)] [] s (0, 0) := by
  refine mgo_from hP [24, 36, 50, 108] 260 ?_
  obtain ⟨q1, hq, h⟩ := bnd h
  refine go_call (fun _ hw => c_M_isHead hq hw) ?_
  refine go_br (fun hc : (bI q1) = 0 => ?_) (fun hc : ¬ ((bI q1) = 0) => ?_)
  · replace h := (if_pos hc).symm.trans h
    exact c_M_blow_L50 hP hQ hk24 _ _ _ _ _ h
  · replace h := (if_neg hc).symm.trans h
    exact c_M_blow_L50 hP hQ hk24 _ _ _ _ _ h
theorem c_M_blow_L108 {xs : Nat → Int32} {L d : Nat} {P : MK S2} {Q : S2 → Option MV → Prop} {res : S2} (hP : MClosed (O3 xs L) (kcall (O3 xs L) (d + 4)) kd_M_blow 0 Q P) (hQ : Q res none) (x1 : Option Int32) (x2 : Option Int32) (s : S2) (h : f_M_blow_L108 s = some res) : P 108 [some (mR 60 0), oI x1, oI x2] [] s (0, 0) := by
  refine mgo_from hP [24, 36, 50, 108] 260 ?_
  obtain ⟨q1, hq, h⟩ := bnd h
  refine go_call (fun _ hw => c_M_draw hq hw) ?_
  refine go_br (fun hc : (q1.1.1 60 0 39) ≤ q1.2 => ?_) (fun hc : ¬ ((q1.1.1 60 0 39) ≤ q1.2) => ?_)
  · replace h := (if_pos hc).symm.trans h
    cases h
    exact hQ
  · replace h := (if_neg hc).symm.trans h
    refine go_br (fun hc : (q1.1.1 60 0 29) ≤ 0 => ?_) (fun hc : ¬ ((q1.1.1 60 0 29) ≤ 0) => ?_)
    · replace h := (if_pos hc).symm.trans h
      cases h
      exact hQ
    · replace h := (if_neg hc).symm.trans h
      obtain ⟨q2, hq, h⟩ := bnd h
      refine go_call (fun _ hw => c_M_draw hq hw) ?_
      obtain ⟨q3, hq, h⟩ := bnd h
      refine go_call (fun _ hw => c_M_turn hq hw) ?_
      cases h
      exact hQ
set_option maxRecDepth 20000 in
set_option maxHeartbeats 4000000 in
theorem cb_M_blow_L24 {xs : Nat → Int32} {L d : Nat} {P : MK S2} {Q : S2 → Option MV → Prop} {res : S2} (hP : MClosed (O3 xs L) (kcall (O3 xs L) (d + 4)) kd_M_blow 0 Q P) (hQ : Q res none) {k24 : Int32 → Int32 → S2 → Option S2} (hk24 : ∀ (x1 : Int32) (x2 : Int32) (s : S2), k24 x1 x2 s = some res → P 24 [some (mR 60 0), some (mI x1), some (mI x2)] [] s (0, 0)) (x1 : Int32) (x2 : Int32) (s : S2) (h : b_M_blow_L24 k24 x1 x2 s = some res) : P 24 [some (mR 60 0), some (mI x1), some (mI x2)] [] s (0, 0) := by
  refine mgo_from hP [24, 36, 50, 108] 260 ?_
  obtain ⟨q1, hq, h⟩ := bnd h
  refine go_call (fun _ hw => c_M_isHead hq hw) ?_
  refine go_br (fun hc : (bI q1) = 0 => ?_) (fun hc : ¬ ((bI q1) = 0) => ?_)
  · replace h := (if_pos hc).symm.trans h
    exact c_M_blow_L36 hP hQ hk24 _ _ _ h
  · replace h := (if_neg hc).symm.trans h
    refine go_br (fun hc : x1 ≤ 0 => ?_) (fun hc : ¬ (x1 ≤ 0) => ?_)
    · replace h := (if_pos hc).symm.trans h
      obtain ⟨j2, hj, h⟩ := bnd h
      refine go_ix j2 (ix_lt hj) (ix_eq hj) ?_
      obtain ⟨q3, hq, h⟩ := bnd h
      refine go_call (fun _ hw => c_M_draw hq hw) ?_
      refine go_call (fun _ hw => c_M_within hw) ?_
      obtain ⟨j5, hj, h⟩ := bnd h
      replace h := bnds h
      refine go_ix j5 (ix_lt hj) (ix_eq hj) ?_
      obtain ⟨j6, hj, h⟩ := bnd h
      refine go_ix j6 (ix_lt hj) (ix_eq hj) ?_
      obtain ⟨q7, hq, h⟩ := bnd h
      refine go_call (fun _ hw => c_M_draw hq hw) ?_
      refine go_call (fun _ hw => c_M_within hw) ?_
      obtain ⟨j9, hj, h⟩ := bnd h
      replace h := bnds h
      refine go_ix j9 (ix_lt hj) (ix_eq hj) ?_
      exact c_M_blow_L108 hP hQ (some x1) (some x2) _ h
    · replace h := (if_neg hc).symm.trans h
      exact c_M_blow_L36 hP hQ hk24 _ _ _ h
theorem c_M_blow_L24 {xs : Nat → Int32} {L d : Nat} {P : MK S2} {Q : S2 → Option MV → Prop} {res : S2} (hP : MClosed (O3 xs L) (kcall (O3 xs L) (d + 4)) kd_M_blow 0 Q P) (hQ : Q res none) : ∀ (fu : Nat) (x1 : Int32) (x2 : Int32) (s : S2), f_M_blow_L24 fu x1 x2 s = some res → P 24 [some (mR 60 0), some (mI x1), some (mI x2)] [] s (0, 0)
  | 0, _, _, _, h => by cases h
  | fu + 1, x1, x2, s, h => cb_M_blow_L24 hP hQ (c_M_blow_L24 hP hQ fu) x1 x2 s h
theorem c_M_blow {xs : Nat → Int32} {L d : Nat} {s : S2} {res : S2} {Q : S2 → Option MV → Prop} (h : f_M_blow s = some res) (hQ : Q res none) : kcall (O3 xs L) (d + 5) k_M_blow [mR 60 0] s Q := by
  refine kc_of (cd := kd_M_blow) (mx := 3) (rt := 0) rfl rfl ?_
  intro P hP
  refine mgo_sound hP [24, 36, 50, 108] 260 _ _ _ _ _ ?_
  obtain ⟨q1, hq, h⟩ := bnd h
  refine go_call (fun _ hw => c_M_draw hq hw) ?_
  refine go_br (fun hc : (q1.1.1 60 0 38) ≤ q1.2 => ?_) (fun hc : ¬ ((q1.1.1 60 0 38) ≤ q1.2) => ?_)
  · replace h := (if_pos hc).symm.trans h
    exact c_M_blow_L108 hP hQ none none _ h
  · replace h := (if_neg hc).symm.trans h
    obtain ⟨q2, hq, h⟩ := bnd h
    refine go_call (fun _ hw => c_M_headMany hq hw) ?_
    obtain ⟨q3, hq, h⟩ := bnd h
    refine go_call (fun _ hw => c_M_draw hq hw) ?_
    exact c_M_blow_L24 hP hQ FU _ _ _ h
/-! M_undo -/
def f_M_undo (s : S2) : Option (S2 × Int32) := (if (s.1 60 0 55) = 0 then some (s, (Int32.ofInt (-1))) else ((some (pkS s 60 0 55 ((s.1 60 0 55) - (Int32.ofInt 1)))).bind fun s1 => ((some (pkS s1 60 0 57 ((s1.1 60 0 57) - (Int32.ofInt 1)))).bind fun s2 => ((f_M_read 92 0 1380 ((Int32.ofInt 46) * (s2.1 60 0 55)) (Int32.ofInt 0) s2).bind fun q3 => some (q3, (q3.1 60 0 37))))))
theorem c_M_undo {xs : Nat → Int32} {L d : Nat} {s : S2} {res : S2 × Int32} {Q : S2 → Option MV → Prop} (h : f_M_undo s = some res) (hQ : Q res.1 (some (mI res.2))) : kcall (O3 xs L) (d + 2) k_M_undo [mR 60 0] s Q := by
  refine kc_of (cd := kd_M_undo) (mx := 1) (rt := 1) rfl rfl ?_
  intro P hP
  refine mgo_sound hP [] 260 _ _ _ _ _ ?_
  refine go_brn (fun hc : ¬ ((s.1 60 0 55) = 0) => ?_) (fun hc : (s.1 60 0 55) = 0 => ?_)
  · replace h := (if_neg hc).symm.trans h
    replace h := bnds h
    replace h := bnds h
    obtain ⟨q3, hq, h⟩ := bnd h
    refine go_call (fun _ hw => c_M_read_92 hq hw) ?_
    cases h
    exact hQ
  · replace h := (if_pos hc).symm.trans h
    cases h
    exact hQ
/-! M_sees -/
def f_M_sees_L75 (k26 : Int32 → Int32 → Int32 → Int32 → S2 → Option Int32) (x1 : Int32) (x2 : Int32) (x4 : Int32) (y0 : Int32) (y1 : Int32) (s : S2) : Option Int32 := (k26 x1 x2 (y0 ||| y1) (x4 + (Int32.ofInt 1)) s)
def f_M_sees_L74 (k26 : Int32 → Int32 → Int32 → Int32 → S2 → Option Int32) (x1 : Int32) (x2 : Int32) (x4 : Int32) (y0 : Int32) (s : S2) : Option Int32 := (f_M_sees_L75 k26 x1 x2 x4 y0 (Int32.ofInt 0) s)
def b_M_sees_L26 (k26 : Int32 → Int32 → Int32 → Int32 → S2 → Option Int32) (x1 : Int32) (x2 : Int32) (x3 : Int32) (x4 : Int32) (s : S2) : Option Int32 := (if (s.1 60 0 28) ≤ x4 then some x3 else ((f_M_isHead x4 s).bind fun q1 => (if (bI q1) = 0 then (f_M_sees_L74 k26 x1 x2 x4 x3 s) else ((ix 6 x1).bind fun j2 => (if x4 = (s.1 82 0 j2) then (f_M_sees_L74 k26 x1 x2 x4 x3 s) else ((f_M_isNear x1 x4 x2 s).bind fun q3 => (if (bI q3) = 0 then (f_M_sees_L74 k26 x1 x2 x4 x3 s) else (f_M_sees_L75 k26 x1 x2 x4 x3 ((Int32.ofInt 1) <<< (x4 &&& 31)) s))))))))
def f_M_sees_L26 : Nat → Int32 → Int32 → Int32 → Int32 → S2 → Option Int32
  | 0 => fun _ _ _ _ _ => none
  | n + 1 => b_M_sees_L26 (f_M_sees_L26 n)
def f_M_sees (a1 : Int32) (a2 : Int32) (s : S2) : Option Int32 := (if (bI (g_M_isIsle a1 s)) = 0 then some (Int32.ofInt (-1)) else (if (bI (g_M_in a2 (Int32.ofInt 0) (Int32.ofInt 999) s)) = 0 then some (Int32.ofInt (-1)) else (f_M_sees_L26 FU a1 a2 (Int32.ofInt 0) (Int32.ofInt 0) s)))
theorem c_M_sees_L75 {xs : Nat → Int32} {L d : Nat} {P : MK S2} {Q : S2 → Option MV → Prop} {res : Int32} {s : S2} (hP : MClosed (O3 xs L) (kcall (O3 xs L) (d + 3)) kd_M_sees 1 Q P) (hQ : Q s (some (mI res))) {k26 : Int32 → Int32 → Int32 → Int32 → S2 → Option Int32} (hk26 : ∀ (x1 : Int32) (x2 : Int32) (x3 : Int32) (x4 : Int32), k26 x1 x2 x3 x4 s = some res → P 26 [some (mR 60 0), some (mI x1), some (mI x2), some (mI x3), some (mI x4)] [] s (0, 0)) (x1 : Int32) (x2 : Int32) (x4 : Int32) (y0 : Int32) (y1 : Int32) (x3 : Int32) (h : f_M_sees_L75 k26 x1 x2 x4 y0 y1 s = some res) : P 75 [some (mR 60 0), some (mI x1), some (mI x2), some (mI x3), some (mI x4)] [mI y1, mI y0] s (0, 0) := by
  refine mgo_from hP [26, 74, 75] 260 ?_
  exact hk26 _ _ _ _ h
theorem c_M_sees_L74 {xs : Nat → Int32} {L d : Nat} {P : MK S2} {Q : S2 → Option MV → Prop} {res : Int32} {s : S2} (hP : MClosed (O3 xs L) (kcall (O3 xs L) (d + 3)) kd_M_sees 1 Q P) (hQ : Q s (some (mI res))) {k26 : Int32 → Int32 → Int32 → Int32 → S2 → Option Int32} (hk26 : ∀ (x1 : Int32) (x2 : Int32) (x3 : Int32) (x4 : Int32), k26 x1 x2 x3 x4 s = some res → P 26 [some (mR 60 0), some (mI x1), some (mI x2), some (mI x3), some (mI x4)] [] s (0, 0)) (x1 : Int32) (x2 : Int32) (x4 : Int32) (y0 : Int32) (x3 : Int32) (h : f_M_sees_L74 k26 x1 x2 x4 y0 s = some res) : P 74 [some (mR 60 0), some (mI x1), some (mI x2), some (mI x3), some (mI x4)] [mI y0] s (0, 0) := by
  refine mgo_from hP [26, 74, 75] 260 ?_
  exact c_M_sees_L75 hP hQ hk26 _ _ _ _ _ _ h
theorem cb_M_sees_L26 {xs : Nat → Int32} {L d : Nat} {P : MK S2} {Q : S2 → Option MV → Prop} {res : Int32} {s : S2} (hP : MClosed (O3 xs L) (kcall (O3 xs L) (d + 3)) kd_M_sees 1 Q P) (hQ : Q s (some (mI res))) {k26 : Int32 → Int32 → Int32 → Int32 → S2 → Option Int32} (hk26 : ∀ (x1 : Int32) (x2 : Int32) (x3 : Int32) (x4 : Int32), k26 x1 x2 x3 x4 s = some res → P 26 [some (mR 60 0), some (mI x1), some (mI x2), some (mI x3), some (mI x4)] [] s (0, 0)) (x1 : Int32) (x2 : Int32) (x3 : Int32) (x4 : Int32) (h : b_M_sees_L26 k26 x1 x2 x3 x4 s = some res) : P 26 [some (mR 60 0), some (mI x1), some (mI x2), some (mI x3), some (mI x4)] [] s (0, 0) := by
  refine mgo_from hP [26, 74, 75] 260 ?_
  refine go_br (fun hc : (s.1 60 0 28) ≤ x4 => ?_) (fun hc : ¬ ((s.1 60 0 28) ≤ x4) => ?_)
  · replace h := (if_pos hc).symm.trans h
    cases h
    exact hQ
  · replace h := (if_neg hc).symm.trans h
    obtain ⟨q1, hq, h⟩ := bnd h
    refine go_call (fun _ hw => c_M_isHead hq hw) ?_
    refine go_br (fun hc : (bI q1) = 0 => ?_) (fun hc : ¬ ((bI q1) = 0) => ?_)
    · replace h := (if_pos hc).symm.trans h
      exact c_M_sees_L74 hP hQ hk26 _ _ _ _ _ h
    · replace h := (if_neg hc).symm.trans h
      obtain ⟨j2, hj, h⟩ := bnd h
      refine go_ix j2 (ix_lt hj) (ix_eq hj) ?_
      refine go_br (fun hc : x4 = (s.1 82 0 j2) => ?_) (fun hc : ¬ (x4 = (s.1 82 0 j2)) => ?_)
      · replace h := (if_pos hc).symm.trans h
        exact c_M_sees_L74 hP hQ hk26 _ _ _ _ _ h
      · replace h := (if_neg hc).symm.trans h
        obtain ⟨q3, hq, h⟩ := bnd h
        refine go_call (fun _ hw => c_M_isNear hq hw) ?_
        refine go_br (fun hc : (bI q3) = 0 => ?_) (fun hc : ¬ ((bI q3) = 0) => ?_)
        · replace h := (if_pos hc).symm.trans h
          exact c_M_sees_L74 hP hQ hk26 _ _ _ _ _ h
        · replace h := (if_neg hc).symm.trans h
          exact c_M_sees_L75 hP hQ hk26 _ _ _ _ _ _ h
theorem c_M_sees_L26 {xs : Nat → Int32} {L d : Nat} {P : MK S2} {Q : S2 → Option MV → Prop} {res : Int32} {s : S2} (hP : MClosed (O3 xs L) (kcall (O3 xs L) (d + 3)) kd_M_sees 1 Q P) (hQ : Q s (some (mI res))) : ∀ (fu : Nat) (x1 : Int32) (x2 : Int32) (x3 : Int32) (x4 : Int32), f_M_sees_L26 fu x1 x2 x3 x4 s = some res → P 26 [some (mR 60 0), some (mI x1), some (mI x2), some (mI x3), some (mI x4)] [] s (0, 0)
  | 0, _, _, _, _, h => by cases h
  | fu + 1, x1, x2, x3, x4, h => cb_M_sees_L26 hP hQ (c_M_sees_L26 hP hQ fu) x1 x2 x3 x4 h
theorem c_M_sees {xs : Nat → Int32} {L d : Nat} {a1 : Int32} {a2 : Int32} {s : S2} {res : Int32} {Q : S2 → Option MV → Prop} (h : f_M_sees a1 a2 s = some res) (hQ : Q s (some (mI res))) : kcall (O3 xs L) (d + 4) k_M_sees [mR 60 0, mI a1, mI a2] s Q := by
  refine kc_of (cd := kd_M_sees) (mx := 5) (rt := 1) rfl rfl ?_
  intro P hP
  refine mgo_sound hP [26, 74, 75] 260 _ _ _ _ _ ?_
  refine go_call (fun _ hw => c_M_isIsle hw) ?_
  refine go_br (fun hc : (bI (g_M_isIsle a1 s)) = 0 => ?_) (fun hc : ¬ ((bI (g_M_isIsle a1 s)) = 0) => ?_)
  · replace h := (if_pos hc).symm.trans h
    cases h
    exact hQ
  · replace h := (if_neg hc).symm.trans h
    refine go_call (fun _ hw => c_M_in hw) ?_
    refine go_brn (fun hc : ¬ ((bI (g_M_in a2 (Int32.ofInt 0) (Int32.ofInt 999) s)) = 0) => ?_) (fun hc : (bI (g_M_in a2 (Int32.ofInt 0) (Int32.ofInt 999) s)) = 0 => ?_)
    · replace h := (if_neg hc).symm.trans h
      exact c_M_sees_L26 hP hQ FU _ _ _ _ h
    · replace h := (if_pos hc).symm.trans h
      cases h
      exact hQ
/-! M_everywhere -/
def f_M_everywhere (a1 : Int32) (s : S2) : Option Int32 := (if (s.1 60 0 28) ≤ 0 then some (Int32.ofInt (-1)) else (if (bI (g_M_in a1 (Int32.ofInt 0) (Int32.ofInt 999) s)) = 0 then some (Int32.ofInt (-1)) else ((f_M_fromAll a1 s).bind fun q1 => some q1)))
theorem c_M_everywhere {xs : Nat → Int32} {L d : Nat} {a1 : Int32} {s : S2} {res : Int32} {Q : S2 → Option MV → Prop} (h : f_M_everywhere a1 s = some res) (hQ : Q s (some (mI res))) : kcall (O3 xs L) (d + 5) k_M_everywhere [mR 60 0, mI a1] s Q := by
  refine kc_of (cd := kd_M_everywhere) (mx := 2) (rt := 1) rfl rfl ?_
  intro P hP
  refine mgo_sound hP [] 260 _ _ _ _ _ ?_
  refine go_br (fun hc : (s.1 60 0 28) ≤ 0 => ?_) (fun hc : ¬ ((s.1 60 0 28) ≤ 0) => ?_)
  · replace h := (if_pos hc).symm.trans h
    cases h
    exact hQ
  · replace h := (if_neg hc).symm.trans h
    refine go_call (fun _ hw => c_M_in hw) ?_
    refine go_br (fun hc : (bI (g_M_in a1 (Int32.ofInt 0) (Int32.ofInt 999) s)) = 0 => ?_) (fun hc : ¬ ((bI (g_M_in a1 (Int32.ofInt 0) (Int32.ofInt 999) s)) = 0) => ?_)
    · replace h := (if_pos hc).symm.trans h
      cases h
      exact hQ
    · replace h := (if_neg hc).symm.trans h
      obtain ⟨q1, hq, h⟩ := bnd h
      refine go_call (fun _ hw => c_M_fromAll hq hw) ?_
      cases h
      exact hQ
/-! M_lands -/
def f_M_lands_L94 (k37 : Int32 → Int32 → Int32 → Int32 → Int32 → S2 → Option Int32) (x1 : Int32) (x2 : Int32) (x3 : Int32) (x4 : Int32) (x5 : Int32) (s : S2) : Option Int32 := (k37 x1 x2 x3 x4 (x5 + (Int32.ofInt 1)) s)
def f_M_lands_L80 (k37 : Int32 → Int32 → Int32 → Int32 → Int32 → S2 → Option Int32) (x1 : Int32) (x2 : Int32) (x4 : Int32) (x5 : Int32) (x6 : Int32) (y0 : Int32) (y1 : Int32) (s : S2) : Option Int32 := (f_M_lands_L94 k37 x1 x2 (y0 + y1) (jmax x4 (g_Integer_bitCount x6 s)) x5 s)
def b_M_lands_L37 (k37 : Int32 → Int32 → Int32 → Int32 → Int32 → S2 → Option Int32) (x1 : Int32) (x2 : Int32) (x3 : Int32) (x4 : Int32) (x5 : Int32) (s : S2) : Option Int32 := (if (s.1 60 0 28) ≤ x5 then (if x2 = 0 then some x3 else some x4) else ((f_M_isHead x5 s).bind fun q1 => (if (bI q1) = 0 then (f_M_lands_L94 k37 x1 x2 x3 x4 x5 s) else ((f_M_landOf x5 x1 s).bind fun q2 => (if (g_Integer_numberOfTrailingZeros q2 s) = x5 then (f_M_lands_L80 k37 x1 x2 x4 x5 q2 x3 (Int32.ofInt 1) s) else (f_M_lands_L80 k37 x1 x2 x4 x5 q2 x3 (Int32.ofInt 0) s))))))
def f_M_lands_L37 : Nat → Int32 → Int32 → Int32 → Int32 → Int32 → S2 → Option Int32
  | 0 => fun _ _ _ _ _ _ => none
  | n + 1 => b_M_lands_L37 (f_M_lands_L37 n)
def f_M_lands (a1 : Int32) (a2 : Int32) (s : S2) : Option Int32 := (if (s.1 60 0 28) = 0 then some (Int32.ofInt (-1)) else (if (bI (g_M_in a1 (Int32.ofInt 0) (Int32.ofInt 999) s)) = 0 then some (Int32.ofInt (-1)) else (if (bI (g_M_in a2 (Int32.ofInt 0) (Int32.ofInt 1) s)) = 0 then some (Int32.ofInt (-1)) else (f_M_lands_L37 FU a1 a2 (Int32.ofInt 0) (Int32.ofInt 0) (Int32.ofInt 0) s))))
theorem c_M_lands_L94 {xs : Nat → Int32} {L d : Nat} {P : MK S2} {Q : S2 → Option MV → Prop} {res : Int32} {s : S2} (hP : MClosed (O3 xs L) (kcall (O3 xs L) (d + 4)) kd_M_lands 1 Q P) (hQ : Q s (some (mI res))) {k37 : Int32 → Int32 → Int32 → Int32 → Int32 → S2 → Option Int32} (hk37 : ∀ (x1 : Int32) (x2 : Int32) (x3 : Int32) (x4 : Int32) (x5 : Int32) (x6 : Option Int32), k37 x1 x2 x3 x4 x5 s = some res → P 37 [some (mR 60 0), some (mI x1), some (mI x2), some (mI x3), some (mI x4), some (mI x5), oI x6] [] s (0, 0)) (x1 : Int32) (x2 : Int32) (x3 : Int32) (x4 : Int32) (x5 : Int32) (x6 : Option Int32) (h : f_M_lands_L94 k37 x1 x2 x3 x4 x5 s = some res) : P 94 [some (mR 60 0), some (mI x1), some (mI x2), some (mI x3), some (mI x4), some (mI x5), oI x6] [] s (0, 0) := by
  refine mgo_from hP [37, 80, 94] 260 ?_
  exact hk37 _ _ _ _ _ x6 h
theorem c_M_lands_L80 {xs : Nat → Int32} {L d : Nat} {P : MK S2} {Q : S2 → Option MV → Prop} {res : Int32} {s : S2} (hP : MClosed (O3 xs L) (kcall (O3 xs L) (d + 4)) kd_M_lands 1 Q P) (hQ : Q s (some (mI res))) {k37 : Int32 → Int32 → Int32 → Int32 → Int32 → S2 → Option Int32} (hk37 : ∀ (x1 : Int32) (x2 : Int32) (x3 : Int32) (x4 : Int32) (x5 : Int32) (x6 : Option Int32), k37 x1 x2 x3 x4 x5 s = some res → P 37 [some (mR 60 0), some (mI x1), some (mI x2), some (mI x3), some (mI x4), some (mI x5), oI x6] [] s (0, 0)) (x1 : Int32) (x2 : Int32) (x4 : Int32) (x5 : Int32) (x6 : Int32) (y0 : Int32) (y1 : Int32) (x3 : Int32) (h : f_M_lands_L80 k37 x1 x2 x4 x5 x6 y0 y1 s = some res) : P 80 [some (mR 60 0), some (mI x1), some (mI x2), some (mI x3), some (mI x4), some (mI x5), some (mI x6)] [mI y1, mI y0] s (0, 0) := by
  refine mgo_from hP [37, 80, 94] 260 ?_
  refine go_call (fun _ hw => c_Integer_bitCount hw) ?_
  exact c_M_lands_L94 hP hQ hk37 _ _ _ _ _ (some x6) h
theorem cb_M_lands_L37 {xs : Nat → Int32} {L d : Nat} {P : MK S2} {Q : S2 → Option MV → Prop} {res : Int32} {s : S2} (hP : MClosed (O3 xs L) (kcall (O3 xs L) (d + 4)) kd_M_lands 1 Q P) (hQ : Q s (some (mI res))) {k37 : Int32 → Int32 → Int32 → Int32 → Int32 → S2 → Option Int32} (hk37 : ∀ (x1 : Int32) (x2 : Int32) (x3 : Int32) (x4 : Int32) (x5 : Int32) (x6 : Option Int32), k37 x1 x2 x3 x4 x5 s = some res → P 37 [some (mR 60 0), some (mI x1), some (mI x2), some (mI x3), some (mI x4), some (mI x5), oI x6] [] s (0, 0)) (x1 : Int32) (x2 : Int32) (x3 : Int32) (x4 : Int32) (x5 : Int32) (x6 : Option Int32) (h : b_M_lands_L37 k37 x1 x2 x3 x4 x5 s = some res) : P 37 [some (mR 60 0), some (mI x1), some (mI x2), some (mI x3), some (mI x4), some (mI x5), oI x6] [] s (0, 0) := by
  refine mgo_from hP [37, 80, 94] 260 ?_
  refine go_br (fun hc : (s.1 60 0 28) ≤ x5 => ?_) (fun hc : ¬ ((s.1 60 0 28) ≤ x5) => ?_)
  · replace h := (if_pos hc).symm.trans h
    refine go_brn (fun hc : ¬ (x2 = 0) => ?_) (fun hc : x2 = 0 => ?_)
    · replace h := (if_neg hc).symm.trans h
      cases h
      exact hQ
    · replace h := (if_pos hc).symm.trans h
      cases h
      exact hQ
  · replace h := (if_neg hc).symm.trans h
    obtain ⟨q1, hq, h⟩ := bnd h
    refine go_call (fun _ hw => c_M_isHead hq hw) ?_
    refine go_br (fun hc : (bI q1) = 0 => ?_) (fun hc : ¬ ((bI q1) = 0) => ?_)
    · replace h := (if_pos hc).symm.trans h
      exact c_M_lands_L94 hP hQ hk37 _ _ _ _ _ x6 h
    · replace h := (if_neg hc).symm.trans h
      obtain ⟨q2, hq, h⟩ := bnd h
      refine go_call (fun _ hw => c_M_landOf hq hw) ?_
      refine go_call (fun _ hw => c_Integer_numberOfTrailingZeros hw) ?_
      refine go_brn (fun hc : ¬ ((g_Integer_numberOfTrailingZeros q2 s) = x5) => ?_) (fun hc : (g_Integer_numberOfTrailingZeros q2 s) = x5 => ?_)
      · replace h := (if_neg hc).symm.trans h
        exact c_M_lands_L80 hP hQ hk37 _ _ _ _ _ _ _ _ h
      · replace h := (if_pos hc).symm.trans h
        exact c_M_lands_L80 hP hQ hk37 _ _ _ _ _ _ _ _ h
theorem c_M_lands_L37 {xs : Nat → Int32} {L d : Nat} {P : MK S2} {Q : S2 → Option MV → Prop} {res : Int32} {s : S2} (hP : MClosed (O3 xs L) (kcall (O3 xs L) (d + 4)) kd_M_lands 1 Q P) (hQ : Q s (some (mI res))) : ∀ (fu : Nat) (x1 : Int32) (x2 : Int32) (x3 : Int32) (x4 : Int32) (x5 : Int32) (x6 : Option Int32), f_M_lands_L37 fu x1 x2 x3 x4 x5 s = some res → P 37 [some (mR 60 0), some (mI x1), some (mI x2), some (mI x3), some (mI x4), some (mI x5), oI x6] [] s (0, 0)
  | 0, _, _, _, _, _, _, h => by cases h
  | fu + 1, x1, x2, x3, x4, x5, x6, h => cb_M_lands_L37 hP hQ (c_M_lands_L37 hP hQ fu) x1 x2 x3 x4 x5 x6 h
theorem c_M_lands {xs : Nat → Int32} {L d : Nat} {a1 : Int32} {a2 : Int32} {s : S2} {res : Int32} {Q : S2 → Option MV → Prop} (h : f_M_lands a1 a2 s = some res) (hQ : Q s (some (mI res))) : kcall (O3 xs L) (d + 5) k_M_lands [mR 60 0, mI a1, mI a2] s Q := by
  refine kc_of (cd := kd_M_lands) (mx := 7) (rt := 1) rfl rfl ?_
  intro P hP
  refine mgo_sound hP [37, 80, 94] 260 _ _ _ _ _ ?_
  refine go_br (fun hc : (s.1 60 0 28) = 0 => ?_) (fun hc : ¬ ((s.1 60 0 28) = 0) => ?_)
  · replace h := (if_pos hc).symm.trans h
    cases h
    exact hQ
  · replace h := (if_neg hc).symm.trans h
    refine go_call (fun _ hw => c_M_in hw) ?_
    refine go_br (fun hc : (bI (g_M_in a1 (Int32.ofInt 0) (Int32.ofInt 999) s)) = 0 => ?_) (fun hc : ¬ ((bI (g_M_in a1 (Int32.ofInt 0) (Int32.ofInt 999) s)) = 0) => ?_)
    · replace h := (if_pos hc).symm.trans h
      cases h
      exact hQ
    · replace h := (if_neg hc).symm.trans h
      refine go_call (fun _ hw => c_M_in hw) ?_
      refine go_brn (fun hc : ¬ ((bI (g_M_in a2 (Int32.ofInt 0) (Int32.ofInt 1) s)) = 0) => ?_) (fun hc : (bI (g_M_in a2 (Int32.ofInt 0) (Int32.ofInt 1) s)) = 0 => ?_)
      · replace h := (if_neg hc).symm.trans h
        exact c_M_lands_L37 hP hQ FU _ _ _ _ _ none h
      · replace h := (if_pos hc).symm.trans h
        cases h
        exact hQ
/-! Arrays_fill2 -/
def b_Arrays_fill2_L10 (c0 : Nat) (i0 : Nat) (n0 : Nat) (k10 : Int32 → Int32 → Int32 → S2 → Option S2) (x2 : Int32) (x3 : Int32) (x4 : Int32) (s : S2) : Option S2 := (if x2 ≤ x4 then some s else ((ix n0 x4).bind fun j2 => (some (pkS s c0 i0 j2 x3)).bind fun s1 => (k10 x2 x3 (x4 + (Int32.ofInt 1)) s1)))
def f_Arrays_fill2_L10 (c0 : Nat) (i0 : Nat) (n0 : Nat) : Nat → Int32 → Int32 → Int32 → S2 → Option S2
  | 0 => fun _ _ _ _ => none
  | n + 1 => b_Arrays_fill2_L10 c0 i0 n0 (f_Arrays_fill2_L10 c0 i0 n0 n)
def f_Arrays_fill2 (c0 : Nat) (i0 : Nat) (n0 : Nat) (a1 : Int32) (a2 : Int32) (a3 : Int32) (s : S2) : Option S2 := ((f_Arrays_rangeCheck (nI n0) a1 a2 s).bind fun q1 => (f_Arrays_fill2_L10 c0 i0 n0 FU a2 a3 a1 q1))
theorem cb_Arrays_fill2_21_L10 {xs : Nat → Int32} {L d : Nat} {i0 : Nat} {P : MK S2} {Q : S2 → Option MV → Prop} {res : S2} (hP : MClosed (O3 xs L) (kcall (O3 xs L) (d + 1)) kd_Arrays_fill2 0 Q P) (hQ : Q res none) {k10 : Int32 → Int32 → Int32 → S2 → Option S2} (hk10 : ∀ (x2 : Int32) (x3 : Int32) (x4 : Int32) (x1 : Int32) (s : S2), k10 x2 x3 x4 s = some res → P 10 [some (mR 21 i0), some (mI x1), some (mI x2), some (mI x3), some (mI x4)] [] s (0, 0)) (x2 : Int32) (x3 : Int32) (x4 : Int32) (x1 : Int32) (s : S2) (h : b_Arrays_fill2_L10 21 i0 49 k10 x2 x3 x4 s = some res) : P 10 [some (mR 21 i0), some (mI x1), some (mI x2), some (mI x3), some (mI x4)] [] s (0, 0) := by
  refine mgo_from hP [10] 260 ?_
  refine go_br (fun hc : x2 ≤ x4 => ?_) (fun hc : ¬ (x2 ≤ x4) => ?_)
  · replace h := (if_pos hc).symm.trans h
    cases h
    exact hQ
  · replace h := (if_neg hc).symm.trans h
    obtain ⟨j2, hj, h⟩ := bnd h
    replace h := bnds h
    refine go_ix j2 (ix_lt hj) (ix_eq hj) ?_
    exact hk10 _ _ _ _ _ h
theorem c_Arrays_fill2_21_L10 {xs : Nat → Int32} {L d : Nat} {i0 : Nat} {P : MK S2} {Q : S2 → Option MV → Prop} {res : S2} (hP : MClosed (O3 xs L) (kcall (O3 xs L) (d + 1)) kd_Arrays_fill2 0 Q P) (hQ : Q res none) : ∀ (fu : Nat) (x2 : Int32) (x3 : Int32) (x4 : Int32) (x1 : Int32) (s : S2), f_Arrays_fill2_L10 21 i0 49 fu x2 x3 x4 s = some res → P 10 [some (mR 21 i0), some (mI x1), some (mI x2), some (mI x3), some (mI x4)] [] s (0, 0)
  | 0, _, _, _, _, _, h => by cases h
  | fu + 1, x2, x3, x4, x1, s, h => cb_Arrays_fill2_21_L10 hP hQ (c_Arrays_fill2_21_L10 hP hQ fu) x2 x3 x4 x1 s h
theorem c_Arrays_fill2_21 {xs : Nat → Int32} {L d : Nat} {i0 : Nat} {a1 : Int32} {a2 : Int32} {a3 : Int32} {s : S2} {res : S2} {Q : S2 → Option MV → Prop} (h : f_Arrays_fill2 21 i0 49 a1 a2 a3 s = some res) (hQ : Q res none) : kcall (O3 xs L) (d + 2) k_Arrays_fill2 [mR 21 i0, mI a1, mI a2, mI a3] s Q := by
  refine kc_of (cd := kd_Arrays_fill2) (mx := 5) (rt := 0) rfl rfl ?_
  intro P hP
  refine mgo_sound hP [10] 260 _ _ _ _ _ ?_
  obtain ⟨q1, hq, h⟩ := bnd h
  refine go_call (fun _ hw => c_Arrays_rangeCheck hq hw) ?_
  exact c_Arrays_fill2_21_L10 hP hQ FU _ _ _ _ _ h
/-! String_checkIndex -/
def f_String_checkIndex (a0 : Int32) (a1 : Int32) (s : S2) : Option S2 := ((f_Pre_checkIndex a0 a1 s).bind fun q1 => some s)
theorem c_String_checkIndex {xs : Nat → Int32} {L d : Nat} {a0 : Int32} {a1 : Int32} {s : S2} {res : S2} {Q : S2 → Option MV → Prop} (h : f_String_checkIndex a0 a1 s = some res) (hQ : Q res none) : kcall (O3 xs L) (d + 2) k_String_checkIndex [mI a0, mI a1] s Q := by
  refine kc_of (cd := kd_String_checkIndex) (mx := 2) (rt := 0) rfl rfl ?_
  intro P hP
  refine mgo_sound hP [] 260 _ _ _ _ _ ?_
  obtain ⟨q1, hq, h⟩ := bnd h
  refine go_call (fun _ hw => c_Pre_checkIndex hq hw) ?_
  cases h
  exact hQ
/-! Latin_charAt -/
def f_Latin_charAt (r0 : Nat) (a1 : Int32) (s : S2) : Option (S2 × Int32) := ((f_String_checkIndex a1 (nI (kbyt r0).length) s).bind fun q1 => ((ix (kbyt r0).length a1).bind fun j2 => ((rc (ji2c ((lgD (kbyt r0) j2) &&& (Int32.ofInt 255)))).bind fun b3 => some (q1, b3))))
theorem c_Latin_charAt {xs : Nat → Int32} {L d : Nat} {r0 : Nat} {a1 : Int32} {s : S2} {res : S2 × Int32} {Q : S2 → Option MV → Prop} (h : f_Latin_charAt r0 a1 s = some res) (hQ : Q res.1 (some (mI res.2))) : kcall (O3 xs L) (d + 3) k_Latin_charAt [mR 3 r0, mI a1] s Q := by
  refine kc_of (cd := kd_Latin_charAt) (mx := 2) (rt := 3) rfl rfl ?_
  intro P hP
  refine mgo_sound hP [] 260 _ _ _ _ _ ?_
  obtain ⟨q1, hq, h⟩ := bnd h
  refine go_call (fun _ hw => c_String_checkIndex hq hw) ?_
  obtain ⟨j2, hj, h⟩ := bnd h
  refine go_ix j2 (ix_lt hj) (ix_eq hj) ?_
  obtain ⟨b3, hb, h⟩ := bnd h
  cases h
  exact ret_c hb hQ
/-! Latin_indexOf -/
def f_Latin_indexOf (r0 : Nat) (a1 : Int32) (a2 : Int32) (a3 : Int32) (s : S2) : Option Int32 := (if (bI (g_Latin_canEncode a1 s)) = 0 then some (Int32.ofInt (-1)) else (if (jmax a2 (Int32.ofInt 0)) < (jmin a3 (nI (kbyt r0).length)) then ((f_Latin_indexOfChar r0 a1 (jmax a2 (Int32.ofInt 0)) (jmin a3 (nI (kbyt r0).length)) s).bind fun q1 => some q1) else some (Int32.ofInt (-1))))
theorem c_Latin_indexOf {xs : Nat → Int32} {L d : Nat} {r0 : Nat} {a1 : Int32} {a2 : Int32} {a3 : Int32} {s : S2} {res : Int32} {Q : S2 → Option MV → Prop} (h : f_Latin_indexOf r0 a1 a2 a3 s = some res) (hQ : Q s (some (mI res))) : kcall (O3 xs L) (d + 2) k_Latin_indexOf [mR 3 r0, mI a1, mI a2, mI a3] s Q := by
  refine kc_of (cd := kd_Latin_indexOf) (mx := 4) (rt := 1) rfl rfl ?_
  intro P hP
  refine mgo_sound hP [] 260 _ _ _ _ _ ?_
  refine go_call (fun _ hw => c_Latin_canEncode hw) ?_
  refine go_brn (fun hc : ¬ ((bI (g_Latin_canEncode a1 s)) = 0) => ?_) (fun hc : (bI (g_Latin_canEncode a1 s)) = 0 => ?_)
  · replace h := (if_neg hc).symm.trans h
    refine go_br (fun hc : (jmax a2 (Int32.ofInt 0)) < (jmin a3 (nI (kbyt r0).length)) => ?_) (fun hc : ¬ ((jmax a2 (Int32.ofInt 0)) < (jmin a3 (nI (kbyt r0).length))) => ?_)
    · replace h := (if_pos hc).symm.trans h
      obtain ⟨q1, hq, h⟩ := bnd h
      refine go_call (fun _ hw => c_Latin_indexOfChar hq hw) ?_
      cases h
      exact hQ
    · replace h := (if_neg hc).symm.trans h
      cases h
      exact hQ
  · replace h := (if_pos hc).symm.trans h
    cases h
    exact hQ
/-! Sea_readItem -/
def f_Sea_readItem_L35 (r0 : Nat) (s : S2) : Option (S2 × Bool) := ((f_Tape_stepBack s).bind fun q1 => some (q1, false))
def f_Sea_readItem (r0 : Nat) (a2 : Int32) (a3 : Int32) (s : S2) : Option (S2 × Bool) := ((f_Tape_readNumber (Int32.ofInt 2) s).bind fun q1 => (if q1.2 = (Int32.ofInt (-1)) then some (q1.1, false) else ((ix (kstat 3).length a2).bind fun j2 => (if q1.2 < (lgD (kstat 3) j2) then (f_Sea_readItem_L35 r0 q1.1) else ((ix (kstat 4).length a2).bind fun j3 => (if q1.2 ≤ (lgD (kstat 4) j3) then ((ix 152 a3).bind fun j5 => (some (pkS q1.1 14 r0 j5 q1.2)).bind fun s4 => some (s4, true)) else (f_Sea_readItem_L35 r0 q1.1)))))))
theorem c_Sea_readItem_L35 {xs : Nat → Int32} {L d : Nat} {r0 : Nat} {P : MK S2} {Q : S2 → Option MV → Prop} {res : S2 × Bool} (hP : MClosed (O3 xs L) (kcall (O3 xs L) (d + 2)) kd_Sea_readItem 2 Q P) (hQ : Q res.1 (some (mI (bI res.2)))) (x2 : Int32) (x3 : Int32) (x4 : Int32) (s : S2) (h : f_Sea_readItem_L35 r0 s = some res) : P 35 [some (mR 13 r0), some (mR 11 0), some (mI x2), some (mI x3), some (mI x4)] [] s (0, 0) := by
  refine mgo_from hP [35] 260 ?_
  obtain ⟨q1, hq, h⟩ := bnd h
  refine go_call (fun _ hw => c_Tape_stepBack hq hw) ?_
  cases h
  exact ⟨Or.inl rfl, hQ⟩
set_option maxRecDepth 20000 in
set_option maxHeartbeats 4000000 in
theorem c_Sea_readItem {xs : Nat → Int32} {L d : Nat} {r0 : Nat} {a2 : Int32} {a3 : Int32} {s : S2} {res : S2 × Bool} {Q : S2 → Option MV → Prop} (h : f_Sea_readItem r0 a2 a3 s = some res) (hQ : Q res.1 (some (mI (bI res.2)))) : kcall (O3 xs L) (d + 3) k_Sea_readItem [mR 13 r0, mR 11 0, mI a2, mI a3] s Q := by
  refine kc_of (cd := kd_Sea_readItem) (mx := 5) (rt := 2) rfl rfl ?_
  intro P hP
  refine mgo_sound hP [35] 260 _ _ _ _ _ ?_
  obtain ⟨q1, hq, h⟩ := bnd h
  refine go_call (fun _ hw => c_Tape_readNumber hq hw) ?_
  refine go_brn (fun hc : ¬ (q1.2 = (Int32.ofInt (-1))) => ?_) (fun hc : q1.2 = (Int32.ofInt (-1)) => ?_)
  · replace h := (if_neg hc).symm.trans h
    obtain ⟨j2, hj, h⟩ := bnd h
    refine go_ix j2 (ix_lt hj) (ix_eq hj) ?_
    refine go_br (fun hc : q1.2 < (lgD (kstat 3) j2) => ?_) (fun hc : ¬ (q1.2 < (lgD (kstat 3) j2)) => ?_)
    · replace h := (if_pos hc).symm.trans h
      exact c_Sea_readItem_L35 hP hQ _ _ _ _ h
    · replace h := (if_neg hc).symm.trans h
      obtain ⟨j3, hj, h⟩ := bnd h
      refine go_ix j3 (ix_lt hj) (ix_eq hj) ?_
      refine go_br (fun hc : q1.2 ≤ (lgD (kstat 4) j3) => ?_) (fun hc : ¬ (q1.2 ≤ (lgD (kstat 4) j3)) => ?_)
      · replace h := (if_pos hc).symm.trans h
        obtain ⟨j5, hj, h⟩ := bnd h
        replace h := bnds h
        refine go_ix j5 (ix_lt hj) (ix_eq hj) ?_
        cases h
        exact ⟨Or.inr rfl, hQ⟩
      · replace h := (if_neg hc).symm.trans h
        exact c_Sea_readItem_L35 hP hQ _ _ _ _ h
  · replace h := (if_pos hc).symm.trans h
    cases h
    exact ⟨Or.inl rfl, hQ⟩
/-! State_begin -/
def b_State_begin_L120 (r0 : Nat) (r1 : Nat) (k120 : Int32 → S2 → Option S2) (x2 : Int32) (s : S2) : Option S2 := (if (g_Sea_ties r1 s) ≤ x2 then ((f_Arrays_fill2 21 r0 49 (Int32.ofInt 38) (Int32.ofInt 42) (Int32.ofInt 1) s).bind fun q1 => some q1) else ((f_Sea_ofTie r1 x2 (Int32.ofInt 2) s).bind fun q2 => ((ix 49 ((Int32.ofInt 30) + x2)).bind fun j4 => (some (pkS s 21 r0 j4 q2)).bind fun s3 => (k120 (x2 + (Int32.ofInt 1)) s3))))
def f_State_begin_L120 (r0 : Nat) (r1 : Nat) : Nat → Int32 → S2 → Option S2
  | 0 => fun _ _ => none
  | n + 1 => b_State_begin_L120 r0 r1 (f_State_begin_L120 r0 r1 n)
def f_State_begin_L112 (r0 : Nat) (r1 : Nat) (k10 : Int32 → S2 → Option S2) (x2 : Int32) (s : S2) : Option S2 := (k10 (x2 + (Int32.ofInt 1)) s)
def f_State_begin_L47 (r0 : Nat) (r1 : Nat) (k10 : Int32 → S2 → Option S2) (x2 : Int32) (x3 : Int32) (y1 : Int32) (y2 : Int32) (s : S2) : Option S2 := ((ix 49 y1).bind fun j2 => (some (pkS s 21 r0 j2 y2)).bind fun s1 => (if x3 = 0 then (f_State_begin_L112 r0 r1 k10 x2 s1) else ((f_Sea_ofIsle r1 x2 (Int32.ofInt 0) s1).bind fun q3 => ((ix 49 ((Int32.ofInt 0) + x2)).bind fun j5 => (some (pkS s1 21 r0 j5 q3)).bind fun s4 => ((f_Sea_ofIsle r1 x2 (Int32.ofInt 1) s4).bind fun q6 => ((ix 49 ((Int32.ofInt 6) + x2)).bind fun j8 => (some (pkS s4 21 r0 j8 q6)).bind fun s7 => ((f_Sea_ofIsle r1 x2 (Int32.ofInt 2) s7).bind fun q9 => ((ix 49 ((Int32.ofInt 12) + x2)).bind fun j11 => (some (pkS s7 21 r0 j11 q9)).bind fun s10 => ((f_Sea_ofIsle r1 x2 (Int32.ofInt 7) s10).bind fun q12 => ((ix 49 ((Int32.ofInt 43) + x2)).bind fun j14 => (some (pkS s10 21 r0 j14 q12)).bind fun s13 => (f_State_begin_L112 r0 r1 k10 x2 s13)))))))))))
def f_State_begin_L29 (r0 : Nat) (r1 : Nat) (k10 : Int32 → S2 → Option S2) (x2 : Int32) (y0 : Int32) (s : S2) : Option S2 := (if y0 = 0 then (f_State_begin_L47 r0 r1 k10 x2 y0 ((Int32.ofInt 18) + x2) (Int32.ofInt (-1)) s) else (f_State_begin_L47 r0 r1 k10 x2 y0 ((Int32.ofInt 18) + x2) x2 s))
def b_State_begin_L10 (r0 : Nat) (r1 : Nat) (k10 : Int32 → S2 → Option S2) (x2 : Int32) (s : S2) : Option S2 := (if (Int32.ofInt 6) ≤ x2 then (f_State_begin_L120 r0 r1 FU (Int32.ofInt 0) s) else (if (g_Sea_isles r1 s) ≤ x2 then (f_State_begin_L29 r0 r1 k10 x2 (Int32.ofInt 0) s) else (f_State_begin_L29 r0 r1 k10 x2 (Int32.ofInt 1) s)))
def f_State_begin_L10 (r0 : Nat) (r1 : Nat) : Nat → Int32 → S2 → Option S2
  | 0 => fun _ _ => none
  | n + 1 => b_State_begin_L10 r0 r1 (f_State_begin_L10 r0 r1 n)
def f_State_begin (r0 : Nat) (r1 : Nat) (s : S2) : Option S2 := ((f_Arrays_fill 21 r0 49 (Int32.ofInt 0) s).bind fun q1 => (f_State_begin_L10 r0 r1 FU (Int32.ofInt 0) q1))
theorem cb_State_begin_L120 {xs : Nat → Int32} {L d : Nat} {r0 r1 : Nat} {P : MK S2} {Q : S2 → Option MV → Prop} {res : S2} (hP : MClosed (O3 xs L) (kcall (O3 xs L) (d + 2)) kd_State_begin 0 Q P) (hQ : Q res none) {k120 : Int32 → S2 → Option S2} (hk120 : ∀ (x2 : Int32) (x3 : Option Int32) (s : S2), k120 x2 s = some res → P 120 [some (mR 20 r0), some (mR 13 r1), some (mI x2), oI x3] [] s (0, 0)) (x2 : Int32) (x3 : Option Int32) (s : S2) (h : b_State_begin_L120 r0 r1 k120 x2 s = some res) : P 120 [some (mR 20 r0), some (mR 13 r1), some (mI x2), oI x3] [] s (0, 0) := by
  refine mgo_from hP [10, 29, 47, 112, 120] 260 ?_
  refine go_call (fun _ hw => c_Sea_ties hw) ?_
  refine go_br (fun hc : (g_Sea_ties r1 s) ≤ x2 => ?_) (fun hc : ¬ ((g_Sea_ties r1 s) ≤ x2) => ?_)
  · replace h := (if_pos hc).symm.trans h
    obtain ⟨q1, hq, h⟩ := bnd h
    refine go_call (fun _ hw => c_Arrays_fill2_21 hq hw) ?_
    cases h
    exact hQ
  · replace h := (if_neg hc).symm.trans h
    obtain ⟨q2, hq, h⟩ := bnd h
    refine go_call (fun _ hw => c_Sea_ofTie hq hw) ?_
    obtain ⟨j4, hj, h⟩ := bnd h
    replace h := bnds h
    refine go_ix j4 (ix_lt hj) (ix_eq hj) ?_
    exact hk120 _ x3 _ h
theorem c_State_begin_L120 {xs : Nat → Int32} {L d : Nat} {r0 r1 : Nat} {P : MK S2} {Q : S2 → Option MV → Prop} {res : S2} (hP : MClosed (O3 xs L) (kcall (O3 xs L) (d + 2)) kd_State_begin 0 Q P) (hQ : Q res none) : ∀ (fu : Nat) (x2 : Int32) (x3 : Option Int32) (s : S2), f_State_begin_L120 r0 r1 fu x2 s = some res → P 120 [some (mR 20 r0), some (mR 13 r1), some (mI x2), oI x3] [] s (0, 0)
  | 0, _, _, _, h => by cases h
  | fu + 1, x2, x3, s, h => cb_State_begin_L120 hP hQ (c_State_begin_L120 hP hQ fu) x2 x3 s h
theorem c_State_begin_L112 {xs : Nat → Int32} {L d : Nat} {r0 r1 : Nat} {P : MK S2} {Q : S2 → Option MV → Prop} {res : S2} (hP : MClosed (O3 xs L) (kcall (O3 xs L) (d + 2)) kd_State_begin 0 Q P) (hQ : Q res none) {k10 : Int32 → S2 → Option S2} (hk10 : ∀ (x2 : Int32) (x3 : Option Int32) (s : S2), k10 x2 s = some res → P 10 [some (mR 20 r0), some (mR 13 r1), some (mI x2), oI x3] [] s (0, 0)) (x2 : Int32) (x3 : Int32) (s : S2) (h : f_State_begin_L112 r0 r1 k10 x2 s = some res) : P 112 [some (mR 20 r0), some (mR 13 r1), some (mI x2), some (mI x3)] [] s (0, 0) := by
  refine mgo_from hP [10, 29, 47, 112, 120] 260 ?_
  exact hk10 _ (some x3) _ h
set_option maxRecDepth 20000 in
set_option maxHeartbeats 4000000 in
theorem c_State_begin_L47 {xs : Nat → Int32} {L d : Nat} {r0 r1 : Nat} {P : MK S2} {Q : S2 → Option MV → Prop} {res : S2} (hP : MClosed (O3 xs L) (kcall (O3 xs L) (d + 2)) kd_State_begin 0 Q P) (hQ : Q res none) {k10 : Int32 → S2 → Option S2} (hk10 : ∀ (x2 : Int32) (x3 : Option Int32) (s : S2), k10 x2 s = some res → P 10 [some (mR 20 r0), some (mR 13 r1), some (mI x2), oI x3] [] s (0, 0)) (x2 : Int32) (x3 : Int32) (y1 : Int32) (y2 : Int32) (s : S2) (h : f_State_begin_L47 r0 r1 k10 x2 x3 y1 y2 s = some res) : P 47 [some (mR 20 r0), some (mR 13 r1), some (mI x2), some (mI x3)] [mI y2, mI y1, mR 21 r0] s (0, 0) := by
  refine mgo_from hP [10, 29, 47, 112, 120] 260 ?_
  obtain ⟨j2, hj, h⟩ := bnd h
  replace h := bnds h
  refine go_ix j2 (ix_lt hj) (ix_eq hj) ?_
  refine go_br (fun hc : x3 = 0 => ?_) (fun hc : ¬ (x3 = 0) => ?_)
  · replace h := (if_pos hc).symm.trans h
    exact c_State_begin_L112 hP hQ hk10 _ _ _ h
  · replace h := (if_neg hc).symm.trans h
    obtain ⟨q3, hq, h⟩ := bnd h
    refine go_call (fun _ hw => c_Sea_ofIsle hq hw) ?_
    obtain ⟨j5, hj, h⟩ := bnd h
    replace h := bnds h
    refine go_ix j5 (ix_lt hj) (ix_eq hj) ?_
    obtain ⟨q6, hq, h⟩ := bnd h
    refine go_call (fun _ hw => c_Sea_ofIsle hq hw) ?_
    obtain ⟨j8, hj, h⟩ := bnd h
    replace h := bnds h
    refine go_ix j8 (ix_lt hj) (ix_eq hj) ?_
    obtain ⟨q9, hq, h⟩ := bnd h
    refine go_call (fun _ hw => c_Sea_ofIsle hq hw) ?_
    obtain ⟨j11, hj, h⟩ := bnd h
    replace h := bnds h
    refine go_ix j11 (ix_lt hj) (ix_eq hj) ?_
    obtain ⟨q12, hq, h⟩ := bnd h
    refine go_call (fun _ hw => c_Sea_ofIsle hq hw) ?_
    obtain ⟨j14, hj, h⟩ := bnd h
    replace h := bnds h
    refine go_ix j14 (ix_lt hj) (ix_eq hj) ?_
    exact c_State_begin_L112 hP hQ hk10 _ _ _ h
theorem c_State_begin_L29 {xs : Nat → Int32} {L d : Nat} {r0 r1 : Nat} {P : MK S2} {Q : S2 → Option MV → Prop} {res : S2} (hP : MClosed (O3 xs L) (kcall (O3 xs L) (d + 2)) kd_State_begin 0 Q P) (hQ : Q res none) {k10 : Int32 → S2 → Option S2} (hk10 : ∀ (x2 : Int32) (x3 : Option Int32) (s : S2), k10 x2 s = some res → P 10 [some (mR 20 r0), some (mR 13 r1), some (mI x2), oI x3] [] s (0, 0)) (x2 : Int32) (y0 : Int32) (x3 : Option Int32) (s : S2) (h : f_State_begin_L29 r0 r1 k10 x2 y0 s = some res) : P 29 [some (mR 20 r0), some (mR 13 r1), some (mI x2), oI x3] [mI y0] s (0, 0) := by
  refine mgo_from hP [10, 29, 47, 112, 120] 260 ?_
  refine go_br (fun hc : y0 = 0 => ?_) (fun hc : ¬ (y0 = 0) => ?_)
  · replace h := (if_pos hc).symm.trans h
    exact c_State_begin_L47 hP hQ hk10 _ _ _ _ _ h
  · replace h := (if_neg hc).symm.trans h
    exact c_State_begin_L47 hP hQ hk10 _ _ _ _ _ h
theorem cb_State_begin_L10 {xs : Nat → Int32} {L d : Nat} {r0 r1 : Nat} {P : MK S2} {Q : S2 → Option MV → Prop} {res : S2} (hP : MClosed (O3 xs L) (kcall (O3 xs L) (d + 2)) kd_State_begin 0 Q P) (hQ : Q res none) {k10 : Int32 → S2 → Option S2} (hk10 : ∀ (x2 : Int32) (x3 : Option Int32) (s : S2), k10 x2 s = some res → P 10 [some (mR 20 r0), some (mR 13 r1), some (mI x2), oI x3] [] s (0, 0)) (x2 : Int32) (x3 : Option Int32) (s : S2) (h : b_State_begin_L10 r0 r1 k10 x2 s = some res) : P 10 [some (mR 20 r0), some (mR 13 r1), some (mI x2), oI x3] [] s (0, 0) := by
  refine mgo_from hP [10, 29, 47, 112, 120] 260 ?_
  refine go_br (fun hc : (Int32.ofInt 6) ≤ x2 => ?_) (fun hc : ¬ ((Int32.ofInt 6) ≤ x2) => ?_)
  · replace h := (if_pos hc).symm.trans h
    exact c_State_begin_L120 hP hQ FU _ x3 _ h
  · replace h := (if_neg hc).symm.trans h
    refine go_call (fun _ hw => c_Sea_isles hw) ?_
    refine go_br (fun hc : (g_Sea_isles r1 s) ≤ x2 => ?_) (fun hc : ¬ ((g_Sea_isles r1 s) ≤ x2) => ?_)
    · replace h := (if_pos hc).symm.trans h
      exact c_State_begin_L29 hP hQ hk10 _ _ x3 _ h
    · replace h := (if_neg hc).symm.trans h
      exact c_State_begin_L29 hP hQ hk10 _ _ x3 _ h
theorem c_State_begin_L10 {xs : Nat → Int32} {L d : Nat} {r0 r1 : Nat} {P : MK S2} {Q : S2 → Option MV → Prop} {res : S2} (hP : MClosed (O3 xs L) (kcall (O3 xs L) (d + 2)) kd_State_begin 0 Q P) (hQ : Q res none) : ∀ (fu : Nat) (x2 : Int32) (x3 : Option Int32) (s : S2), f_State_begin_L10 r0 r1 fu x2 s = some res → P 10 [some (mR 20 r0), some (mR 13 r1), some (mI x2), oI x3] [] s (0, 0)
  | 0, _, _, _, h => by cases h
  | fu + 1, x2, x3, s, h => cb_State_begin_L10 hP hQ (c_State_begin_L10 hP hQ fu) x2 x3 s h
theorem c_State_begin {xs : Nat → Int32} {L d : Nat} {r0 : Nat} {r1 : Nat} {s : S2} {res : S2} {Q : S2 → Option MV → Prop} (h : f_State_begin r0 r1 s = some res) (hQ : Q res none) : kcall (O3 xs L) (d + 3) k_State_begin [mR 20 r0, mR 13 r1] s Q := by
  refine kc_of (cd := kd_State_begin) (mx := 4) (rt := 0) rfl rfl ?_
  intro P hP
  refine mgo_sound hP [10, 29, 47, 112, 120] 260 _ _ _ _ _ ?_
  obtain ⟨q1, hq, h⟩ := bnd h
  refine go_call (fun _ hw => c_Arrays_fill_21 hq hw) ?_
  exact c_State_begin_L10 hP hQ FU _ none _ h
/-! Course_pullOf -/
def rl (x : Int32) : Option Nat := match x.toNatClampNeg with
  | 1 => some 0
  | 2 => some 1
  | 3 => some 2
  | 4 => some 3
  | 5 => some 4
  | _ => none
def f_Course_pullOf (r1 : Nat) (a2 : Int32) (a3 : Int32) (a4 : Int32) (a5 : Int32) (s : S2) : Option (S2 × Int32) := ((f_State_apart r1 a2 a3 s).bind fun q1 => (if q1 = 0 then some (s, Int32.ofInt 0) else match rl (s.1 31 0 11) with
  | none => (if a4 = 0 then some (s, a5) else some (s, -a5))
  | some n => ((some (pkS s 32 0 0 q1)).bind fun s1 => ((some (pkS s1 32 0 1 a5)).bind fun s2 => ((some (pkS s2 32 0 2 a4)).bind fun s3 => ((f_State_massOf r1 a2 s3).bind fun q4 => ((some (pkS s3 32 0 3 q4)).bind fun s5 => ((f_State_massOf r1 a3 s5).bind fun q6 => ((some (pkS s5 32 0 4 q6)).bind fun s7 => ((some (pkS s7 32 0 5 (g_State_season r1 s7))).bind fun s8 => ((f_Rule_worth n 32 0 6 s8).bind fun q9 => some (q9.1, (g_D_held q9.2 (Int32.ofInt 99) q9.1)))))))))))))
set_option maxRecDepth 20000 in
set_option maxHeartbeats 4000000 in
theorem krl_some {x : Int32} {n : Nat} (h : rl x = some n) : krl x = (17, n) := by
  unfold rl at h
  unfold krl
  split at h <;> first | (cases h; simp_all) | cases h
theorem krl_none {x : Int32} (h : rl x = none) : krl x = (0, 0) := by
  unfold rl at h
  unfold krl
  generalize x.toNatClampNeg = m at h ⊢
  match m, h with
  | 0, _ => rfl
  | 1, h => cases h
  | 2, h => cases h
  | 3, h => cases h
  | 4, h => cases h
  | 5, h => cases h
  | n + 6, _ => rfl
theorem go_nn {r : Nat × Nat} {A B : Prop} (h0 : ¬ r.1 = 1) (h1 : ¬ r.1 = 0 → A) (h2 : r.1 = 0 → B) : ¬ r.1 = 1 ∧ (¬ r.1 = 0 → A) ∧ (r.1 = 0 → B) := ⟨h0, h1, h2⟩
theorem c_Course_pullOf {xs : Nat → Int32} {L d : Nat} {r1 : Nat} {a2 a3 a4 a5 : Int32} {s : S2} {res : S2 × Int32} {Q : S2 → Option MV → Prop} (h : f_Course_pullOf r1 a2 a3 a4 a5 s = some res) (hQ : Q res.1 (some (mI res.2))) : kcall (O3 xs L) (d + 3) k_Course_pullOf [mR 31 0, mR 20 r1, mI a2, mI a3, mI a4, mI a5] s Q := by
  refine kc_of (cd := kd_Course_pullOf) (mx := 7) (rt := 1) rfl rfl ?_
  intro P hP
  refine mgo_sound hP [19, 96] 260 _ _ _ _ _ ?_
  obtain ⟨q1, hq, h⟩ := bnd h
  refine go_call (fun _ hw => c_State_apart hq hw) ?_
  refine go_brn (fun hc : ¬ (q1 = 0) => ?_) (fun hc : q1 = 0 => ?_)
  · replace h := (if_neg hc).symm.trans h
    show P 19 [some (mR 31 0), some (mR 20 r1), some (mI a2), some (mI a3), some (mI a4), some (mI a5), some (mI q1)] [.inr (.inr (krl (s.1 31 0 11)))] s (0, 0)
    cases hr : rl (s.1 31 0 11) with
    | none =>
      simp only [hr] at h
      rw [krl_none hr]
      refine mgo_from hP [19, 96] 260 ?_
      refine go_nn (show ¬ (0 : Nat) = 1 by decide) (fun z => absurd rfl z) (fun _ => ?_)
      refine go_brn (fun hc : ¬ (a4 = 0) => ?_) (fun hc : a4 = 0 => ?_)
      · replace h := (if_neg hc).symm.trans h
        cases h
        exact hQ
      · replace h := (if_pos hc).symm.trans h
        cases h
        exact hQ
    | some n =>
      simp only [hr] at h
      rw [krl_some hr]
      refine mgo_from hP [19, 96] 260 ?_
      refine go_nn (show ¬ (17 : Nat) = 1 by decide) (fun _ => ?_) (fun z => by cases z)
      replace h := bnds h
      refine go_ix 0 (Nat.le_of_ble_eq_true rfl) rfl ?_
      replace h := bnds h
      refine go_ix 1 (Nat.le_of_ble_eq_true rfl) rfl ?_
      replace h := bnds h
      refine go_ix 2 (Nat.le_of_ble_eq_true rfl) rfl ?_
      obtain ⟨q4, hq, h⟩ := bnd h
      refine go_call (fun _ hw => c_State_massOf hq hw) ?_
      replace h := bnds h
      refine go_ix 3 (Nat.le_of_ble_eq_true rfl) rfl ?_
      obtain ⟨q6, hq, h⟩ := bnd h
      refine go_call (fun _ hw => c_State_massOf hq hw) ?_
      replace h := bnds h
      refine go_ix 4 (Nat.le_of_ble_eq_true rfl) rfl ?_
      replace h := bnds h
      refine go_call (fun _ hw => c_State_season hw) ?_
      refine go_ix 5 (Nat.le_of_ble_eq_true rfl) rfl ?_
      show P 96 _ [.inr (.inr (krl (s.1 31 0 11)))] _ (0, 0)
      rw [krl_some hr]
      refine mgo_from hP [19, 96] 260 ?_
      obtain ⟨q9, hq, h⟩ := bnd h
      refine go_call (fun _ hw => c_Rule_worth_32 hq hw) ?_
      refine go_call (fun _ hw => c_D_held hw) ?_
      cases h
      exact hQ
  · replace h := (if_pos hc).symm.trans h
    cases h
    exact hQ
/-! D_count -/
def f_D_count (a1 : Int32) (s : S2) : Option Int32 := (if a1 = (Int32.ofInt 0) then some (g_Sea_isles 0 s) else (if a1 = (Int32.ofInt 1) then ((f_State_heads 0 s).bind fun q1 => some q1) else (if a1 = (Int32.ofInt 2) then some (g_Sea_ties 0 s) else (if a1 = (Int32.ofInt 3) then some (g_Sea_bridges 0 s) else (if a1 = (Int32.ofInt 4) then some (s.1 10 0 14) else (if a1 = (Int32.ofInt 5) then some (g_Tape_length s) else (if a1 = (Int32.ofInt 6) then some (g_State_season 0 s) else (if a1 = (Int32.ofInt 7) then some (s.1 10 0 15) else (if a1 = (Int32.ofInt 8) then ((f_D_ofWater (Int32.ofInt 0) s).bind fun q2 => some q2) else (if a1 = (Int32.ofInt 9) then ((f_D_ofWater (Int32.ofInt 1) s).bind fun q3 => some q3) else (if a1 = (Int32.ofInt 10) then ((f_D_ofWater (Int32.ofInt 2) s).bind fun q4 => some q4) else (if a1 = (Int32.ofInt 11) then ((f_D_ofWater (Int32.ofInt 3) s).bind fun q5 => some q5) else (if a1 = (Int32.ofInt 12) then some (g_Charts_many s) else (if a1 = (Int32.ofInt 13) then some (g_Past_undoable s) else (if a1 = (Int32.ofInt 14) then some (g_Past_noted s) else some (Int32.ofInt (-1000000)))))))))))))))))
set_option maxRecDepth 20000 in
set_option maxHeartbeats 4000000 in
theorem c_D_count {xs : Nat → Int32} {L d : Nat} {a1 : Int32} {s : S2} {res : Int32} {Q : S2 → Option MV → Prop} (h : f_D_count a1 s = some res) (hQ : Q s (some (mI res))) : kcall (O3 xs L) (d + 4) k_D_count [mR 10 0, mI a1] s Q := by
  refine kc_of (cd := kd_D_count) (mx := 2) (rt := 1) rfl rfl ?_
  intro P hP
  refine mgo_sound hP [] 260 _ _ _ _ _ ?_
  refine go_br (fun hc : a1 = (Int32.ofInt 0) => ?_) (fun hc : ¬ (a1 = (Int32.ofInt 0)) => ?_)
  · replace h := (if_pos hc).symm.trans h
    refine go_call (fun _ hw => c_Sea_isles hw) ?_
    cases h
    exact hQ
  · replace h := (if_neg hc).symm.trans h
    refine go_br (fun hc : a1 = (Int32.ofInt 1) => ?_) (fun hc : ¬ (a1 = (Int32.ofInt 1)) => ?_)
    · replace h := (if_pos hc).symm.trans h
      obtain ⟨q1, hq, h⟩ := bnd h
      refine go_call (fun _ hw => c_State_heads hq hw) ?_
      cases h
      exact hQ
    · replace h := (if_neg hc).symm.trans h
      refine go_br (fun hc : a1 = (Int32.ofInt 2) => ?_) (fun hc : ¬ (a1 = (Int32.ofInt 2)) => ?_)
      · replace h := (if_pos hc).symm.trans h
        refine go_call (fun _ hw => c_Sea_ties hw) ?_
        cases h
        exact hQ
      · replace h := (if_neg hc).symm.trans h
        refine go_br (fun hc : a1 = (Int32.ofInt 3) => ?_) (fun hc : ¬ (a1 = (Int32.ofInt 3)) => ?_)
        · replace h := (if_pos hc).symm.trans h
          refine go_call (fun _ hw => c_Sea_bridges hw) ?_
          cases h
          exact hQ
        · replace h := (if_neg hc).symm.trans h
          refine go_br (fun hc : a1 = (Int32.ofInt 4) => ?_) (fun hc : ¬ (a1 = (Int32.ofInt 4)) => ?_)
          · replace h := (if_pos hc).symm.trans h
            cases h
            exact hQ
          · replace h := (if_neg hc).symm.trans h
            refine go_br (fun hc : a1 = (Int32.ofInt 5) => ?_) (fun hc : ¬ (a1 = (Int32.ofInt 5)) => ?_)
            · replace h := (if_pos hc).symm.trans h
              refine go_call (fun _ hw => c_Tape_length hw) ?_
              cases h
              exact hQ
            · replace h := (if_neg hc).symm.trans h
              refine go_br (fun hc : a1 = (Int32.ofInt 6) => ?_) (fun hc : ¬ (a1 = (Int32.ofInt 6)) => ?_)
              · replace h := (if_pos hc).symm.trans h
                refine go_call (fun _ hw => c_State_season hw) ?_
                cases h
                exact hQ
              · replace h := (if_neg hc).symm.trans h
                refine go_br (fun hc : a1 = (Int32.ofInt 7) => ?_) (fun hc : ¬ (a1 = (Int32.ofInt 7)) => ?_)
                · replace h := (if_pos hc).symm.trans h
                  cases h
                  exact hQ
                · replace h := (if_neg hc).symm.trans h
                  refine go_br (fun hc : a1 = (Int32.ofInt 8) => ?_) (fun hc : ¬ (a1 = (Int32.ofInt 8)) => ?_)
                  · replace h := (if_pos hc).symm.trans h
                    obtain ⟨q2, hq, h⟩ := bnd h
                    refine go_call (fun _ hw => c_D_ofWater hq hw) ?_
                    cases h
                    exact hQ
                  · replace h := (if_neg hc).symm.trans h
                    refine go_br (fun hc : a1 = (Int32.ofInt 9) => ?_) (fun hc : ¬ (a1 = (Int32.ofInt 9)) => ?_)
                    · replace h := (if_pos hc).symm.trans h
                      obtain ⟨q3, hq, h⟩ := bnd h
                      refine go_call (fun _ hw => c_D_ofWater hq hw) ?_
                      cases h
                      exact hQ
                    · replace h := (if_neg hc).symm.trans h
                      refine go_br (fun hc : a1 = (Int32.ofInt 10) => ?_) (fun hc : ¬ (a1 = (Int32.ofInt 10)) => ?_)
                      · replace h := (if_pos hc).symm.trans h
                        obtain ⟨q4, hq, h⟩ := bnd h
                        refine go_call (fun _ hw => c_D_ofWater hq hw) ?_
                        cases h
                        exact hQ
                      · replace h := (if_neg hc).symm.trans h
                        refine go_br (fun hc : a1 = (Int32.ofInt 11) => ?_) (fun hc : ¬ (a1 = (Int32.ofInt 11)) => ?_)
                        · replace h := (if_pos hc).symm.trans h
                          obtain ⟨q5, hq, h⟩ := bnd h
                          refine go_call (fun _ hw => c_D_ofWater hq hw) ?_
                          cases h
                          exact hQ
                        · replace h := (if_neg hc).symm.trans h
                          refine go_br (fun hc : a1 = (Int32.ofInt 12) => ?_) (fun hc : ¬ (a1 = (Int32.ofInt 12)) => ?_)
                          · replace h := (if_pos hc).symm.trans h
                            refine go_call (fun _ hw => c_Charts_many hw) ?_
                            cases h
                            exact hQ
                          · replace h := (if_neg hc).symm.trans h
                            refine go_br (fun hc : a1 = (Int32.ofInt 13) => ?_) (fun hc : ¬ (a1 = (Int32.ofInt 13)) => ?_)
                            · replace h := (if_pos hc).symm.trans h
                              refine go_call (fun _ hw => c_Past_undoable hw) ?_
                              cases h
                              exact hQ
                            · replace h := (if_neg hc).symm.trans h
                              refine go_br (fun hc : a1 = (Int32.ofInt 14) => ?_) (fun hc : ¬ (a1 = (Int32.ofInt 14)) => ?_)
                              · replace h := (if_pos hc).symm.trans h
                                refine go_call (fun _ hw => c_Past_noted hw) ?_
                                cases h
                                exact hQ
                              · replace h := (if_neg hc).symm.trans h
                                cases h
                                exact hQ
/-! Course_drawByTies -/
def b_Course_drawByTies_L103 (r1 : Nat) (k103 : Int32 → S2 → Option S2) (x2 : Int32) (s : S2) : Option S2 := (if (s.1 31 0 13) ≤ x2 then some s else ((ix 3 x2).bind fun j1 => ((ix 3 x2).bind fun j2 => ((ix 3 x2).bind fun j3 => ((ix 3 x2).bind fun j4 => ((f_Course_pullOf r1 (s.1 37 0 j1) (s.1 38 0 j2) (s.1 39 0 j3) (s.1 40 0 j4) s).bind fun q5 => ((ix 3 x2).bind fun j6 => ((ix 3 x2).bind fun j7 => ((f_Course_drawTwo r1 (q5.1.1 37 0 j6) (q5.1.1 38 0 j7) q5.2 q5.1).bind fun q8 => (k103 (x2 + (Int32.ofInt 1)) q8))))))))))
def f_Course_drawByTies_L103 (r1 : Nat) : Nat → Int32 → S2 → Option S2
  | 0 => fun _ _ => none
  | n + 1 => b_Course_drawByTies_L103 r1 (f_Course_drawByTies_L103 r1 n)
def f_Course_drawByTies_L95 (r1 : Nat) (k18 : Int32 → S2 → Option S2) (x2 : Int32) (s : S2) : Option S2 := (k18 (x2 + (Int32.ofInt 1)) s)
def b_Course_drawByTies_L18 (r1 : Nat) (k18 : Int32 → S2 → Option S2) (x2 : Int32) (s : S2) : Option S2 := (if (g_Sea_ties 0 s) ≤ x2 then (f_Course_drawByTies_L103 r1 FU (Int32.ofInt 0) s) else (if (((s.1 31 0 12) >>> (x2 &&& 31)) &&& (Int32.ofInt 1)) = 0 then (f_Course_drawByTies_L95 r1 k18 x2 s) else ((f_Sea_ofTie 0 x2 (Int32.ofInt 0) s).bind fun q1 => ((f_Sea_ofTie 0 x2 (Int32.ofInt 1) s).bind fun q2 => ((f_State_kindOf r1 x2 s).bind fun q3 => ((f_Sea_ofTie 0 x2 (Int32.ofInt 3) s).bind fun q4 => ((f_Course_pullOf r1 q1 q2 q3 q4 s).bind fun q5 => ((f_Course_drawTwo r1 q1 q2 q5.2 q5.1).bind fun q6 => (f_Course_drawByTies_L95 r1 k18 x2 q6)))))))))
def f_Course_drawByTies_L18 (r1 : Nat) : Nat → Int32 → S2 → Option S2
  | 0 => fun _ _ => none
  | n + 1 => b_Course_drawByTies_L18 r1 (f_Course_drawByTies_L18 r1 n)
def f_Course_drawByTies (r1 : Nat) (s : S2) : Option S2 := ((f_Arrays_fill 33 0 6 (Int32.ofInt 0) s).bind fun q1 => ((f_Arrays_fill 34 0 6 (Int32.ofInt 0) q1).bind fun q2 => (f_Course_drawByTies_L18 r1 FU (Int32.ofInt 0) q2)))
theorem cb_Course_drawByTies_L103 {xs : Nat → Int32} {L d : Nat} {r1 : Nat} {P : MK S2} {Q : S2 → Option MV → Prop} {res : S2} (hP : MClosed (O3 xs L) (kcall (O3 xs L) (d + 3)) kd_Course_drawByTies 0 Q P) (hQ : Q res none) {k103 : Int32 → S2 → Option S2} (hk103 : ∀ (x2 : Int32) (x3 : Option Int32) (x4 : Option Int32) (x5 : Option Int32) (s : S2), k103 x2 s = some res → P 103 [some (mR 31 0), some (mR 20 r1), some (mI x2), oI x3, oI x4, oI x5] [] s (0, 0)) (x2 : Int32) (x3 : Option Int32) (x4 : Option Int32) (x5 : Option Int32) (s : S2) (h : b_Course_drawByTies_L103 r1 k103 x2 s = some res) : P 103 [some (mR 31 0), some (mR 20 r1), some (mI x2), oI x3, oI x4, oI x5] [] s (0, 0) := by
  refine mgo_from hP [18, 95, 103] 260 ?_
  refine go_br (fun hc : (s.1 31 0 13) ≤ x2 => ?_) (fun hc : ¬ ((s.1 31 0 13) ≤ x2) => ?_)
  · replace h := (if_pos hc).symm.trans h
    cases h
    exact hQ
  · replace h := (if_neg hc).symm.trans h
    obtain ⟨j1, hj, h⟩ := bnd h
    refine go_ix j1 (ix_lt hj) (ix_eq hj) ?_
    obtain ⟨j2, hj, h⟩ := bnd h
    refine go_ix j2 (ix_lt hj) (ix_eq hj) ?_
    obtain ⟨j3, hj, h⟩ := bnd h
    refine go_ix j3 (ix_lt hj) (ix_eq hj) ?_
    obtain ⟨j4, hj, h⟩ := bnd h
    refine go_ix j4 (ix_lt hj) (ix_eq hj) ?_
    obtain ⟨q5, hq, h⟩ := bnd h
    refine go_call (fun _ hw => c_Course_pullOf hq hw) ?_
    obtain ⟨j6, hj, h⟩ := bnd h
    refine go_ix j6 (ix_lt hj) (ix_eq hj) ?_
    obtain ⟨j7, hj, h⟩ := bnd h
    refine go_ix j7 (ix_lt hj) (ix_eq hj) ?_
    obtain ⟨q8, hq, h⟩ := bnd h
    refine go_call (fun _ hw => c_Course_drawTwo hq hw) ?_
    exact hk103 _ (some q5.2) x4 x5 _ h
theorem c_Course_drawByTies_L103 {xs : Nat → Int32} {L d : Nat} {r1 : Nat} {P : MK S2} {Q : S2 → Option MV → Prop} {res : S2} (hP : MClosed (O3 xs L) (kcall (O3 xs L) (d + 3)) kd_Course_drawByTies 0 Q P) (hQ : Q res none) : ∀ (fu : Nat) (x2 : Int32) (x3 : Option Int32) (x4 : Option Int32) (x5 : Option Int32) (s : S2), f_Course_drawByTies_L103 r1 fu x2 s = some res → P 103 [some (mR 31 0), some (mR 20 r1), some (mI x2), oI x3, oI x4, oI x5] [] s (0, 0)
  | 0, _, _, _, _, _, h => by cases h
  | fu + 1, x2, x3, x4, x5, s, h => cb_Course_drawByTies_L103 hP hQ (c_Course_drawByTies_L103 hP hQ fu) x2 x3 x4 x5 s h
theorem c_Course_drawByTies_L95 {xs : Nat → Int32} {L d : Nat} {r1 : Nat} {P : MK S2} {Q : S2 → Option MV → Prop} {res : S2} (hP : MClosed (O3 xs L) (kcall (O3 xs L) (d + 3)) kd_Course_drawByTies 0 Q P) (hQ : Q res none) {k18 : Int32 → S2 → Option S2} (hk18 : ∀ (x2 : Int32) (x3 : Option Int32) (x4 : Option Int32) (x5 : Option Int32) (s : S2), k18 x2 s = some res → P 18 [some (mR 31 0), some (mR 20 r1), some (mI x2), oI x3, oI x4, oI x5] [] s (0, 0)) (x2 : Int32) (x3 : Option Int32) (x4 : Option Int32) (x5 : Option Int32) (s : S2) (h : f_Course_drawByTies_L95 r1 k18 x2 s = some res) : P 95 [some (mR 31 0), some (mR 20 r1), some (mI x2), oI x3, oI x4, oI x5] [] s (0, 0) := by
  refine mgo_from hP [18, 95, 103] 260 ?_
  exact hk18 _ x3 x4 x5 _ h
theorem cb_Course_drawByTies_L18 {xs : Nat → Int32} {L d : Nat} {r1 : Nat} {P : MK S2} {Q : S2 → Option MV → Prop} {res : S2} (hP : MClosed (O3 xs L) (kcall (O3 xs L) (d + 3)) kd_Course_drawByTies 0 Q P) (hQ : Q res none) {k18 : Int32 → S2 → Option S2} (hk18 : ∀ (x2 : Int32) (x3 : Option Int32) (x4 : Option Int32) (x5 : Option Int32) (s : S2), k18 x2 s = some res → P 18 [some (mR 31 0), some (mR 20 r1), some (mI x2), oI x3, oI x4, oI x5] [] s (0, 0)) (x2 : Int32) (x3 : Option Int32) (x4 : Option Int32) (x5 : Option Int32) (s : S2) (h : b_Course_drawByTies_L18 r1 k18 x2 s = some res) : P 18 [some (mR 31 0), some (mR 20 r1), some (mI x2), oI x3, oI x4, oI x5] [] s (0, 0) := by
  refine mgo_from hP [18, 95, 103] 260 ?_
  refine go_call (fun _ hw => c_Sea_ties hw) ?_
  refine go_br (fun hc : (g_Sea_ties 0 s) ≤ x2 => ?_) (fun hc : ¬ ((g_Sea_ties 0 s) ≤ x2) => ?_)
  · replace h := (if_pos hc).symm.trans h
    exact c_Course_drawByTies_L103 hP hQ FU _ x3 x4 x5 _ h
  · replace h := (if_neg hc).symm.trans h
    refine go_br (fun hc : (((s.1 31 0 12) >>> (x2 &&& 31)) &&& (Int32.ofInt 1)) = 0 => ?_) (fun hc : ¬ ((((s.1 31 0 12) >>> (x2 &&& 31)) &&& (Int32.ofInt 1)) = 0) => ?_)
    · replace h := (if_pos hc).symm.trans h
      exact c_Course_drawByTies_L95 hP hQ hk18 _ x3 x4 x5 _ h
    · replace h := (if_neg hc).symm.trans h
      obtain ⟨q1, hq, h⟩ := bnd h
      refine go_call (fun _ hw => c_Sea_ofTie hq hw) ?_
      obtain ⟨q2, hq, h⟩ := bnd h
      refine go_call (fun _ hw => c_Sea_ofTie hq hw) ?_
      obtain ⟨q3, hq, h⟩ := bnd h
      refine go_call (fun _ hw => c_State_kindOf hq hw) ?_
      obtain ⟨q4, hq, h⟩ := bnd h
      refine go_call (fun _ hw => c_Sea_ofTie hq hw) ?_
      obtain ⟨q5, hq, h⟩ := bnd h
      refine go_call (fun _ hw => c_Course_pullOf hq hw) ?_
      obtain ⟨q6, hq, h⟩ := bnd h
      refine go_call (fun _ hw => c_Course_drawTwo hq hw) ?_
      exact c_Course_drawByTies_L95 hP hQ hk18 _ (some q1) (some q2) (some q5.2) _ h
theorem c_Course_drawByTies_L18 {xs : Nat → Int32} {L d : Nat} {r1 : Nat} {P : MK S2} {Q : S2 → Option MV → Prop} {res : S2} (hP : MClosed (O3 xs L) (kcall (O3 xs L) (d + 3)) kd_Course_drawByTies 0 Q P) (hQ : Q res none) : ∀ (fu : Nat) (x2 : Int32) (x3 : Option Int32) (x4 : Option Int32) (x5 : Option Int32) (s : S2), f_Course_drawByTies_L18 r1 fu x2 s = some res → P 18 [some (mR 31 0), some (mR 20 r1), some (mI x2), oI x3, oI x4, oI x5] [] s (0, 0)
  | 0, _, _, _, _, _, h => by cases h
  | fu + 1, x2, x3, x4, x5, s, h => cb_Course_drawByTies_L18 hP hQ (c_Course_drawByTies_L18 hP hQ fu) x2 x3 x4 x5 s h
theorem c_Course_drawByTies {xs : Nat → Int32} {L d : Nat} {r1 : Nat} {s : S2} {res : S2} {Q : S2 → Option MV → Prop} (h : f_Course_drawByTies r1 s = some res) (hQ : Q res none) : kcall (O3 xs L) (d + 4) k_Course_drawByTies [mR 31 0, mR 20 r1] s Q := by
  refine kc_of (cd := kd_Course_drawByTies) (mx := 6) (rt := 0) rfl rfl ?_
  intro P hP
  refine mgo_sound hP [18, 95, 103] 260 _ _ _ _ _ ?_
  obtain ⟨q1, hq, h⟩ := bnd h
  refine go_call (fun _ hw => c_Arrays_fill_33 hq hw) ?_
  obtain ⟨q2, hq, h⟩ := bnd h
  refine go_call (fun _ hw => c_Arrays_fill_34 hq hw) ?_
  exact c_Course_drawByTies_L18 hP hQ FU _ none none none _ h
/-! Trade_run -/
def f_Trade_run_L100 (r0 : Nat) (r1 : Nat) (r2 : Nat) (k55 : Int32 → S2 → Option S2) (x3 : Int32) (s : S2) : Option S2 := (k55 (x3 + (Int32.ofInt 1)) s)
def b_Trade_run_L55 (r0 : Nat) (r1 : Nat) (r2 : Nat) (k55 : Int32 → S2 → Option S2) (x3 : Int32) (s : S2) : Option S2 := (if (g_Sea_isles r1 s) ≤ x3 then some s else ((f_State_isHead r2 x3 s).bind fun q1 => (if (bI q1) = 0 then (f_Trade_run_L100 r0 r1 r2 k55 x3 s) else ((f_Sea_ofIsle r1 x3 (Int32.ofInt 4) s).bind fun q2 => (if q2 = (Int32.ofInt 4) then (f_Trade_run_L100 r0 r1 r2 k55 x3 s) else ((f_Sea_ofIsle r1 x3 (Int32.ofInt 5) s).bind fun q3 => ((ix 6 x3).bind fun j5 => (some (pkS s 29 r0 j5 q3)).bind fun s4 => ((f_Trade_buyAll r0 r1 r2 x3 s4).bind fun q6 => (f_Trade_run_L100 r0 r1 r2 k55 x3 q6)))))))))
def f_Trade_run_L55 (r0 : Nat) (r1 : Nat) (r2 : Nat) : Nat → Int32 → S2 → Option S2
  | 0 => fun _ _ => none
  | n + 1 => b_Trade_run_L55 r0 r1 r2 (f_Trade_run_L55 r0 r1 r2 n)
def b_Trade_run_L26 (r0 : Nat) (r1 : Nat) (r2 : Nat) (k26 : Int32 → S2 → Option S2) (x3 : Int32) (s : S2) : Option S2 := (if (g_Sea_isles r1 s) ≤ x3 then (f_Trade_run_L55 r0 r1 r2 FU (Int32.ofInt 0) s) else ((f_Sea_ofIsle r1 x3 (Int32.ofInt 6) s).bind fun q1 => ((ix 6 x3).bind fun j3 => (some (pkS s 30 r0 j3 q1)).bind fun s2 => (k26 (x3 + (Int32.ofInt 1)) s2))))
def f_Trade_run_L26 (r0 : Nat) (r1 : Nat) (r2 : Nat) : Nat → Int32 → S2 → Option S2
  | 0 => fun _ _ => none
  | n + 1 => b_Trade_run_L26 r0 r1 r2 (f_Trade_run_L26 r0 r1 r2 n)
def f_Trade_run (r0 : Nat) (r1 : Nat) (r2 : Nat) (s : S2) : Option S2 := ((f_Arrays_fill 27 r0 36 (Int32.ofInt 0) s).bind fun q1 => ((f_Arrays_fill 28 r0 6 (Int32.ofInt 0) q1).bind fun q2 => ((f_Arrays_fill 29 r0 6 (Int32.ofInt 0) q2).bind fun q3 => (f_Trade_run_L26 r0 r1 r2 FU (Int32.ofInt 0) q3))))
theorem c_Trade_run_L100 {xs : Nat → Int32} {L d : Nat} {r0 r1 r2 : Nat} {P : MK S2} {Q : S2 → Option MV → Prop} {res : S2} (hP : MClosed (O3 xs L) (kcall (O3 xs L) (d + 3)) kd_Trade_run 0 Q P) (hQ : Q res none) {k55 : Int32 → S2 → Option S2} (hk55 : ∀ (x3 : Int32) (s : S2), k55 x3 s = some res → P 55 [some (mR 26 r0), some (mR 13 r1), some (mR 20 r2), some (mI x3)] [] s (0, 0)) (x3 : Int32) (s : S2) (h : f_Trade_run_L100 r0 r1 r2 k55 x3 s = some res) : P 100 [some (mR 26 r0), some (mR 13 r1), some (mR 20 r2), some (mI x3)] [] s (0, 0) := by
  refine mgo_from hP [26, 55, 100] 260 ?_
  exact hk55 _ _ h
set_option maxRecDepth 20000 in
set_option maxHeartbeats 4000000 in
theorem cb_Trade_run_L55 {xs : Nat → Int32} {L d : Nat} {r0 r1 r2 : Nat} {P : MK S2} {Q : S2 → Option MV → Prop} {res : S2} (hP : MClosed (O3 xs L) (kcall (O3 xs L) (d + 3)) kd_Trade_run 0 Q P) (hQ : Q res none) {k55 : Int32 → S2 → Option S2} (hk55 : ∀ (x3 : Int32) (s : S2), k55 x3 s = some res → P 55 [some (mR 26 r0), some (mR 13 r1), some (mR 20 r2), some (mI x3)] [] s (0, 0)) (x3 : Int32) (s : S2) (h : b_Trade_run_L55 r0 r1 r2 k55 x3 s = some res) : P 55 [some (mR 26 r0), some (mR 13 r1), some (mR 20 r2), some (mI x3)] [] s (0, 0) := by
  refine mgo_from hP [26, 55, 100] 260 ?_
  refine go_call (fun _ hw => c_Sea_isles hw) ?_
  refine go_br (fun hc : (g_Sea_isles r1 s) ≤ x3 => ?_) (fun hc : ¬ ((g_Sea_isles r1 s) ≤ x3) => ?_)
  · replace h := (if_pos hc).symm.trans h
    cases h
    exact hQ
  · replace h := (if_neg hc).symm.trans h
    obtain ⟨q1, hq, h⟩ := bnd h
    refine go_call (fun _ hw => c_State_isHead hq hw) ?_
    refine go_br (fun hc : (bI q1) = 0 => ?_) (fun hc : ¬ ((bI q1) = 0) => ?_)
    · replace h := (if_pos hc).symm.trans h
      exact c_Trade_run_L100 hP hQ hk55 _ _ h
    · replace h := (if_neg hc).symm.trans h
      obtain ⟨q2, hq, h⟩ := bnd h
      refine go_call (fun _ hw => c_Sea_ofIsle hq hw) ?_
      refine go_br (fun hc : q2 = (Int32.ofInt 4) => ?_) (fun hc : ¬ (q2 = (Int32.ofInt 4)) => ?_)
      · replace h := (if_pos hc).symm.trans h
        exact c_Trade_run_L100 hP hQ hk55 _ _ h
      · replace h := (if_neg hc).symm.trans h
        obtain ⟨q3, hq, h⟩ := bnd h
        refine go_call (fun _ hw => c_Sea_ofIsle hq hw) ?_
        obtain ⟨j5, hj, h⟩ := bnd h
        replace h := bnds h
        refine go_ix j5 (ix_lt hj) (ix_eq hj) ?_
        obtain ⟨q6, hq, h⟩ := bnd h
        refine go_call (fun _ hw => c_Trade_buyAll hq hw) ?_
        exact c_Trade_run_L100 hP hQ hk55 _ _ h
theorem c_Trade_run_L55 {xs : Nat → Int32} {L d : Nat} {r0 r1 r2 : Nat} {P : MK S2} {Q : S2 → Option MV → Prop} {res : S2} (hP : MClosed (O3 xs L) (kcall (O3 xs L) (d + 3)) kd_Trade_run 0 Q P) (hQ : Q res none) : ∀ (fu : Nat) (x3 : Int32) (s : S2), f_Trade_run_L55 r0 r1 r2 fu x3 s = some res → P 55 [some (mR 26 r0), some (mR 13 r1), some (mR 20 r2), some (mI x3)] [] s (0, 0)
  | 0, _, _, h => by cases h
  | fu + 1, x3, s, h => cb_Trade_run_L55 hP hQ (c_Trade_run_L55 hP hQ fu) x3 s h
theorem cb_Trade_run_L26 {xs : Nat → Int32} {L d : Nat} {r0 r1 r2 : Nat} {P : MK S2} {Q : S2 → Option MV → Prop} {res : S2} (hP : MClosed (O3 xs L) (kcall (O3 xs L) (d + 3)) kd_Trade_run 0 Q P) (hQ : Q res none) {k26 : Int32 → S2 → Option S2} (hk26 : ∀ (x3 : Int32) (s : S2), k26 x3 s = some res → P 26 [some (mR 26 r0), some (mR 13 r1), some (mR 20 r2), some (mI x3)] [] s (0, 0)) (x3 : Int32) (s : S2) (h : b_Trade_run_L26 r0 r1 r2 k26 x3 s = some res) : P 26 [some (mR 26 r0), some (mR 13 r1), some (mR 20 r2), some (mI x3)] [] s (0, 0) := by
  refine mgo_from hP [26, 55, 100] 260 ?_
  refine go_call (fun _ hw => c_Sea_isles hw) ?_
  refine go_br (fun hc : (g_Sea_isles r1 s) ≤ x3 => ?_) (fun hc : ¬ ((g_Sea_isles r1 s) ≤ x3) => ?_)
  · replace h := (if_pos hc).symm.trans h
    exact c_Trade_run_L55 hP hQ FU _ _ h
  · replace h := (if_neg hc).symm.trans h
    obtain ⟨q1, hq, h⟩ := bnd h
    refine go_call (fun _ hw => c_Sea_ofIsle hq hw) ?_
    obtain ⟨j3, hj, h⟩ := bnd h
    replace h := bnds h
    refine go_ix j3 (ix_lt hj) (ix_eq hj) ?_
    exact hk26 _ _ h
theorem c_Trade_run_L26 {xs : Nat → Int32} {L d : Nat} {r0 r1 r2 : Nat} {P : MK S2} {Q : S2 → Option MV → Prop} {res : S2} (hP : MClosed (O3 xs L) (kcall (O3 xs L) (d + 3)) kd_Trade_run 0 Q P) (hQ : Q res none) : ∀ (fu : Nat) (x3 : Int32) (s : S2), f_Trade_run_L26 r0 r1 r2 fu x3 s = some res → P 26 [some (mR 26 r0), some (mR 13 r1), some (mR 20 r2), some (mI x3)] [] s (0, 0)
  | 0, _, _, h => by cases h
  | fu + 1, x3, s, h => cb_Trade_run_L26 hP hQ (c_Trade_run_L26 hP hQ fu) x3 s h
theorem c_Trade_run {xs : Nat → Int32} {L d : Nat} {r0 : Nat} {r1 : Nat} {r2 : Nat} {s : S2} {res : S2} {Q : S2 → Option MV → Prop} (h : f_Trade_run r0 r1 r2 s = some res) (hQ : Q res none) : kcall (O3 xs L) (d + 4) k_Trade_run [mR 26 r0, mR 13 r1, mR 20 r2] s Q := by
  refine kc_of (cd := kd_Trade_run) (mx := 4) (rt := 0) rfl rfl ?_
  intro P hP
  refine mgo_sound hP [26, 55, 100] 260 _ _ _ _ _ ?_
  obtain ⟨q1, hq, h⟩ := bnd h
  refine go_call (fun _ hw => c_Arrays_fill_27 hq hw) ?_
  obtain ⟨q2, hq, h⟩ := bnd h
  refine go_call (fun _ hw => c_Arrays_fill_28 hq hw) ?_
  obtain ⟨q3, hq, h⟩ := bnd h
  refine go_call (fun _ hw => c_Arrays_fill_29 hq hw) ?_
  exact c_Trade_run_L26 hP hQ FU _ _ h
/-! Course_joinFirstPair -/
def f_Course_joinFirstPair_L73 (r1 : Nat) (k11 : Int32 → Int32 → S2 → Option (S2 × Bool)) (x2 : Int32) (x3 : Int32) (s : S2) : Option (S2 × Bool) := (k11 x2 (x3 + (Int32.ofInt 1)) s)
def f_Course_joinFirstPair_L67 (r1 : Nat) (k11 : Int32 → Int32 → S2 → Option (S2 × Bool)) (k22 : Int32 → Int32 → Int32 → S2 → Option (S2 × Bool)) (x2 : Int32) (x3 : Int32) (x4 : Int32) (s : S2) : Option (S2 × Bool) := (k22 x2 x3 (x4 + (Int32.ofInt 1)) s)
def b_Course_joinFirstPair_L22 (r1 : Nat) (k11 : Int32 → Int32 → S2 → Option (S2 × Bool)) (k22 : Int32 → Int32 → Int32 → S2 → Option (S2 × Bool)) (x2 : Int32) (x3 : Int32) (x4 : Int32) (s : S2) : Option (S2 × Bool) := (if (Int32.ofInt 6) ≤ x4 then (f_Course_joinFirstPair_L73 r1 k11 x2 x3 s) else ((f_State_isHead r1 x3 s).bind fun q1 => (if (bI q1) = 0 then (f_Course_joinFirstPair_L73 r1 k11 x2 x3 s) else ((f_State_isHead r1 x4 s).bind fun q2 => (if (bI q2) = 0 then (f_Course_joinFirstPair_L67 r1 k11 k22 x2 x3 x4 s) else ((f_State_apart r1 x3 x4 s).bind fun q3 => (if x2 < q3 then (f_Course_joinFirstPair_L67 r1 k11 k22 x2 x3 x4 s) else ((f_Course_joinTwo r1 x3 x4 s).bind fun q4 => some (q4, true)))))))))
def f_Course_joinFirstPair_L22 (r1 : Nat) (k11 : Int32 → Int32 → S2 → Option (S2 × Bool)) : Nat → Int32 → Int32 → Int32 → S2 → Option (S2 × Bool)
  | 0 => fun _ _ _ _ => none
  | n + 1 => b_Course_joinFirstPair_L22 r1 k11 (f_Course_joinFirstPair_L22 r1 k11 n)
def b_Course_joinFirstPair_L11 (r1 : Nat) (k11 : Int32 → Int32 → S2 → Option (S2 × Bool)) (x2 : Int32) (x3 : Int32) (s : S2) : Option (S2 × Bool) := (if (Int32.ofInt 6) ≤ x3 then some (s, false) else (f_Course_joinFirstPair_L22 r1 k11 FU x2 x3 (x3 + (Int32.ofInt 1)) s))
def f_Course_joinFirstPair_L11 (r1 : Nat) : Nat → Int32 → Int32 → S2 → Option (S2 × Bool)
  | 0 => fun _ _ _ => none
  | n + 1 => b_Course_joinFirstPair_L11 r1 (f_Course_joinFirstPair_L11 r1 n)
def f_Course_joinFirstPair (r1 : Nat) (s : S2) : Option (S2 × Bool) := ((f_Sea_ofWater 0 (Int32.ofInt 1) s).bind fun q1 => (f_Course_joinFirstPair_L11 r1 FU q1 (Int32.ofInt 0) s))
theorem c_Course_joinFirstPair_L73 {xs : Nat → Int32} {L d : Nat} {r1 : Nat} {P : MK S2} {Q : S2 → Option MV → Prop} {res : S2 × Bool} (hP : MClosed (O3 xs L) (kcall (O3 xs L) (d + 2)) kd_Course_joinFirstPair 2 Q P) (hQ : Q res.1 (some (mI (bI res.2)))) {k11 : Int32 → Int32 → S2 → Option (S2 × Bool)} (hk11 : ∀ (x2 : Int32) (x3 : Int32) (x4 : Option Int32) (s : S2), k11 x2 x3 s = some res → P 11 [some (mR 31 0), some (mR 20 r1), some (mI x2), some (mI x3), oI x4] [] s (0, 0)) (x2 : Int32) (x3 : Int32) (x4 : Int32) (s : S2) (h : f_Course_joinFirstPair_L73 r1 k11 x2 x3 s = some res) : P 73 [some (mR 31 0), some (mR 20 r1), some (mI x2), some (mI x3), some (mI x4)] [] s (0, 0) := by
  refine mgo_from hP [11, 22, 67, 73] 260 ?_
  exact hk11 _ _ (some x4) _ h
theorem c_Course_joinFirstPair_L67 {xs : Nat → Int32} {L d : Nat} {r1 : Nat} {P : MK S2} {Q : S2 → Option MV → Prop} {res : S2 × Bool} (hP : MClosed (O3 xs L) (kcall (O3 xs L) (d + 2)) kd_Course_joinFirstPair 2 Q P) (hQ : Q res.1 (some (mI (bI res.2)))) {k11 : Int32 → Int32 → S2 → Option (S2 × Bool)} {k22 : Int32 → Int32 → Int32 → S2 → Option (S2 × Bool)} (hk11 : ∀ (x2 : Int32) (x3 : Int32) (x4 : Option Int32) (s : S2), k11 x2 x3 s = some res → P 11 [some (mR 31 0), some (mR 20 r1), some (mI x2), some (mI x3), oI x4] [] s (0, 0)) (hk22 : ∀ (x2 : Int32) (x3 : Int32) (x4 : Int32) (s : S2), k22 x2 x3 x4 s = some res → P 22 [some (mR 31 0), some (mR 20 r1), some (mI x2), some (mI x3), some (mI x4)] [] s (0, 0)) (x2 : Int32) (x3 : Int32) (x4 : Int32) (s : S2) (h : f_Course_joinFirstPair_L67 r1 k11 k22 x2 x3 x4 s = some res) : P 67 [some (mR 31 0), some (mR 20 r1), some (mI x2), some (mI x3), some (mI x4)] [] s (0, 0) := by
  refine mgo_from hP [11, 22, 67, 73] 260 ?_
  exact hk22 _ _ _ _ h
set_option maxRecDepth 20000 in
set_option maxHeartbeats 4000000 in
theorem cb_Course_joinFirstPair_L22 {xs : Nat → Int32} {L d : Nat} {r1 : Nat} {P : MK S2} {Q : S2 → Option MV → Prop} {res : S2 × Bool} (hP : MClosed (O3 xs L) (kcall (O3 xs L) (d + 2)) kd_Course_joinFirstPair 2 Q P) (hQ : Q res.1 (some (mI (bI res.2)))) {k11 : Int32 → Int32 → S2 → Option (S2 × Bool)} (hk11 : ∀ (x2 : Int32) (x3 : Int32) (x4 : Option Int32) (s : S2), k11 x2 x3 s = some res → P 11 [some (mR 31 0), some (mR 20 r1), some (mI x2), some (mI x3), oI x4] [] s (0, 0)) {k22 : Int32 → Int32 → Int32 → S2 → Option (S2 × Bool)} (hk22 : ∀ (x2 : Int32) (x3 : Int32) (x4 : Int32) (s : S2), k22 x2 x3 x4 s = some res → P 22 [some (mR 31 0), some (mR 20 r1), some (mI x2), some (mI x3), some (mI x4)] [] s (0, 0)) (x2 : Int32) (x3 : Int32) (x4 : Int32) (s : S2) (h : b_Course_joinFirstPair_L22 r1 k11 k22 x2 x3 x4 s = some res) : P 22 [some (mR 31 0), some (mR 20 r1), some (mI x2), some (mI x3), some (mI x4)] [] s (0, 0) := by
  refine mgo_from hP [11, 22, 67, 73] 260 ?_
  refine go_br (fun hc : (Int32.ofInt 6) ≤ x4 => ?_) (fun hc : ¬ ((Int32.ofInt 6) ≤ x4) => ?_)
  · replace h := (if_pos hc).symm.trans h
    exact c_Course_joinFirstPair_L73 hP hQ hk11 _ _ _ _ h
  · replace h := (if_neg hc).symm.trans h
    obtain ⟨q1, hq, h⟩ := bnd h
    refine go_call (fun _ hw => c_State_isHead hq hw) ?_
    refine go_br (fun hc : (bI q1) = 0 => ?_) (fun hc : ¬ ((bI q1) = 0) => ?_)
    · replace h := (if_pos hc).symm.trans h
      exact c_Course_joinFirstPair_L73 hP hQ hk11 _ _ _ _ h
    · replace h := (if_neg hc).symm.trans h
      obtain ⟨q2, hq, h⟩ := bnd h
      refine go_call (fun _ hw => c_State_isHead hq hw) ?_
      refine go_br (fun hc : (bI q2) = 0 => ?_) (fun hc : ¬ ((bI q2) = 0) => ?_)
      · replace h := (if_pos hc).symm.trans h
        exact c_Course_joinFirstPair_L67 hP hQ hk11 hk22 _ _ _ _ h
      · replace h := (if_neg hc).symm.trans h
        obtain ⟨q3, hq, h⟩ := bnd h
        refine go_call (fun _ hw => c_State_apart hq hw) ?_
        refine go_br (fun hc : x2 < q3 => ?_) (fun hc : ¬ (x2 < q3) => ?_)
        · replace h := (if_pos hc).symm.trans h
          exact c_Course_joinFirstPair_L67 hP hQ hk11 hk22 _ _ _ _ h
        · replace h := (if_neg hc).symm.trans h
          obtain ⟨q4, hq, h⟩ := bnd h
          refine go_call (fun _ hw => c_Course_joinTwo hq hw) ?_
          cases h
          exact ⟨Or.inr rfl, hQ⟩
theorem c_Course_joinFirstPair_L22 {xs : Nat → Int32} {L d : Nat} {r1 : Nat} {P : MK S2} {Q : S2 → Option MV → Prop} {res : S2 × Bool} (hP : MClosed (O3 xs L) (kcall (O3 xs L) (d + 2)) kd_Course_joinFirstPair 2 Q P) (hQ : Q res.1 (some (mI (bI res.2)))) {k11 : Int32 → Int32 → S2 → Option (S2 × Bool)} (hk11 : ∀ (x2 : Int32) (x3 : Int32) (x4 : Option Int32) (s : S2), k11 x2 x3 s = some res → P 11 [some (mR 31 0), some (mR 20 r1), some (mI x2), some (mI x3), oI x4] [] s (0, 0)) : ∀ (fu : Nat) (x2 : Int32) (x3 : Int32) (x4 : Int32) (s : S2), f_Course_joinFirstPair_L22 r1 k11 fu x2 x3 x4 s = some res → P 22 [some (mR 31 0), some (mR 20 r1), some (mI x2), some (mI x3), some (mI x4)] [] s (0, 0)
  | 0, _, _, _, _, h => by cases h
  | fu + 1, x2, x3, x4, s, h => cb_Course_joinFirstPair_L22 hP hQ hk11 (c_Course_joinFirstPair_L22 hP hQ hk11 fu) x2 x3 x4 s h
theorem cb_Course_joinFirstPair_L11 {xs : Nat → Int32} {L d : Nat} {r1 : Nat} {P : MK S2} {Q : S2 → Option MV → Prop} {res : S2 × Bool} (hP : MClosed (O3 xs L) (kcall (O3 xs L) (d + 2)) kd_Course_joinFirstPair 2 Q P) (hQ : Q res.1 (some (mI (bI res.2)))) {k11 : Int32 → Int32 → S2 → Option (S2 × Bool)} (hk11 : ∀ (x2 : Int32) (x3 : Int32) (x4 : Option Int32) (s : S2), k11 x2 x3 s = some res → P 11 [some (mR 31 0), some (mR 20 r1), some (mI x2), some (mI x3), oI x4] [] s (0, 0)) (x2 : Int32) (x3 : Int32) (x4 : Option Int32) (s : S2) (h : b_Course_joinFirstPair_L11 r1 k11 x2 x3 s = some res) : P 11 [some (mR 31 0), some (mR 20 r1), some (mI x2), some (mI x3), oI x4] [] s (0, 0) := by
  refine mgo_from hP [11, 22, 67, 73] 260 ?_
  refine go_br (fun hc : (Int32.ofInt 6) ≤ x3 => ?_) (fun hc : ¬ ((Int32.ofInt 6) ≤ x3) => ?_)
  · replace h := (if_pos hc).symm.trans h
    cases h
    exact ⟨Or.inl rfl, hQ⟩
  · replace h := (if_neg hc).symm.trans h
    exact c_Course_joinFirstPair_L22 hP hQ hk11 FU _ _ _ _ h
theorem c_Course_joinFirstPair_L11 {xs : Nat → Int32} {L d : Nat} {r1 : Nat} {P : MK S2} {Q : S2 → Option MV → Prop} {res : S2 × Bool} (hP : MClosed (O3 xs L) (kcall (O3 xs L) (d + 2)) kd_Course_joinFirstPair 2 Q P) (hQ : Q res.1 (some (mI (bI res.2)))) : ∀ (fu : Nat) (x2 : Int32) (x3 : Int32) (x4 : Option Int32) (s : S2), f_Course_joinFirstPair_L11 r1 fu x2 x3 s = some res → P 11 [some (mR 31 0), some (mR 20 r1), some (mI x2), some (mI x3), oI x4] [] s (0, 0)
  | 0, _, _, _, _, h => by cases h
  | fu + 1, x2, x3, x4, s, h => cb_Course_joinFirstPair_L11 hP hQ (c_Course_joinFirstPair_L11 hP hQ fu) x2 x3 x4 s h
theorem c_Course_joinFirstPair {xs : Nat → Int32} {L d : Nat} {r1 : Nat} {s : S2} {res : S2 × Bool} {Q : S2 → Option MV → Prop} (h : f_Course_joinFirstPair r1 s = some res) (hQ : Q res.1 (some (mI (bI res.2)))) : kcall (O3 xs L) (d + 3) k_Course_joinFirstPair [mR 31 0, mR 20 r1] s Q := by
  refine kc_of (cd := kd_Course_joinFirstPair) (mx := 5) (rt := 2) rfl rfl ?_
  intro P hP
  refine mgo_sound hP [11, 22, 67, 73] 260 _ _ _ _ _ ?_
  obtain ⟨q1, hq, h⟩ := bnd h
  refine go_call (fun _ hw => c_Sea_ofWater hq hw) ?_
  exact c_Course_joinFirstPair_L11 hP hQ FU _ _ none _ h
/-! Weather_strike -/
def f_Weather_strike_L18 (r1 : Nat) (x2 : Int32) (s : S2) : Option S2 := ((f_Weather_draw (Int32.ofInt 100) s).bind fun q1 => (if (q1.1.1 25 0 1) ≤ q1.2 then some q1.1 else (if x2 ≤ 0 then some q1.1 else ((f_Weather_draw x2 q1.1).bind fun q2 => ((f_State_turnKind r1 q2.2 q2.1).bind fun q3 => some q3)))))
def f_Weather_strike (r1 : Nat) (a2 : Int32) (s : S2) : Option S2 := ((f_Weather_draw (Int32.ofInt 100) s).bind fun q1 => (if (q1.1.1 25 0 0) ≤ q1.2 then (f_Weather_strike_L18 r1 a2 q1.1) else ((f_Weather_toss r1 q1.1).bind fun q2 => (f_Weather_strike_L18 r1 a2 q2))))
theorem c_Weather_strike_L18 {xs : Nat → Int32} {L d : Nat} {r1 : Nat} {P : MK S2} {Q : S2 → Option MV → Prop} {res : S2} (hP : MClosed (O3 xs L) (kcall (O3 xs L) (d + 3)) kd_Weather_strike 0 Q P) (hQ : Q res none) (x2 : Int32) (s : S2) (h : f_Weather_strike_L18 r1 x2 s = some res) : P 18 [some (mR 25 0), some (mR 20 r1), some (mI x2)] [] s (0, 0) := by
  refine mgo_from hP [18] 260 ?_
  obtain ⟨q1, hq, h⟩ := bnd h
  refine go_call (fun _ hw => c_Weather_draw hq hw) ?_
  refine go_br (fun hc : (q1.1.1 25 0 1) ≤ q1.2 => ?_) (fun hc : ¬ ((q1.1.1 25 0 1) ≤ q1.2) => ?_)
  · replace h := (if_pos hc).symm.trans h
    cases h
    exact hQ
  · replace h := (if_neg hc).symm.trans h
    refine go_br (fun hc : x2 ≤ 0 => ?_) (fun hc : ¬ (x2 ≤ 0) => ?_)
    · replace h := (if_pos hc).symm.trans h
      cases h
      exact hQ
    · replace h := (if_neg hc).symm.trans h
      obtain ⟨q2, hq, h⟩ := bnd h
      refine go_call (fun _ hw => c_Weather_draw hq hw) ?_
      obtain ⟨q3, hq, h⟩ := bnd h
      refine go_call (fun _ hw => c_State_turnKind hq hw) ?_
      cases h
      exact hQ
theorem c_Weather_strike {xs : Nat → Int32} {L d : Nat} {r1 : Nat} {a2 : Int32} {s : S2} {res : S2} {Q : S2 → Option MV → Prop} (h : f_Weather_strike r1 a2 s = some res) (hQ : Q res none) : kcall (O3 xs L) (d + 4) k_Weather_strike [mR 25 0, mR 20 r1, mI a2] s Q := by
  refine kc_of (cd := kd_Weather_strike) (mx := 3) (rt := 0) rfl rfl ?_
  intro P hP
  refine mgo_sound hP [18] 260 _ _ _ _ _ ?_
  obtain ⟨q1, hq, h⟩ := bnd h
  refine go_call (fun _ hw => c_Weather_draw hq hw) ?_
  refine go_br (fun hc : (q1.1.1 25 0 0) ≤ q1.2 => ?_) (fun hc : ¬ ((q1.1.1 25 0 0) ≤ q1.2) => ?_)
  · replace h := (if_pos hc).symm.trans h
    exact c_Weather_strike_L18 hP hQ _ _ h
  · replace h := (if_neg hc).symm.trans h
    obtain ⟨q2, hq, h⟩ := bnd h
    refine go_call (fun _ hw => c_Weather_toss hq hw) ?_
    exact c_Weather_strike_L18 hP hQ _ _ h
/-! D_undo -/
def f_D_undo (s : S2) : Option (S2 × Int32) := ((f_Past_takeBack 0 s).bind fun q1 => (if (bI q1.2) = 0 then some (q1.1, (Int32.ofInt (-1))) else some (q1.1, (g_State_season 0 q1.1))))
theorem c_D_undo {xs : Nat → Int32} {L d : Nat} {s : S2} {res : S2 × Int32} {Q : S2 → Option MV → Prop} (h : f_D_undo s = some res) (hQ : Q res.1 (some (mI res.2))) : kcall (O3 xs L) (d + 3) k_D_undo [mR 10 0] s Q := by
  refine kc_of (cd := kd_D_undo) (mx := 1) (rt := 1) rfl rfl ?_
  intro P hP
  refine mgo_sound hP [] 260 _ _ _ _ _ ?_
  obtain ⟨q1, hq, h⟩ := bnd h
  refine go_call (fun _ hw => c_Past_takeBack hq hw) ?_
  refine go_br (fun hc : (bI q1.2) = 0 => ?_) (fun hc : ¬ ((bI q1.2) = 0) => ?_)
  · replace h := (if_pos hc).symm.trans h
    cases h
    exact hQ
  · replace h := (if_neg hc).symm.trans h
    refine go_call (fun _ hw => c_State_season hw) ?_
    cases h
    exact hQ
/-! Course_goesBy -/
def f_Course_goesBy_L90 (r1 : Nat) (x5 : Int32) (x6 : Int32) (y0 : Int32) (s : S2) : Option (S2 × Int32) := (if x5 = 0 then none else some (s, ((g_D_held (x6 + (y0 / x5)) (Int32.ofInt 999) s) - x6)))
def f_Course_goesBy_L67 (r1 : Nat) (x3 : Int32) (x4 : Int32) (x5 : Int32) (y0 : Int32) (s : S2) : Option (S2 × Int32) := (if x3 = 0 then ((ix 6 x4).bind fun j2 => (f_Course_goesBy_L90 r1 x5 y0 (s.1 33 0 j2) s)) else ((ix 6 x4).bind fun j1 => (f_Course_goesBy_L90 r1 x5 y0 (s.1 34 0 j1) s)))
def f_Course_goesBy_L29 (r1 : Nat) (x2 : Int32) (x3 : Int32) (s : S2) : Option (S2 × Int32) := ((f_State_headOf r1 x2 s).bind fun q1 => ((f_State_massOf r1 q1 s).bind fun q2 => (if x3 = 0 then ((f_State_xOf r1 q1 s).bind fun q4 => (f_Course_goesBy_L67 r1 x3 q1 (jmax (Int32.ofInt 1) q2) q4 s)) else ((f_State_yOf r1 q1 s).bind fun q3 => (f_Course_goesBy_L67 r1 x3 q1 (jmax (Int32.ofInt 1) q2) q3 s)))))
def f_Course_goesBy (r1 : Nat) (a2 : Int32) (a3 : Int32) (s : S2) : Option (S2 × Int32) := ((f_Course_drawByTies r1 s).bind fun q1 => ((f_Course_doesTradePull q1).bind fun q2 => (if (bI q2) = 0 then (f_Course_goesBy_L29 r1 a2 a3 q1) else ((f_Trade_run 1 0 r1 q1).bind fun q3 => ((f_Course_drawByTrade r1 q3).bind fun q4 => (f_Course_goesBy_L29 r1 a2 a3 q4))))))
theorem c_Course_goesBy_L90 {xs : Nat → Int32} {L d : Nat} {r1 : Nat} {P : MK S2} {Q : S2 → Option MV → Prop} {res : S2 × Int32} (hP : MClosed (O3 xs L) (kcall (O3 xs L) (d + 4)) kd_Course_goesBy 1 Q P) (hQ : Q res.1 (some (mI res.2))) (x5 : Int32) (x6 : Int32) (y0 : Int32) (x2 : Int32) (x3 : Int32) (x4 : Int32) (s : S2) (h : f_Course_goesBy_L90 r1 x5 x6 y0 s = some res) : P 90 [some (mR 31 0), some (mR 20 r1), some (mI x2), some (mI x3), some (mI x4), some (mI x5), some (mI x6), none] [mI y0] s (0, 0) := by
  refine mgo_from hP [29, 67, 90] 260 ?_
  obtain ⟨hz, h⟩ := nif h
  refine go_and hz ?_
  refine go_call (fun _ hw => c_D_held hw) ?_
  cases h
  exact hQ
theorem c_Course_goesBy_L67 {xs : Nat → Int32} {L d : Nat} {r1 : Nat} {P : MK S2} {Q : S2 → Option MV → Prop} {res : S2 × Int32} (hP : MClosed (O3 xs L) (kcall (O3 xs L) (d + 4)) kd_Course_goesBy 1 Q P) (hQ : Q res.1 (some (mI res.2))) (x3 : Int32) (x4 : Int32) (x5 : Int32) (y0 : Int32) (x2 : Int32) (s : S2) (h : f_Course_goesBy_L67 r1 x3 x4 x5 y0 s = some res) : P 67 [some (mR 31 0), some (mR 20 r1), some (mI x2), some (mI x3), some (mI x4), some (mI x5), none, none] [mI y0] s (0, 0) := by
  refine mgo_from hP [29, 67, 90] 260 ?_
  refine go_brn (fun hc : ¬ (x3 = 0) => ?_) (fun hc : x3 = 0 => ?_)
  · replace h := (if_neg hc).symm.trans h
    obtain ⟨j1, hj, h⟩ := bnd h
    refine go_ix j1 (ix_lt hj) (ix_eq hj) ?_
    exact c_Course_goesBy_L90 hP hQ _ _ _ _ _ _ _ h
  · replace h := (if_pos hc).symm.trans h
    obtain ⟨j2, hj, h⟩ := bnd h
    refine go_ix j2 (ix_lt hj) (ix_eq hj) ?_
    exact c_Course_goesBy_L90 hP hQ _ _ _ _ _ _ _ h
theorem c_Course_goesBy_L29 {xs : Nat → Int32} {L d : Nat} {r1 : Nat} {P : MK S2} {Q : S2 → Option MV → Prop} {res : S2 × Int32} (hP : MClosed (O3 xs L) (kcall (O3 xs L) (d + 4)) kd_Course_goesBy 1 Q P) (hQ : Q res.1 (some (mI res.2))) (x2 : Int32) (x3 : Int32) (s : S2) (h : f_Course_goesBy_L29 r1 x2 x3 s = some res) : P 29 [some (mR 31 0), some (mR 20 r1), some (mI x2), some (mI x3), none, none, none, none] [] s (0, 0) := by
  refine mgo_from hP [29, 67, 90] 260 ?_
  obtain ⟨q1, hq, h⟩ := bnd h
  refine go_call (fun _ hw => c_State_headOf hq hw) ?_
  obtain ⟨q2, hq, h⟩ := bnd h
  refine go_call (fun _ hw => c_State_massOf hq hw) ?_
  refine go_brn (fun hc : ¬ (x3 = 0) => ?_) (fun hc : x3 = 0 => ?_)
  · replace h := (if_neg hc).symm.trans h
    obtain ⟨q3, hq, h⟩ := bnd h
    refine go_call (fun _ hw => c_State_yOf hq hw) ?_
    exact c_Course_goesBy_L67 hP hQ _ _ _ _ _ _ h
  · replace h := (if_pos hc).symm.trans h
    obtain ⟨q4, hq, h⟩ := bnd h
    refine go_call (fun _ hw => c_State_xOf hq hw) ?_
    exact c_Course_goesBy_L67 hP hQ _ _ _ _ _ _ h
theorem c_Course_goesBy {xs : Nat → Int32} {L d : Nat} {r1 : Nat} {a2 : Int32} {a3 : Int32} {s : S2} {res : S2 × Int32} {Q : S2 → Option MV → Prop} (h : f_Course_goesBy r1 a2 a3 s = some res) (hQ : Q res.1 (some (mI res.2))) : kcall (O3 xs L) (d + 5) k_Course_goesBy [mR 31 0, mR 20 r1, mI a2, mI a3] s Q := by
  refine kc_of (cd := kd_Course_goesBy) (mx := 8) (rt := 1) rfl rfl ?_
  intro P hP
  refine mgo_sound hP [29, 67, 90] 260 _ _ _ _ _ ?_
  obtain ⟨q1, hq, h⟩ := bnd h
  refine go_call (fun _ hw => c_Course_drawByTies hq hw) ?_
  obtain ⟨q2, hq, h⟩ := bnd h
  refine go_call (fun _ hw => c_Course_doesTradePull hq hw) ?_
  refine go_br (fun hc : (bI q2) = 0 => ?_) (fun hc : ¬ ((bI q2) = 0) => ?_)
  · replace h := (if_pos hc).symm.trans h
    exact c_Course_goesBy_L29 hP hQ _ _ _ h
  · replace h := (if_neg hc).symm.trans h
    obtain ⟨q3, hq, h⟩ := bnd h
    refine go_call (fun _ hw => c_Trade_run hq hw) ?_
    obtain ⟨q4, hq, h⟩ := bnd h
    refine go_call (fun _ hw => c_Course_drawByTrade hq hw) ?_
    exact c_Course_goesBy_L29 hP hQ _ _ _ h
/-! D_buys -/
def f_D_buys (a1 : Int32) (a2 : Int32) (s : S2) : Option (S2 × Int32) := (if (bI (g_D_areTwo a1 a2 s)) = 0 then some (s, (Int32.ofInt (-1))) else ((f_Trade_run 0 0 0 s).bind fun q1 => ((f_Trade_bought 0 a1 a2 q1).bind fun q2 => some (q1, q2))))
theorem c_D_buys {xs : Nat → Int32} {L d : Nat} {a1 : Int32} {a2 : Int32} {s : S2} {res : S2 × Int32} {Q : S2 → Option MV → Prop} (h : f_D_buys a1 a2 s = some res) (hQ : Q res.1 (some (mI res.2))) : kcall (O3 xs L) (d + 5) k_D_buys [mR 10 0, mI a1, mI a2] s Q := by
  refine kc_of (cd := kd_D_buys) (mx := 3) (rt := 1) rfl rfl ?_
  intro P hP
  refine mgo_sound hP [] 260 _ _ _ _ _ ?_
  refine go_call (fun _ hw => c_D_areTwo hw) ?_
  refine go_brn (fun hc : ¬ ((bI (g_D_areTwo a1 a2 s)) = 0) => ?_) (fun hc : (bI (g_D_areTwo a1 a2 s)) = 0 => ?_)
  · replace h := (if_neg hc).symm.trans h
    obtain ⟨q1, hq, h⟩ := bnd h
    refine go_call (fun _ hw => c_Trade_run hq hw) ?_
    obtain ⟨q2, hq, h⟩ := bnd h
    refine go_call (fun _ hw => c_Trade_bought hq hw) ?_
    cases h
    exact hQ
  · replace h := (if_pos hc).symm.trans h
    cases h
    exact hQ
/-! D_pays -/
def f_D_pays (a1 : Int32) (s : S2) : Option (S2 × Int32) := (if (bI (g_D_isIsle a1 s)) = 0 then some (s, (Int32.ofInt (-1))) else ((f_Trade_run 0 0 0 s).bind fun q1 => ((f_Trade_paidBy 0 a1 q1).bind fun q2 => some (q1, q2))))
theorem c_D_pays {xs : Nat → Int32} {L d : Nat} {a1 : Int32} {s : S2} {res : S2 × Int32} {Q : S2 → Option MV → Prop} (h : f_D_pays a1 s = some res) (hQ : Q res.1 (some (mI res.2))) : kcall (O3 xs L) (d + 5) k_D_pays [mR 10 0, mI a1] s Q := by
  refine kc_of (cd := kd_D_pays) (mx := 2) (rt := 1) rfl rfl ?_
  intro P hP
  refine mgo_sound hP [] 260 _ _ _ _ _ ?_
  refine go_call (fun _ hw => c_D_isIsle hw) ?_
  refine go_brn (fun hc : ¬ ((bI (g_D_isIsle a1 s)) = 0) => ?_) (fun hc : (bI (g_D_isIsle a1 s)) = 0 => ?_)
  · replace h := (if_neg hc).symm.trans h
    obtain ⟨q1, hq, h⟩ := bnd h
    refine go_call (fun _ hw => c_Trade_run hq hw) ?_
    obtain ⟨q2, hq, h⟩ := bnd h
    refine go_call (fun _ hw => c_Trade_paidBy hq hw) ?_
    cases h
    exact hQ
  · replace h := (if_pos hc).symm.trans h
    cases h
    exact hQ
/-! D_lacks -/
def f_D_lacks (a1 : Int32) (s : S2) : Option (S2 × Int32) := (if (bI (g_D_isIsle a1 s)) = 0 then some (s, (Int32.ofInt (-1))) else ((f_Trade_run 0 0 0 s).bind fun q1 => ((f_Trade_lackOf 0 a1 q1).bind fun q2 => some (q1, q2))))
theorem c_D_lacks {xs : Nat → Int32} {L d : Nat} {a1 : Int32} {s : S2} {res : S2 × Int32} {Q : S2 → Option MV → Prop} (h : f_D_lacks a1 s = some res) (hQ : Q res.1 (some (mI res.2))) : kcall (O3 xs L) (d + 5) k_D_lacks [mR 10 0, mI a1] s Q := by
  refine kc_of (cd := kd_D_lacks) (mx := 2) (rt := 1) rfl rfl ?_
  intro P hP
  refine mgo_sound hP [] 260 _ _ _ _ _ ?_
  refine go_call (fun _ hw => c_D_isIsle hw) ?_
  refine go_brn (fun hc : ¬ ((bI (g_D_isIsle a1 s)) = 0) => ?_) (fun hc : (bI (g_D_isIsle a1 s)) = 0 => ?_)
  · replace h := (if_neg hc).symm.trans h
    obtain ⟨q1, hq, h⟩ := bnd h
    refine go_call (fun _ hw => c_Trade_run hq hw) ?_
    obtain ⟨q2, hq, h⟩ := bnd h
    refine go_call (fun _ hw => c_Trade_lackOf hq hw) ?_
    cases h
    exact hQ
  · replace h := (if_pos hc).symm.trans h
    cases h
    exact hQ
/-! D_monopoly -/
def f_D_monopoly (a1 : Int32) (a2 : Int32) (s : S2) : Option (S2 × Int32) := (if (bI (g_D_hasSea s)) = 0 then some (s, (Int32.ofInt (-1))) else (if (bI (g_D_isWithin a1 (Int32.ofInt 0) (Int32.ofInt 3) s)) = 0 then some (s, (Int32.ofInt (-1))) else (if (bI (g_D_isWithin a2 (Int32.ofInt 0) (Int32.ofInt 1) s)) = 0 then some (s, (Int32.ofInt (-1))) else ((f_Trade_run 0 0 0 s).bind fun q1 => ((f_Trade_mostSelling 0 0 a1 q1).bind fun q2 => (if q2 = (Int32.ofInt (-1)) then some (q1, (Int32.ofInt (-1))) else (if a2 = 0 then some (q1, q2) else ((f_Trade_soldBy 0 q2 q1).bind fun q3 => some (q1, q3)))))))))
set_option maxRecDepth 20000 in
set_option maxHeartbeats 4000000 in
theorem c_D_monopoly {xs : Nat → Int32} {L d : Nat} {a1 : Int32} {a2 : Int32} {s : S2} {res : S2 × Int32} {Q : S2 → Option MV → Prop} (h : f_D_monopoly a1 a2 s = some res) (hQ : Q res.1 (some (mI res.2))) : kcall (O3 xs L) (d + 5) k_D_monopoly [mR 10 0, mI a1, mI a2] s Q := by
  refine kc_of (cd := kd_D_monopoly) (mx := 4) (rt := 1) rfl rfl ?_
  intro P hP
  refine mgo_sound hP [] 260 _ _ _ _ _ ?_
  refine go_call (fun _ hw => c_D_hasSea hw) ?_
  refine go_br (fun hc : (bI (g_D_hasSea s)) = 0 => ?_) (fun hc : ¬ ((bI (g_D_hasSea s)) = 0) => ?_)
  · replace h := (if_pos hc).symm.trans h
    cases h
    exact hQ
  · replace h := (if_neg hc).symm.trans h
    refine go_call (fun _ hw => c_D_isWithin hw) ?_
    refine go_br (fun hc : (bI (g_D_isWithin a1 (Int32.ofInt 0) (Int32.ofInt 3) s)) = 0 => ?_) (fun hc : ¬ ((bI (g_D_isWithin a1 (Int32.ofInt 0) (Int32.ofInt 3) s)) = 0) => ?_)
    · replace h := (if_pos hc).symm.trans h
      cases h
      exact hQ
    · replace h := (if_neg hc).symm.trans h
      refine go_call (fun _ hw => c_D_isWithin hw) ?_
      refine go_brn (fun hc : ¬ ((bI (g_D_isWithin a2 (Int32.ofInt 0) (Int32.ofInt 1) s)) = 0) => ?_) (fun hc : (bI (g_D_isWithin a2 (Int32.ofInt 0) (Int32.ofInt 1) s)) = 0 => ?_)
      · replace h := (if_neg hc).symm.trans h
        obtain ⟨q1, hq, h⟩ := bnd h
        refine go_call (fun _ hw => c_Trade_run hq hw) ?_
        obtain ⟨q2, hq, h⟩ := bnd h
        refine go_call (fun _ hw => c_Trade_mostSelling hq hw) ?_
        refine go_brn (fun hc : ¬ (q2 = (Int32.ofInt (-1))) => ?_) (fun hc : q2 = (Int32.ofInt (-1)) => ?_)
        · replace h := (if_neg hc).symm.trans h
          refine go_brn (fun hc : ¬ (a2 = 0) => ?_) (fun hc : a2 = 0 => ?_)
          · replace h := (if_neg hc).symm.trans h
            obtain ⟨q3, hq, h⟩ := bnd h
            refine go_call (fun _ hw => c_Trade_soldBy hq hw) ?_
            cases h
            exact hQ
          · replace h := (if_pos hc).symm.trans h
            cases h
            exact hQ
        · replace h := (if_pos hc).symm.trans h
          cases h
          exact hQ
      · replace h := (if_pos hc).symm.trans h
        cases h
        exact hQ
/-! Forecast_leastCut -/
def b_Forecast_leastCut_L24 (r1 : Nat) (k24 : Int32 → Int32 → Int32 → Int32 → S2 → Option (S2 × Int32)) (x2 : Int32) (x3 : Int32) (x4 : Int32) (x5 : Int32) (s : S2) : Option (S2 × Int32) := (if x4 < x5 then some (s, (Int32.ofInt (-1))) else ((f_State_tellPrice 2 x2 (x4 - x5) s).bind fun q1 => ((f_Trade_run r1 0 2 q1).bind fun q2 => ((f_Trade_bought r1 x3 x2 q2).bind fun q3 => (if q3 ≤ 0 then (k24 x2 x3 x4 (x5 + (Int32.ofInt 1)) q2) else some (q2, x5))))))
def f_Forecast_leastCut_L24 (r1 : Nat) : Nat → Int32 → Int32 → Int32 → Int32 → S2 → Option (S2 × Int32)
  | 0 => fun _ _ _ _ _ => none
  | n + 1 => b_Forecast_leastCut_L24 r1 (f_Forecast_leastCut_L24 r1 n)
def f_Forecast_leastCut (r1 : Nat) (a2 : Int32) (a3 : Int32) (s : S2) : Option (S2 × Int32) := ((f_State_copy 2 0 s).bind fun q1 => ((f_State_priceOf 0 a2 q1).bind fun q2 => (f_Forecast_leastCut_L24 r1 FU a2 a3 q2 (Int32.ofInt 0) q1)))
theorem cb_Forecast_leastCut_L24 {xs : Nat → Int32} {L d : Nat} {r1 : Nat} {P : MK S2} {Q : S2 → Option MV → Prop} {res : S2 × Int32} (hP : MClosed (O3 xs L) (kcall (O3 xs L) (d + 4)) kd_Forecast_leastCut 1 Q P) (hQ : Q res.1 (some (mI res.2))) {k24 : Int32 → Int32 → Int32 → Int32 → S2 → Option (S2 × Int32)} (hk24 : ∀ (x2 : Int32) (x3 : Int32) (x4 : Int32) (x5 : Int32) (s : S2), k24 x2 x3 x4 x5 s = some res → P 24 [some (mR 41 0), some (mR 26 r1), some (mI x2), some (mI x3), some (mI x4), some (mI x5)] [] s (0, 0)) (x2 : Int32) (x3 : Int32) (x4 : Int32) (x5 : Int32) (s : S2) (h : b_Forecast_leastCut_L24 r1 k24 x2 x3 x4 x5 s = some res) : P 24 [some (mR 41 0), some (mR 26 r1), some (mI x2), some (mI x3), some (mI x4), some (mI x5)] [] s (0, 0) := by
  refine mgo_from hP [24] 260 ?_
  refine go_br (fun hc : x4 < x5 => ?_) (fun hc : ¬ (x4 < x5) => ?_)
  · replace h := (if_pos hc).symm.trans h
    cases h
    exact hQ
  · replace h := (if_neg hc).symm.trans h
    obtain ⟨q1, hq, h⟩ := bnd h
    refine go_call (fun _ hw => c_State_tellPrice hq hw) ?_
    obtain ⟨q2, hq, h⟩ := bnd h
    refine go_call (fun _ hw => c_Trade_run hq hw) ?_
    obtain ⟨q3, hq, h⟩ := bnd h
    refine go_call (fun _ hw => c_Trade_bought hq hw) ?_
    refine go_br (fun hc : q3 ≤ 0 => ?_) (fun hc : ¬ (q3 ≤ 0) => ?_)
    · replace h := (if_pos hc).symm.trans h
      exact hk24 _ _ _ _ _ h
    · replace h := (if_neg hc).symm.trans h
      cases h
      exact hQ
theorem c_Forecast_leastCut_L24 {xs : Nat → Int32} {L d : Nat} {r1 : Nat} {P : MK S2} {Q : S2 → Option MV → Prop} {res : S2 × Int32} (hP : MClosed (O3 xs L) (kcall (O3 xs L) (d + 4)) kd_Forecast_leastCut 1 Q P) (hQ : Q res.1 (some (mI res.2))) : ∀ (fu : Nat) (x2 : Int32) (x3 : Int32) (x4 : Int32) (x5 : Int32) (s : S2), f_Forecast_leastCut_L24 r1 fu x2 x3 x4 x5 s = some res → P 24 [some (mR 41 0), some (mR 26 r1), some (mI x2), some (mI x3), some (mI x4), some (mI x5)] [] s (0, 0)
  | 0, _, _, _, _, _, h => by cases h
  | fu + 1, x2, x3, x4, x5, s, h => cb_Forecast_leastCut_L24 hP hQ (c_Forecast_leastCut_L24 hP hQ fu) x2 x3 x4 x5 s h
theorem c_Forecast_leastCut {xs : Nat → Int32} {L d : Nat} {r1 : Nat} {a2 : Int32} {a3 : Int32} {s : S2} {res : S2 × Int32} {Q : S2 → Option MV → Prop} (h : f_Forecast_leastCut r1 a2 a3 s = some res) (hQ : Q res.1 (some (mI res.2))) : kcall (O3 xs L) (d + 5) k_Forecast_leastCut [mR 41 0, mR 26 r1, mI a2, mI a3] s Q := by
  refine kc_of (cd := kd_Forecast_leastCut) (mx := 6) (rt := 1) rfl rfl ?_
  intro P hP
  refine mgo_sound hP [24] 260 _ _ _ _ _ ?_
  obtain ⟨q1, hq, h⟩ := bnd h
  refine go_call (fun _ hw => c_State_copy hq hw) ?_
  obtain ⟨q2, hq, h⟩ := bnd h
  refine go_call (fun _ hw => c_State_priceOf hq hw) ?_
  exact c_Forecast_leastCut_L24 hP hQ FU _ _ _ _ _ h
/-! D_everywhere -/
def f_D_everywhere (a1 : Int32) (s : S2) : Option Int32 := (if (bI (g_D_hasSea s)) = 0 then some (Int32.ofInt (-1)) else (if (bI (g_D_isWithin a1 (Int32.ofInt 0) (Int32.ofInt 999) s)) = 0 then some (Int32.ofInt (-1)) else ((f_State_seenByAll 0 a1 s).bind fun q1 => some q1)))
theorem c_D_everywhere {xs : Nat → Int32} {L d : Nat} {a1 : Int32} {s : S2} {res : Int32} {Q : S2 → Option MV → Prop} (h : f_D_everywhere a1 s = some res) (hQ : Q s (some (mI res))) : kcall (O3 xs L) (d + 4) k_D_everywhere [mR 10 0, mI a1] s Q := by
  refine kc_of (cd := kd_D_everywhere) (mx := 2) (rt := 1) rfl rfl ?_
  intro P hP
  refine mgo_sound hP [] 260 _ _ _ _ _ ?_
  refine go_call (fun _ hw => c_D_hasSea hw) ?_
  refine go_br (fun hc : (bI (g_D_hasSea s)) = 0 => ?_) (fun hc : ¬ ((bI (g_D_hasSea s)) = 0) => ?_)
  · replace h := (if_pos hc).symm.trans h
    cases h
    exact hQ
  · replace h := (if_neg hc).symm.trans h
    refine go_call (fun _ hw => c_D_isWithin hw) ?_
    refine go_br (fun hc : (bI (g_D_isWithin a1 (Int32.ofInt 0) (Int32.ofInt 999) s)) = 0 => ?_) (fun hc : ¬ ((bI (g_D_isWithin a1 (Int32.ofInt 0) (Int32.ofInt 999) s)) = 0) => ?_)
    · replace h := (if_pos hc).symm.trans h
      cases h
      exact hQ
    · replace h := (if_neg hc).symm.trans h
      obtain ⟨q1, hq, h⟩ := bnd h
      refine go_call (fun _ hw => c_State_seenByAll hq hw) ?_
      cases h
      exact hQ
/-! D_lands -/
def f_D_lands (a1 : Int32) (a2 : Int32) (s : S2) : Option Int32 := (if (bI (g_D_hasSea s)) = 0 then some (Int32.ofInt (-1)) else (if (bI (g_D_isWithin a1 (Int32.ofInt 0) (Int32.ofInt 999) s)) = 0 then some (Int32.ofInt (-1)) else (if (bI (g_D_isWithin a2 (Int32.ofInt 0) (Int32.ofInt 1) s)) = 0 then some (Int32.ofInt (-1)) else (if a2 = 0 then ((f_State_landCount 0 a1 s).bind fun q2 => some q2) else ((f_State_largestLand 0 a1 s).bind fun q1 => some q1)))))
set_option maxRecDepth 20000 in
set_option maxHeartbeats 4000000 in
theorem c_D_lands {xs : Nat → Int32} {L d : Nat} {a1 : Int32} {a2 : Int32} {s : S2} {res : Int32} {Q : S2 → Option MV → Prop} (h : f_D_lands a1 a2 s = some res) (hQ : Q s (some (mI res))) : kcall (O3 xs L) (d + 5) k_D_lands [mR 10 0, mI a1, mI a2] s Q := by
  refine kc_of (cd := kd_D_lands) (mx := 3) (rt := 1) rfl rfl ?_
  intro P hP
  refine mgo_sound hP [] 260 _ _ _ _ _ ?_
  refine go_call (fun _ hw => c_D_hasSea hw) ?_
  refine go_br (fun hc : (bI (g_D_hasSea s)) = 0 => ?_) (fun hc : ¬ ((bI (g_D_hasSea s)) = 0) => ?_)
  · replace h := (if_pos hc).symm.trans h
    cases h
    exact hQ
  · replace h := (if_neg hc).symm.trans h
    refine go_call (fun _ hw => c_D_isWithin hw) ?_
    refine go_br (fun hc : (bI (g_D_isWithin a1 (Int32.ofInt 0) (Int32.ofInt 999) s)) = 0 => ?_) (fun hc : ¬ ((bI (g_D_isWithin a1 (Int32.ofInt 0) (Int32.ofInt 999) s)) = 0) => ?_)
    · replace h := (if_pos hc).symm.trans h
      cases h
      exact hQ
    · replace h := (if_neg hc).symm.trans h
      refine go_call (fun _ hw => c_D_isWithin hw) ?_
      refine go_brn (fun hc : ¬ ((bI (g_D_isWithin a2 (Int32.ofInt 0) (Int32.ofInt 1) s)) = 0) => ?_) (fun hc : (bI (g_D_isWithin a2 (Int32.ofInt 0) (Int32.ofInt 1) s)) = 0 => ?_)
      · replace h := (if_neg hc).symm.trans h
        refine go_brn (fun hc : ¬ (a2 = 0) => ?_) (fun hc : a2 = 0 => ?_)
        · replace h := (if_neg hc).symm.trans h
          obtain ⟨q1, hq, h⟩ := bnd h
          refine go_call (fun _ hw => c_State_largestLand hq hw) ?_
          cases h
          exact hQ
        · replace h := (if_pos hc).symm.trans h
          obtain ⟨q2, hq, h⟩ := bnd h
          refine go_call (fun _ hw => c_State_landCount hq hw) ?_
          cases h
          exact hQ
      · replace h := (if_pos hc).symm.trans h
        cases h
        exact hQ
