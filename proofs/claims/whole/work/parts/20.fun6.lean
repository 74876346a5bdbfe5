/-! Charts_secretTie -/
def f_Charts_secretTie_L113 (k4 : Int32 → Int32 → Int32 → S2 → Option (S2 × Int32)) (k20 : Int32 → Int32 → Int32 → Int32 → S2 → Option (S2 × Int32)) (k35 : Int32 → Int32 → Int32 → Int32 → Int32 → S2 → Option (S2 × Int32)) (x1 : Int32) (x2 : Int32) (x3 : Int32) (x4 : Int32) (x5 : Int32) (s : S2) : Option (S2 × Int32) := (k35 x1 x2 x3 x4 (x5 + (Int32.ofInt 1)) s)
def b_Charts_secretTie_L35 (k4 : Int32 → Int32 → Int32 → S2 → Option (S2 × Int32)) (k20 : Int32 → Int32 → Int32 → Int32 → S2 → Option (S2 × Int32)) (k35 : Int32 → Int32 → Int32 → Int32 → Int32 → S2 → Option (S2 × Int32)) (x1 : Int32) (x2 : Int32) (x3 : Int32) (x4 : Int32) (x5 : Int32) (s : S2) : Option (S2 × Int32) := (if (Int32.ofInt 6) ≤ x5 then (k20 x1 x2 x3 (x4 + (Int32.ofInt 1)) s) else ((f_Course_drawByTold s).bind fun q1 => ((f_Course_addTie x3 x4 (x5 / (Int32.ofInt 3)) ((jrem x5 (Int32.ofInt 3)) + (Int32.ofInt 1)) q1).bind fun q2 => ((f_Charts_areSo q2).bind fun q3 => (if (bI q3.2) = 0 then (f_Charts_secretTie_L113 k4 k20 k35 x1 x2 x3 x4 x5 q3.1) else (if x2 = x1 then some (q3.1, (((((Int32.ofInt 1000) * x3) + ((Int32.ofInt 100) * x4)) + ((Int32.ofInt 10) * (x5 / (Int32.ofInt 3)))) + ((jrem x5 (Int32.ofInt 3)) + (Int32.ofInt 1)))) else (f_Charts_secretTie_L113 k4 k20 k35 x1 (x2 + (Int32.ofInt 1)) x3 x4 x5 q3.1)))))))
def f_Charts_secretTie_L35 (k4 : Int32 → Int32 → Int32 → S2 → Option (S2 × Int32)) (k20 : Int32 → Int32 → Int32 → Int32 → S2 → Option (S2 × Int32)) : Nat → Int32 → Int32 → Int32 → Int32 → Int32 → S2 → Option (S2 × Int32)
  | 0 => fun _ _ _ _ _ _ => none
  | n + 1 => b_Charts_secretTie_L35 k4 k20 (f_Charts_secretTie_L35 k4 k20 n)
def b_Charts_secretTie_L20 (k4 : Int32 → Int32 → Int32 → S2 → Option (S2 × Int32)) (k20 : Int32 → Int32 → Int32 → Int32 → S2 → Option (S2 × Int32)) (x1 : Int32) (x2 : Int32) (x3 : Int32) (x4 : Int32) (s : S2) : Option (S2 × Int32) := (if (g_Sea_isles 0 s) ≤ x4 then (k4 x1 x2 (x3 + (Int32.ofInt 1)) s) else (f_Charts_secretTie_L35 k4 k20 FU x1 x2 x3 x4 (Int32.ofInt 0) s))
def f_Charts_secretTie_L20 (k4 : Int32 → Int32 → Int32 → S2 → Option (S2 × Int32)) : Nat → Int32 → Int32 → Int32 → Int32 → S2 → Option (S2 × Int32)
  | 0 => fun _ _ _ _ _ => none
  | n + 1 => b_Charts_secretTie_L20 k4 (f_Charts_secretTie_L20 k4 n)
def b_Charts_secretTie_L4 (k4 : Int32 → Int32 → Int32 → S2 → Option (S2 × Int32)) (x1 : Int32) (x2 : Int32) (x3 : Int32) (s : S2) : Option (S2 × Int32) := (if (g_Sea_isles 0 s) ≤ x3 then (if x1 = (Int32.ofInt (-1)) then some (s, x2) else some (s, (Int32.ofInt (-1)))) else (f_Charts_secretTie_L20 k4 FU x1 x2 x3 (x3 + (Int32.ofInt 1)) s))
def f_Charts_secretTie_L4 : Nat → Int32 → Int32 → Int32 → S2 → Option (S2 × Int32)
  | 0 => fun _ _ _ _ => none
  | n + 1 => b_Charts_secretTie_L4 (f_Charts_secretTie_L4 n)
def f_Charts_secretTie (a1 : Int32) (s : S2) : Option (S2 × Int32) := (f_Charts_secretTie_L4 FU a1 (Int32.ofInt 0) (Int32.ofInt 0) s)
theorem c_Charts_secretTie_L113 {xs : Nat → Int32} {L d : Nat} {P : MK S2} {Q : S2 → Option MV → Prop} {res : S2 × Int32} (hP : MClosed (O3 xs L) (kcall (O3 xs L) (d + 6)) kd_Charts_secretTie 1 Q P) (hQ : Q res.1 (some (mI res.2))) {k4 : Int32 → Int32 → Int32 → S2 → Option (S2 × Int32)} {k20 : Int32 → Int32 → Int32 → Int32 → S2 → Option (S2 × Int32)} {k35 : Int32 → Int32 → Int32 → Int32 → Int32 → S2 → Option (S2 × Int32)} (hk4 : ∀ (x1 : Int32) (x2 : Int32) (x3 : Int32) (x4 : Option Int32) (x5 : Option Int32) (x6 : Option Int32) (x7 : Option Int32) (s : S2), k4 x1 x2 x3 s = some res → P 4 [some (mR 49 0), some (mI x1), some (mI x2), some (mI x3), oI x4, oI x5, oI x6, oI x7] [] s (0, 0)) (hk20 : ∀ (x1 : Int32) (x2 : Int32) (x3 : Int32) (x4 : Int32) (x5 : Option Int32) (x6 : Option Int32) (x7 : Option Int32) (s : S2), k20 x1 x2 x3 x4 s = some res → P 20 [some (mR 49 0), some (mI x1), some (mI x2), some (mI x3), some (mI x4), oI x5, oI x6, oI x7] [] s (0, 0)) (hk35 : ∀ (x1 : Int32) (x2 : Int32) (x3 : Int32) (x4 : Int32) (x5 : Int32) (x6 : Option Int32) (x7 : Option Int32) (s : S2), k35 x1 x2 x3 x4 x5 s = some res → P 35 [some (mR 49 0), some (mI x1), some (mI x2), some (mI x3), some (mI x4), some (mI x5), oI x6, oI x7] [] s (0, 0)) (x1 : Int32) (x2 : Int32) (x3 : Int32) (x4 : Int32) (x5 : Int32) (x6 : Int32) (x7 : Int32) (s : S2) (h : f_Charts_secretTie_L113 k4 k20 k35 x1 x2 x3 x4 x5 s = some res) : P 113 [some (mR 49 0), some (mI x1), some (mI x2), some (mI x3), some (mI x4), some (mI x5), some (mI x6), some (mI x7)] [] s (0, 0) := by
  refine mgo_from hP [4, 20, 35, 113] 260 ?_
  exact hk35 _ _ _ _ _ (some x6) (some x7) _ h
theorem cb_Charts_secretTie_L35 {xs : Nat → Int32} {L d : Nat} {P : MK S2} {Q : S2 → Option MV → Prop} {res : S2 × Int32} (hP : MClosed (O3 xs L) (kcall (O3 xs L) (d + 6)) kd_Charts_secretTie 1 Q P) (hQ : Q res.1 (some (mI res.2))) {k4 : Int32 → Int32 → Int32 → S2 → Option (S2 × Int32)} {k20 : Int32 → Int32 → Int32 → Int32 → S2 → Option (S2 × Int32)} (hk4 : ∀ (x1 : Int32) (x2 : Int32) (x3 : Int32) (x4 : Option Int32) (x5 : Option Int32) (x6 : Option Int32) (x7 : Option Int32) (s : S2), k4 x1 x2 x3 s = some res → P 4 [some (mR 49 0), some (mI x1), some (mI x2), some (mI x3), oI x4, oI x5, oI x6, oI x7] [] s (0, 0)) (hk20 : ∀ (x1 : Int32) (x2 : Int32) (x3 : Int32) (x4 : Int32) (x5 : Option Int32) (x6 : Option Int32) (x7 : Option Int32) (s : S2), k20 x1 x2 x3 x4 s = some res → P 20 [some (mR 49 0), some (mI x1), some (mI x2), some (mI x3), some (mI x4), oI x5, oI x6, oI x7] [] s (0, 0)) {k35 : Int32 → Int32 → Int32 → Int32 → Int32 → S2 → Option (S2 × Int32)} (hk35 : ∀ (x1 : Int32) (x2 : Int32) (x3 : Int32) (x4 : Int32) (x5 : Int32) (x6 : Option Int32) (x7 : Option Int32) (s : S2), k35 x1 x2 x3 x4 x5 s = some res → P 35 [some (mR 49 0), some (mI x1), some (mI x2), some (mI x3), some (mI x4), some (mI x5), oI x6, oI x7] [] s (0, 0)) (x1 : Int32) (x2 : Int32) (x3 : Int32) (x4 : Int32) (x5 : Int32) (x6 : Option Int32) (x7 : Option Int32) (s : S2) (h : b_Charts_secretTie_L35 k4 k20 k35 x1 x2 x3 x4 x5 s = some res) : P 35 [some (mR 49 0), some (mI x1), some (mI x2), some (mI x3), some (mI x4), some (mI x5), oI x6, oI x7] [] s (0, 0) := by
  refine mgo_from hP [4, 20, 35, 113] 260 ?_
  refine go_br (fun hc : (Int32.ofInt 6) ≤ x5 => ?_) (fun hc : ¬ ((Int32.ofInt 6) ≤ x5) => ?_)
  · replace h := (if_pos hc).symm.trans h
    exact hk20 _ _ _ _ (some x5) x6 x7 _ h
  · replace h := (if_neg hc).symm.trans h
    refine go_and (by decide) ?_
    refine go_and (by decide) ?_
    obtain ⟨q1, hq, h⟩ := bnd h
    refine go_call (fun _ hw => c_Course_drawByTold hq hw) ?_
    obtain ⟨q2, hq, h⟩ := bnd h
    refine go_call (fun _ hw => c_Course_addTie hq hw) ?_
    obtain ⟨q3, hq, h⟩ := bnd h
    refine go_call (fun _ hw => c_Charts_areSo hq hw) ?_
    refine go_br (fun hc : (bI q3.2) = 0 => ?_) (fun hc : ¬ ((bI q3.2) = 0) => ?_)
    · replace h := (if_pos hc).symm.trans h
      exact c_Charts_secretTie_L113 hP hQ hk4 hk20 hk35 _ _ _ _ _ _ _ _ h
    · replace h := (if_neg hc).symm.trans h
      refine go_brn (fun hc : ¬ (x2 = x1) => ?_) (fun hc : x2 = x1 => ?_)
      · replace h := (if_neg hc).symm.trans h
        exact c_Charts_secretTie_L113 hP hQ hk4 hk20 hk35 _ _ _ _ _ _ _ _ h
      · replace h := (if_pos hc).symm.trans h
        cases h
        exact hQ
theorem c_Charts_secretTie_L35 {xs : Nat → Int32} {L d : Nat} {P : MK S2} {Q : S2 → Option MV → Prop} {res : S2 × Int32} (hP : MClosed (O3 xs L) (kcall (O3 xs L) (d + 6)) kd_Charts_secretTie 1 Q P) (hQ : Q res.1 (some (mI res.2))) {k4 : Int32 → Int32 → Int32 → S2 → Option (S2 × Int32)} {k20 : Int32 → Int32 → Int32 → Int32 → S2 → Option (S2 × Int32)} (hk4 : ∀ (x1 : Int32) (x2 : Int32) (x3 : Int32) (x4 : Option Int32) (x5 : Option Int32) (x6 : Option Int32) (x7 : Option Int32) (s : S2), k4 x1 x2 x3 s = some res → P 4 [some (mR 49 0), some (mI x1), some (mI x2), some (mI x3), oI x4, oI x5, oI x6, oI x7] [] s (0, 0)) (hk20 : ∀ (x1 : Int32) (x2 : Int32) (x3 : Int32) (x4 : Int32) (x5 : Option Int32) (x6 : Option Int32) (x7 : Option Int32) (s : S2), k20 x1 x2 x3 x4 s = some res → P 20 [some (mR 49 0), some (mI x1), some (mI x2), some (mI x3), some (mI x4), oI x5, oI x6, oI x7] [] s (0, 0)) : ∀ (fu : Nat) (x1 : Int32) (x2 : Int32) (x3 : Int32) (x4 : Int32) (x5 : Int32) (x6 : Option Int32) (x7 : Option Int32) (s : S2), f_Charts_secretTie_L35 k4 k20 fu x1 x2 x3 x4 x5 s = some res → P 35 [some (mR 49 0), some (mI x1), some (mI x2), some (mI x3), some (mI x4), some (mI x5), oI x6, oI x7] [] s (0, 0)
  | 0, _, _, _, _, _, _, _, _, h => by cases h
  | fu + 1, x1, x2, x3, x4, x5, x6, x7, s, h => cb_Charts_secretTie_L35 hP hQ hk4 hk20 (c_Charts_secretTie_L35 hP hQ hk4 hk20 fu) x1 x2 x3 x4 x5 x6 x7 s h
theorem cb_Charts_secretTie_L20 {xs : Nat → Int32} {L d : Nat} {P : MK S2} {Q : S2 → Option MV → Prop} {res : S2 × Int32} (hP : MClosed (O3 xs L) (kcall (O3 xs L) (d + 6)) kd_Charts_secretTie 1 Q P) (hQ : Q res.1 (some (mI res.2))) {k4 : Int32 → Int32 → Int32 → S2 → Option (S2 × Int32)} (hk4 : ∀ (x1 : Int32) (x2 : Int32) (x3 : Int32) (x4 : Option Int32) (x5 : Option Int32) (x6 : Option Int32) (x7 : Option Int32) (s : S2), k4 x1 x2 x3 s = some res → P 4 [some (mR 49 0), some (mI x1), some (mI x2), some (mI x3), oI x4, oI x5, oI x6, oI x7] [] s (0, 0)) {k20 : Int32 → Int32 → Int32 → Int32 → S2 → Option (S2 × Int32)} (hk20 : ∀ (x1 : Int32) (x2 : Int32) (x3 : Int32) (x4 : Int32) (x5 : Option Int32) (x6 : Option Int32) (x7 : Option Int32) (s : S2), k20 x1 x2 x3 x4 s = some res → P 20 [some (mR 49 0), some (mI x1), some (mI x2), some (mI x3), some (mI x4), oI x5, oI x6, oI x7] [] s (0, 0)) (x1 : Int32) (x2 : Int32) (x3 : Int32) (x4 : Int32) (x5 : Option Int32) (x6 : Option Int32) (x7 : Option Int32) (s : S2) (h : b_Charts_secretTie_L20 k4 k20 x1 x2 x3 x4 s = some res) : P 20 [some (mR 49 0), some (mI x1), some (mI x2), some (mI x3), some (mI x4), oI x5, oI x6, oI x7] [] s (0, 0) := by
  refine mgo_from hP [4, 20, 35, 113] 260 ?_
  refine go_call (fun _ hw => c_Sea_isles hw) ?_
  refine go_br (fun hc : (g_Sea_isles 0 s) ≤ x4 => ?_) (fun hc : ¬ ((g_Sea_isles 0 s) ≤ x4) => ?_)
  · replace h := (if_pos hc).symm.trans h
    exact hk4 _ _ _ (some x4) x5 x6 x7 _ h
  · replace h := (if_neg hc).symm.trans h
    exact c_Charts_secretTie_L35 hP hQ hk4 hk20 FU _ _ _ _ _ x6 x7 _ h
theorem c_Charts_secretTie_L20 {xs : Nat → Int32} {L d : Nat} {P : MK S2} {Q : S2 → Option MV → Prop} {res : S2 × Int32} (hP : MClosed (O3 xs L) (kcall (O3 xs L) (d + 6)) kd_Charts_secretTie 1 Q P) (hQ : Q res.1 (some (mI res.2))) {k4 : Int32 → Int32 → Int32 → S2 → Option (S2 × Int32)} (hk4 : ∀ (x1 : Int32) (x2 : Int32) (x3 : Int32) (x4 : Option Int32) (x5 : Option Int32) (x6 : Option Int32) (x7 : Option Int32) (s : S2), k4 x1 x2 x3 s = some res → P 4 [some (mR 49 0), some (mI x1), some (mI x2), some (mI x3), oI x4, oI x5, oI x6, oI x7] [] s (0, 0)) : ∀ (fu : Nat) (x1 : Int32) (x2 : Int32) (x3 : Int32) (x4 : Int32) (x5 : Option Int32) (x6 : Option Int32) (x7 : Option Int32) (s : S2), f_Charts_secretTie_L20 k4 fu x1 x2 x3 x4 s = some res → P 20 [some (mR 49 0), some (mI x1), some (mI x2), some (mI x3), some (mI x4), oI x5, oI x6, oI x7] [] s (0, 0)
  | 0, _, _, _, _, _, _, _, _, h => by cases h
  | fu + 1, x1, x2, x3, x4, x5, x6, x7, s, h => cb_Charts_secretTie_L20 hP hQ hk4 (c_Charts_secretTie_L20 hP hQ hk4 fu) x1 x2 x3 x4 x5 x6 x7 s h
theorem cb_Charts_secretTie_L4 {xs : Nat → Int32} {L d : Nat} {P : MK S2} {Q : S2 → Option MV → Prop} {res : S2 × Int32} (hP : MClosed (O3 xs L) (kcall (O3 xs L) (d + 6)) kd_Charts_secretTie 1 Q P) (hQ : Q res.1 (some (mI res.2))) {k4 : Int32 → Int32 → Int32 → S2 → Option (S2 × Int32)} (hk4 : ∀ (x1 : Int32) (x2 : Int32) (x3 : Int32) (x4 : Option Int32) (x5 : Option Int32) (x6 : Option Int32) (x7 : Option Int32) (s : S2), k4 x1 x2 x3 s = some res → P 4 [some (mR 49 0), some (mI x1), some (mI x2), some (mI x3), oI x4, oI x5, oI x6, oI x7] [] s (0, 0)) (x1 : Int32) (x2 : Int32) (x3 : Int32) (x4 : Option Int32) (x5 : Option Int32) (x6 : Option Int32) (x7 : Option Int32) (s : S2) (h : b_Charts_secretTie_L4 k4 x1 x2 x3 s = some res) : P 4 [some (mR 49 0), some (mI x1), some (mI x2), some (mI x3), oI x4, oI x5, oI x6, oI x7] [] s (0, 0) := by
  refine mgo_from hP [4, 20, 35, 113] 260 ?_
  refine go_call (fun _ hw => c_Sea_isles hw) ?_
  refine go_br (fun hc : (g_Sea_isles 0 s) ≤ x3 => ?_) (fun hc : ¬ ((g_Sea_isles 0 s) ≤ x3) => ?_)
  · replace h := (if_pos hc).symm.trans h
    refine go_brn (fun hc : ¬ (x1 = (Int32.ofInt (-1))) => ?_) (fun hc : x1 = (Int32.ofInt (-1)) => ?_)
    · replace h := (if_neg hc).symm.trans h
      cases h
      exact hQ
    · replace h := (if_pos hc).symm.trans h
      cases h
      exact hQ
  · replace h := (if_neg hc).symm.trans h
    exact c_Charts_secretTie_L20 hP hQ hk4 FU _ _ _ _ x5 x6 x7 _ h
theorem c_Charts_secretTie_L4 {xs : Nat → Int32} {L d : Nat} {P : MK S2} {Q : S2 → Option MV → Prop} {res : S2 × Int32} (hP : MClosed (O3 xs L) (kcall (O3 xs L) (d + 6)) kd_Charts_secretTie 1 Q P) (hQ : Q res.1 (some (mI res.2))) : ∀ (fu : Nat) (x1 : Int32) (x2 : Int32) (x3 : Int32) (x4 : Option Int32) (x5 : Option Int32) (x6 : Option Int32) (x7 : Option Int32) (s : S2), f_Charts_secretTie_L4 fu x1 x2 x3 s = some res → P 4 [some (mR 49 0), some (mI x1), some (mI x2), some (mI x3), oI x4, oI x5, oI x6, oI x7] [] s (0, 0)
  | 0, _, _, _, _, _, _, _, _, h => by cases h
  | fu + 1, x1, x2, x3, x4, x5, x6, x7, s, h => cb_Charts_secretTie_L4 hP hQ (c_Charts_secretTie_L4 hP hQ fu) x1 x2 x3 x4 x5 x6 x7 s h
theorem c_Charts_secretTie {xs : Nat → Int32} {L d : Nat} {a1 : Int32} {s : S2} {res : S2 × Int32} {Q : S2 → Option MV → Prop} (h : f_Charts_secretTie a1 s = some res) (hQ : Q res.1 (some (mI res.2))) : kcall (O3 xs L) (d + 7) k_Charts_secretTie [mR 49 0, mI a1] s Q := by
  refine kc_of (cd := kd_Charts_secretTie) (mx := 8) (rt := 1) rfl rfl ?_
  intro P hP
  refine mgo_sound hP [4, 20, 35, 113] 260 _ _ _ _ _ ?_
  exact c_Charts_secretTie_L4 hP hQ FU _ _ _ none none none none _ h
/-! Forecast_seenByAllBehind -/
def b_Forecast_seenByAllBehind_L7 (k7 : Int32 → Int32 → Int32 → Int32 → S2 → Option (S2 × Int32)) (x1 : Int32) (x2 : Int32) (x3 : Int32) (x4 : Int32) (s : S2) : Option (S2 × Int32) := (if x3 ≤ x4 then ((f_State_headOf 2 x1 s).bind fun q1 => ((f_State_isSeenByAll 2 q1 x2 s).bind fun q2 => (if (bI q2) = 0 then some (s, (Int32.ofInt (-1))) else some (s, x3)))) else ((f_State_headOf 2 x1 s).bind fun q3 => ((f_State_isSeenByAll 2 q3 x2 s).bind fun q4 => (if (bI q4) = 0 then ((f_Course_pass 2 s).bind fun q5 => (k7 x1 x2 x3 (x4 + (Int32.ofInt 1)) q5)) else some (s, x4)))))
def f_Forecast_seenByAllBehind_L7 : Nat → Int32 → Int32 → Int32 → Int32 → S2 → Option (S2 × Int32)
  | 0 => fun _ _ _ _ _ => none
  | n + 1 => b_Forecast_seenByAllBehind_L7 (f_Forecast_seenByAllBehind_L7 n)
def f_Forecast_seenByAllBehind (a1 : Int32) (a2 : Int32) (a3 : Int32) (s : S2) : Option (S2 × Int32) := ((f_Forecast_begin s).bind fun q1 => (f_Forecast_seenByAllBehind_L7 FU a1 a2 a3 (Int32.ofInt 0) q1))
set_option maxRecDepth 20000 in
set_option maxHeartbeats 4000000 in
theorem cb_Forecast_seenByAllBehind_L7 {xs : Nat → Int32} {L d : Nat} {P : MK S2} {Q : S2 → Option MV → Prop} {res : S2 × Int32} (hP : MClosed (O3 xs L) (kcall (O3 xs L) (d + 5)) kd_Forecast_seenByAllBehind 1 Q P) (hQ : Q res.1 (some (mI res.2))) {k7 : Int32 → Int32 → Int32 → Int32 → S2 → Option (S2 × Int32)} (hk7 : ∀ (x1 : Int32) (x2 : Int32) (x3 : Int32) (x4 : Int32) (s : S2), k7 x1 x2 x3 x4 s = some res → P 7 [some (mR 41 0), some (mI x1), some (mI x2), some (mI x3), some (mI x4)] [] s (0, 0)) (x1 : Int32) (x2 : Int32) (x3 : Int32) (x4 : Int32) (s : S2) (h : b_Forecast_seenByAllBehind_L7 k7 x1 x2 x3 x4 s = some res) : P 7 [some (mR 41 0), some (mI x1), some (mI x2), some (mI x3), some (mI x4)] [] s (0, 0) := by
  refine mgo_from hP [7] 260 ?_
  refine go_br (fun hc : x3 ≤ x4 => ?_) (fun hc : ¬ (x3 ≤ x4) => ?_)
  · replace h := (if_pos hc).symm.trans h
    obtain ⟨q1, hq, h⟩ := bnd h
    refine go_call (fun _ hw => c_State_headOf hq hw) ?_
    obtain ⟨q2, hq, h⟩ := bnd h
    refine go_call (fun _ hw => c_State_isSeenByAll hq hw) ?_
    refine go_br (fun hc : (bI q2) = 0 => ?_) (fun hc : ¬ ((bI q2) = 0) => ?_)
    · replace h := (if_pos hc).symm.trans h
      cases h
      exact hQ
    · replace h := (if_neg hc).symm.trans h
      cases h
      exact hQ
  · replace h := (if_neg hc).symm.trans h
    obtain ⟨q3, hq, h⟩ := bnd h
    refine go_call (fun _ hw => c_State_headOf hq hw) ?_
    obtain ⟨q4, hq, h⟩ := bnd h
    refine go_call (fun _ hw => c_State_isSeenByAll hq hw) ?_
    refine go_br (fun hc : (bI q4) = 0 => ?_) (fun hc : ¬ ((bI q4) = 0) => ?_)
    · replace h := (if_pos hc).symm.trans h
      obtain ⟨q5, hq, h⟩ := bnd h
      refine go_call (fun _ hw => c_Course_pass hq hw) ?_
      exact hk7 _ _ _ _ _ h
    · replace h := (if_neg hc).symm.trans h
      cases h
      exact hQ
theorem c_Forecast_seenByAllBehind_L7 {xs : Nat → Int32} {L d : Nat} {P : MK S2} {Q : S2 → Option MV → Prop} {res : S2 × Int32} (hP : MClosed (O3 xs L) (kcall (O3 xs L) (d + 5)) kd_Forecast_seenByAllBehind 1 Q P) (hQ : Q res.1 (some (mI res.2))) : ∀ (fu : Nat) (x1 : Int32) (x2 : Int32) (x3 : Int32) (x4 : Int32) (s : S2), f_Forecast_seenByAllBehind_L7 fu x1 x2 x3 x4 s = some res → P 7 [some (mR 41 0), some (mI x1), some (mI x2), some (mI x3), some (mI x4)] [] s (0, 0)
  | 0, _, _, _, _, _, h => by cases h
  | fu + 1, x1, x2, x3, x4, s, h => cb_Forecast_seenByAllBehind_L7 hP hQ (c_Forecast_seenByAllBehind_L7 hP hQ fu) x1 x2 x3 x4 s h
theorem c_Forecast_seenByAllBehind {xs : Nat → Int32} {L d : Nat} {a1 : Int32} {a2 : Int32} {a3 : Int32} {s : S2} {res : S2 × Int32} {Q : S2 → Option MV → Prop} (h : f_Forecast_seenByAllBehind a1 a2 a3 s = some res) (hQ : Q res.1 (some (mI res.2))) : kcall (O3 xs L) (d + 6) k_Forecast_seenByAllBehind [mR 41 0, mI a1, mI a2, mI a3] s Q := by
  refine kc_of (cd := kd_Forecast_seenByAllBehind) (mx := 5) (rt := 1) rfl rfl ?_
  intro P hP
  refine mgo_sound hP [7] 260 _ _ _ _ _ ?_
  obtain ⟨q1, hq, h⟩ := bnd h
  refine go_call (fun _ hw => c_Forecast_begin hq hw) ?_
  exact c_Forecast_seenByAllBehind_L7 hP hQ FU _ _ _ _ _ h
/-! M_clauseText -/
def f_M_clauseText_L202 (s : S2) : Option S2 := ((f_M_bad s).bind fun q1 => some q1)
def f_M_clauseText_L149 (x2 : Int32) (s : S2) : Option S2 := (if x2 = (Int32.ofInt 98) then (if (Int32.ofInt 4) ≤ (s.1 60 0 23) then (f_M_clauseText_L202 s) else ((some (pkS s 60 0 3 ((s.1 60 0 3) + (Int32.ofInt 1)))).bind fun s1 => ((f_M_items x2 74 0 12 ((Int32.ofInt 3) * (s1.1 60 0 23)) (Int32.ofInt 3) s1).bind fun q2 => ((some (pkS q2 60 0 23 ((q2.1 60 0 23) + (Int32.ofInt 1)))).bind fun s3 => some s3)))) else (f_M_clauseText_L202 s))
def f_M_clauseText_L95 (x2 : Int32) (s : S2) : Option S2 := (if x2 = (Int32.ofInt 116) then (if (Int32.ofInt 8) ≤ (s.1 60 0 22) then (f_M_clauseText_L149 x2 s) else ((some (pkS s 60 0 3 ((s.1 60 0 3) + (Int32.ofInt 1)))).bind fun s1 => ((f_M_items x2 73 0 32 ((Int32.ofInt 4) * (s1.1 60 0 22)) (Int32.ofInt 4) s1).bind fun q2 => ((some (pkS q2 60 0 22 ((q2.1 60 0 22) + (Int32.ofInt 1)))).bind fun s3 => some s3)))) else (f_M_clauseText_L149 x2 s))
def f_M_clauseText_L39 (x2 : Int32) (s : S2) : Option S2 := (if x2 = (Int32.ofInt 105) then (if (Int32.ofInt 6) ≤ (s.1 60 0 21) then (f_M_clauseText_L95 x2 s) else ((some (pkS s 60 0 3 ((s.1 60 0 3) + (Int32.ofInt 1)))).bind fun s1 => ((f_M_items x2 72 0 48 ((Int32.ofInt 8) * (s1.1 60 0 21)) (Int32.ofInt 8) s1).bind fun q2 => ((some (pkS q2 60 0 21 ((q2.1 60 0 21) + (Int32.ofInt 1)))).bind fun s3 => some s3)))) else (f_M_clauseText_L95 x2 s))
def f_M_clauseText (a1 : Int32) (s : S2) : Option S2 := ((f_M_look s).bind fun q1 => (if q1.2 = (Int32.ofInt 119) then (if a1 = 0 then ((some (pkS q1.1 60 0 3 ((q1.1.1 60 0 3) + (Int32.ofInt 1)))).bind fun s2 => ((f_M_items q1.2 71 0 4 (Int32.ofInt 0) (Int32.ofInt 4) s2).bind fun q3 => some q3)) else (f_M_clauseText_L39 q1.2 q1.1)) else (f_M_clauseText_L39 q1.2 q1.1)))
theorem c_M_clauseText_L202 {xs : Nat → Int32} {L d : Nat} {P : MK S2} {Q : S2 → Option MV → Prop} {res : S2} (hP : MClosed (O3 xs L) (kcall (O3 xs L) (d + 4)) kd_M_clauseText 0 Q P) (hQ : Q res none) (x1 : Int32) (x2 : Int32) (s : S2) (h : f_M_clauseText_L202 s = some res) : P 202 [some (mR 60 0), some (mI x1), some (mI x2)] [] s (0, 0) := by
  refine mgo_from hP [39, 95, 149, 202] 260 ?_
  obtain ⟨q1, hq, h⟩ := bnd h
  refine go_call (fun _ hw => c_M_bad hq hw) ?_
  cases h
  exact hQ
theorem c_M_clauseText_L149 {xs : Nat → Int32} {L d : Nat} {P : MK S2} {Q : S2 → Option MV → Prop} {res : S2} (hP : MClosed (O3 xs L) (kcall (O3 xs L) (d + 4)) kd_M_clauseText 0 Q P) (hQ : Q res none) (x2 : Int32) (x1 : Int32) (s : S2) (h : f_M_clauseText_L149 x2 s = some res) : P 149 [some (mR 60 0), some (mI x1), some (mI x2)] [] s (0, 0) := by
  refine mgo_from hP [39, 95, 149, 202] 260 ?_
  refine go_brn (fun hc : ¬ (x2 = (Int32.ofInt 98)) => ?_) (fun hc : x2 = (Int32.ofInt 98) => ?_)
  · replace h := (if_neg hc).symm.trans h
    exact c_M_clauseText_L202 hP hQ _ _ _ h
  · replace h := (if_pos hc).symm.trans h
    refine go_br (fun hc : (Int32.ofInt 4) ≤ (s.1 60 0 23) => ?_) (fun hc : ¬ ((Int32.ofInt 4) ≤ (s.1 60 0 23)) => ?_)
    · replace h := (if_pos hc).symm.trans h
      exact c_M_clauseText_L202 hP hQ _ _ _ h
    · replace h := (if_neg hc).symm.trans h
      replace h := bnds h
      obtain ⟨q2, hq, h⟩ := bnd h
      refine go_call (fun _ hw => c_M_items_74 hq hw) ?_
      replace h := bnds h
      cases h
      exact hQ
theorem c_M_clauseText_L95 {xs : Nat → Int32} {L d : Nat} {P : MK S2} {Q : S2 → Option MV → Prop} {res : S2} (hP : MClosed (O3 xs L) (kcall (O3 xs L) (d + 4)) kd_M_clauseText 0 Q P) (hQ : Q res none) (x2 : Int32) (x1 : Int32) (s : S2) (h : f_M_clauseText_L95 x2 s = some res) : P 95 [some (mR 60 0), some (mI x1), some (mI x2)] [] s (0, 0) := by
  refine mgo_from hP [39, 95, 149, 202] 260 ?_
  refine go_brn (fun hc : ¬ (x2 = (Int32.ofInt 116)) => ?_) (fun hc : x2 = (Int32.ofInt 116) => ?_)
  · replace h := (if_neg hc).symm.trans h
    exact c_M_clauseText_L149 hP hQ _ _ _ h
  · replace h := (if_pos hc).symm.trans h
    refine go_br (fun hc : (Int32.ofInt 8) ≤ (s.1 60 0 22) => ?_) (fun hc : ¬ ((Int32.ofInt 8) ≤ (s.1 60 0 22)) => ?_)
    · replace h := (if_pos hc).symm.trans h
      exact c_M_clauseText_L149 hP hQ _ _ _ h
    · replace h := (if_neg hc).symm.trans h
      replace h := bnds h
      obtain ⟨q2, hq, h⟩ := bnd h
      refine go_call (fun _ hw => c_M_items_73 hq hw) ?_
      replace h := bnds h
      cases h
      exact hQ
theorem c_M_clauseText_L39 {xs : Nat → Int32} {L d : Nat} {P : MK S2} {Q : S2 → Option MV → Prop} {res : S2} (hP : MClosed (O3 xs L) (kcall (O3 xs L) (d + 4)) kd_M_clauseText 0 Q P) (hQ : Q res none) (x2 : Int32) (x1 : Int32) (s : S2) (h : f_M_clauseText_L39 x2 s = some res) : P 39 [some (mR 60 0), some (mI x1), some (mI x2)] [] s (0, 0) := by
  refine mgo_from hP [39, 95, 149, 202] 260 ?_
  refine go_brn (fun hc : ¬ (x2 = (Int32.ofInt 105)) => ?_) (fun hc : x2 = (Int32.ofInt 105) => ?_)
  · replace h := (if_neg hc).symm.trans h
    exact c_M_clauseText_L95 hP hQ _ _ _ h
  · replace h := (if_pos hc).symm.trans h
    refine go_br (fun hc : (Int32.ofInt 6) ≤ (s.1 60 0 21) => ?_) (fun hc : ¬ ((Int32.ofInt 6) ≤ (s.1 60 0 21)) => ?_)
    · replace h := (if_pos hc).symm.trans h
      exact c_M_clauseText_L95 hP hQ _ _ _ h
    · replace h := (if_neg hc).symm.trans h
      replace h := bnds h
      obtain ⟨q2, hq, h⟩ := bnd h
      refine go_call (fun _ hw => c_M_items_72 hq hw) ?_
      replace h := bnds h
      cases h
      exact hQ
theorem c_M_clauseText {xs : Nat → Int32} {L d : Nat} {a1 : Int32} {s : S2} {res : S2} {Q : S2 → Option MV → Prop} (h : f_M_clauseText a1 s = some res) (hQ : Q res none) : kcall (O3 xs L) (d + 5) k_M_clauseText [mR 60 0, mI a1] s Q := by
  refine kc_of (cd := kd_M_clauseText) (mx := 3) (rt := 0) rfl rfl ?_
  intro P hP
  refine mgo_sound hP [39, 95, 149, 202] 260 _ _ _ _ _ ?_
  obtain ⟨q1, hq, h⟩ := bnd h
  refine go_call (fun _ hw => c_M_look hq hw) ?_
  refine go_brn (fun hc : ¬ (q1.2 = (Int32.ofInt 119)) => ?_) (fun hc : q1.2 = (Int32.ofInt 119) => ?_)
  · replace h := (if_neg hc).symm.trans h
    exact c_M_clauseText_L39 hP hQ _ _ _ h
  · replace h := (if_pos hc).symm.trans h
    refine go_brn (fun hc : ¬ (a1 = 0) => ?_) (fun hc : a1 = 0 => ?_)
    · replace h := (if_neg hc).symm.trans h
      exact c_M_clauseText_L39 hP hQ _ _ _ h
    · replace h := (if_pos hc).symm.trans h
      replace h := bnds h
      obtain ⟨q3, hq, h⟩ := bnd h
      refine go_call (fun _ hw => c_M_items_71 hq hw) ?_
      cases h
      exact hQ
/-! M_readLaw -/
def f_M_readLaw_L43 (s : S2) : Option (S2 × Int32) := ((f_M_atEnd s).bind fun q1 => some (q1.1, q1.2))
def b_M_readLaw_L9 (k9 : S2 → Option (S2 × Int32)) (s : S2) : Option (S2 × Int32) := (if (s.1 60 0 4) = (Int32.ofInt (-1)) then ((f_M_look s).bind fun q1 => (if q1.2 = (Int32.ofInt 59) then ((some (pkS q1.1 60 0 3 ((q1.1.1 60 0 3) + (Int32.ofInt 1)))).bind fun s2 => ((f_M_clause s2).bind fun q3 => (k9 q3))) else (f_M_readLaw_L43 q1.1))) else (f_M_readLaw_L43 s))
def f_M_readLaw_L9 : Nat → S2 → Option (S2 × Int32)
  | 0 => fun _ => none
  | n + 1 => b_M_readLaw_L9 (f_M_readLaw_L9 n)
def f_M_readLaw (a1 : Int32) (s : S2) : Option (S2 × Int32) := ((f_M_open a1 s).bind fun q1 => ((f_M_clause q1).bind fun q2 => (f_M_readLaw_L9 FU q2)))
theorem c_M_readLaw_L43 {xs : Nat → Int32} {L d : Nat} {P : MK S2} {Q : S2 → Option MV → Prop} {res : S2 × Int32} (hP : MClosed (O3 xs L) (kcall (O3 xs L) (d + 393)) kd_M_readLaw 1 Q P) (hQ : Q res.1 (some (mI res.2))) (x1 : Int32) (s : S2) (h : f_M_readLaw_L43 s = some res) : P 43 [some (mR 60 0), some (mI x1)] [] s (0, 0) := by
  refine mgo_from hP [9, 43] 260 ?_
  obtain ⟨q1, hq, h⟩ := bnd h
  refine go_call (fun _ hw => c_M_atEnd hq hw) ?_
  cases h
  exact hQ
theorem cb_M_readLaw_L9 {xs : Nat → Int32} {L d : Nat} {P : MK S2} {Q : S2 → Option MV → Prop} {res : S2 × Int32} (hP : MClosed (O3 xs L) (kcall (O3 xs L) (d + 393)) kd_M_readLaw 1 Q P) (hQ : Q res.1 (some (mI res.2))) {k9 : S2 → Option (S2 × Int32)} (hk9 : ∀ (x1 : Int32) (s : S2), k9 s = some res → P 9 [some (mR 60 0), some (mI x1)] [] s (0, 0)) (x1 : Int32) (s : S2) (h : b_M_readLaw_L9 k9 s = some res) : P 9 [some (mR 60 0), some (mI x1)] [] s (0, 0) := by
  refine mgo_from hP [9, 43] 260 ?_
  refine go_brn (fun hc : ¬ ((s.1 60 0 4) = (Int32.ofInt (-1))) => ?_) (fun hc : (s.1 60 0 4) = (Int32.ofInt (-1)) => ?_)
  · replace h := (if_neg hc).symm.trans h
    exact c_M_readLaw_L43 hP hQ _ _ h
  · replace h := (if_pos hc).symm.trans h
    obtain ⟨q1, hq, h⟩ := bnd h
    refine go_call (fun _ hw => c_M_look hq hw) ?_
    refine go_brn (fun hc : ¬ (q1.2 = (Int32.ofInt 59)) => ?_) (fun hc : q1.2 = (Int32.ofInt 59) => ?_)
    · replace h := (if_neg hc).symm.trans h
      exact c_M_readLaw_L43 hP hQ _ _ h
    · replace h := (if_pos hc).symm.trans h
      replace h := bnds h
      obtain ⟨q3, hq, h⟩ := bnd h
      refine go_call (fun _ hw => c_M_clause hq hw) ?_
      exact hk9 _ _ h
theorem c_M_readLaw_L9 {xs : Nat → Int32} {L d : Nat} {P : MK S2} {Q : S2 → Option MV → Prop} {res : S2 × Int32} (hP : MClosed (O3 xs L) (kcall (O3 xs L) (d + 393)) kd_M_readLaw 1 Q P) (hQ : Q res.1 (some (mI res.2))) : ∀ (fu : Nat) (x1 : Int32) (s : S2), f_M_readLaw_L9 fu s = some res → P 9 [some (mR 60 0), some (mI x1)] [] s (0, 0)
  | 0, _, _, h => by cases h
  | fu + 1, x1, s, h => cb_M_readLaw_L9 hP hQ (c_M_readLaw_L9 hP hQ fu) x1 s h
theorem c_M_readLaw {xs : Nat → Int32} {L d : Nat} {a1 : Int32} {s : S2} {res : S2 × Int32} {Q : S2 → Option MV → Prop} (h : f_M_readLaw a1 s = some res) (hQ : Q res.1 (some (mI res.2))) : kcall (O3 xs L) (d + 394) k_M_readLaw [mR 60 0, mI a1] s Q := by
  refine kc_of (cd := kd_M_readLaw) (mx := 2) (rt := 1) rfl rfl ?_
  intro P hP
  refine mgo_sound hP [9, 43] 260 _ _ _ _ _ ?_
  obtain ⟨q1, hq, h⟩ := bnd h
  refine go_call (fun _ hw => c_M_open hq hw) ?_
  obtain ⟨q2, hq, h⟩ := bnd h
  refine go_call (fun _ hw => c_M_clause hq hw) ?_
  exact c_M_readLaw_L9 hP hQ FU _ _ h
/-! M_worthOf -/
def f_M_worthOf_L57 (x1 : Int32) (x2 : Int32) (s : S2) : Option (S2 × Int32) := ((ix 700 x2).bind fun j1 => ((ix 700 x2).bind fun j2 => ((f_M_workOut x1 (s.1 67 0 j1) (s.1 68 0 j2) s).bind fun q3 => some (q3.1, q3.2))))
def b_M_worthOf_L6 (k6 : Int32 → Int32 → S2 → Option (S2 × Int32)) (x1 : Int32) (x2 : Int32) (s : S2) : Option (S2 × Int32) := ((ix 5 x1).bind fun j1 => (if (((Int32.ofInt 140) * x1) + (s.1 65 0 j1)) ≤ x2 then some (s, (Int32.ofInt 0)) else ((ix 700 x2).bind fun j2 => ((ix 700 x2).bind fun j3 => (if (s.1 66 0 j2) = (s.1 67 0 j3) then (f_M_worthOf_L57 x1 x2 s) else ((ix 700 x2).bind fun j4 => ((ix 700 x2).bind fun j5 => ((f_M_workOut x1 (s.1 66 0 j4) (s.1 67 0 j5) s).bind fun q6 => (if q6.2 = 0 then (k6 x1 (x2 + (Int32.ofInt 1)) q6.1) else (f_M_worthOf_L57 x1 x2 q6.1))))))))))
def f_M_worthOf_L6 : Nat → Int32 → Int32 → S2 → Option (S2 × Int32)
  | 0 => fun _ _ _ => none
  | n + 1 => b_M_worthOf_L6 (f_M_worthOf_L6 n)
def f_M_worthOf (a1 : Int32) (s : S2) : Option (S2 × Int32) := (f_M_worthOf_L6 FU a1 ((Int32.ofInt 140) * a1) s)
theorem c_M_worthOf_L57 {xs : Nat → Int32} {L d : Nat} {P : MK S2} {Q : S2 → Option MV → Prop} {res : S2 × Int32} (hP : MClosed (O3 xs L) (kcall (O3 xs L) (d + 3)) kd_M_worthOf 1 Q P) (hQ : Q res.1 (some (mI res.2))) (x1 : Int32) (x2 : Int32) (s : S2) (h : f_M_worthOf_L57 x1 x2 s = some res) : P 57 [some (mR 60 0), some (mI x1), some (mI x2)] [] s (0, 0) := by
  refine mgo_from hP [6, 57] 260 ?_
  obtain ⟨j1, hj, h⟩ := bnd h
  refine go_ix j1 (ix_lt hj) (ix_eq hj) ?_
  obtain ⟨j2, hj, h⟩ := bnd h
  refine go_ix j2 (ix_lt hj) (ix_eq hj) ?_
  obtain ⟨q3, hq, h⟩ := bnd h
  refine go_call (fun _ hw => c_M_workOut hq hw) ?_
  cases h
  exact hQ
set_option maxRecDepth 20000 in
set_option maxHeartbeats 4000000 in
theorem cb_M_worthOf_L6 {xs : Nat → Int32} {L d : Nat} {P : MK S2} {Q : S2 → Option MV → Prop} {res : S2 × Int32} (hP : MClosed (O3 xs L) (kcall (O3 xs L) (d + 3)) kd_M_worthOf 1 Q P) (hQ : Q res.1 (some (mI res.2))) {k6 : Int32 → Int32 → S2 → Option (S2 × Int32)} (hk6 : ∀ (x1 : Int32) (x2 : Int32) (s : S2), k6 x1 x2 s = some res → P 6 [some (mR 60 0), some (mI x1), some (mI x2)] [] s (0, 0)) (x1 : Int32) (x2 : Int32) (s : S2) (h : b_M_worthOf_L6 k6 x1 x2 s = some res) : P 6 [some (mR 60 0), some (mI x1), some (mI x2)] [] s (0, 0) := by
  refine mgo_from hP [6, 57] 260 ?_
  obtain ⟨j1, hj, h⟩ := bnd h
  refine go_ix j1 (ix_lt hj) (ix_eq hj) ?_
  refine go_br (fun hc : (((Int32.ofInt 140) * x1) + (s.1 65 0 j1)) ≤ x2 => ?_) (fun hc : ¬ ((((Int32.ofInt 140) * x1) + (s.1 65 0 j1)) ≤ x2) => ?_)
  · replace h := (if_pos hc).symm.trans h
    cases h
    exact hQ
  · replace h := (if_neg hc).symm.trans h
    obtain ⟨j2, hj, h⟩ := bnd h
    refine go_ix j2 (ix_lt hj) (ix_eq hj) ?_
    obtain ⟨j3, hj, h⟩ := bnd h
    refine go_ix j3 (ix_lt hj) (ix_eq hj) ?_
    refine go_br (fun hc : (s.1 66 0 j2) = (s.1 67 0 j3) => ?_) (fun hc : ¬ ((s.1 66 0 j2) = (s.1 67 0 j3)) => ?_)
    · replace h := (if_pos hc).symm.trans h
      exact c_M_worthOf_L57 hP hQ _ _ _ h
    · replace h := (if_neg hc).symm.trans h
      obtain ⟨j4, hj, h⟩ := bnd h
      refine go_ix j4 (ix_lt hj) (ix_eq hj) ?_
      obtain ⟨j5, hj, h⟩ := bnd h
      refine go_ix j5 (ix_lt hj) (ix_eq hj) ?_
      obtain ⟨q6, hq, h⟩ := bnd h
      refine go_call (fun _ hw => c_M_workOut hq hw) ?_
      refine go_br (fun hc : q6.2 = 0 => ?_) (fun hc : ¬ (q6.2 = 0) => ?_)
      · replace h := (if_pos hc).symm.trans h
        exact hk6 _ _ _ h
      · replace h := (if_neg hc).symm.trans h
        exact c_M_worthOf_L57 hP hQ _ _ _ h
theorem c_M_worthOf_L6 {xs : Nat → Int32} {L d : Nat} {P : MK S2} {Q : S2 → Option MV → Prop} {res : S2 × Int32} (hP : MClosed (O3 xs L) (kcall (O3 xs L) (d + 3)) kd_M_worthOf 1 Q P) (hQ : Q res.1 (some (mI res.2))) : ∀ (fu : Nat) (x1 : Int32) (x2 : Int32) (s : S2), f_M_worthOf_L6 fu x1 x2 s = some res → P 6 [some (mR 60 0), some (mI x1), some (mI x2)] [] s (0, 0)
  | 0, _, _, _, h => by cases h
  | fu + 1, x1, x2, s, h => cb_M_worthOf_L6 hP hQ (c_M_worthOf_L6 hP hQ fu) x1 x2 s h
theorem c_M_worthOf {xs : Nat → Int32} {L d : Nat} {a1 : Int32} {s : S2} {res : S2 × Int32} {Q : S2 → Option MV → Prop} (h : f_M_worthOf a1 s = some res) (hQ : Q res.1 (some (mI res.2))) : kcall (O3 xs L) (d + 4) k_M_worthOf [mR 60 0, mI a1] s Q := by
  refine kc_of (cd := kd_M_worthOf) (mx := 3) (rt := 1) rfl rfl ?_
  intro P hP
  refine mgo_sound hP [6, 57] 260 _ _ _ _ _ ?_
  exact c_M_worthOf_L6 hP hQ FU _ _ _ h
/-! String_indexOf -/
def f_String_indexOf (r0 : Nat) (a1 : Int32) (s : S2) : Option Int32 := ((f_String_indexOf2 r0 a1 (Int32.ofInt 0) s).bind fun q1 => some q1)
theorem c_String_indexOf {xs : Nat → Int32} {L d : Nat} {r0 : Nat} {a1 : Int32} {s : S2} {res : Int32} {Q : S2 → Option MV → Prop} (h : f_String_indexOf r0 a1 s = some res) (hQ : Q s (some (mI res))) : kcall (O3 xs L) (d + 4) k_String_indexOf [mR 2 r0, mI a1] s Q := by
  refine kc_of (cd := kd_String_indexOf) (mx := 2) (rt := 1) rfl rfl ?_
  intro P hP
  refine mgo_sound hP [] 260 _ _ _ _ _ ?_
  obtain ⟨q1, hq, h⟩ := bnd h
  refine go_call (fun _ hw => c_String_indexOf2 hq hw) ?_
  cases h
  exact hQ
/-! Sea_readClause -/
def b_Sea_readClause_L75 (r0 : Nat) (k75 : Int32 → Int32 → Int32 → Int32 → S2 → Option (S2 × Bool)) (x2 : Int32) (x3 : Int32) (x4 : Int32) (x5 : Int32) (s : S2) : Option (S2 × Bool) := (if (Int32.ofInt 8) < x5 then some (s, true) else ((f_Tape_look s).bind fun q1 => ((f_Sea_itemOf x2 q1.2 q1.1).bind fun q2 => (if q2.2 = (Int32.ofInt (-1)) then some (q2.1, true) else (if ((x4 >>> (q2.2 &&& 31)) &&& (Int32.ofInt 1)) = 0 then ((f_Tape_pass q2.1).bind fun q3 => ((f_Sea_readItem r0 ((x2 * (Int32.ofInt 8)) + q2.2) ((x3 * (Int32.ofInt 8)) + q2.2) q3).bind fun q4 => (if (bI q4.2) = 0 then some (q4.1, false) else (k75 x2 x3 (x4 ||| ((Int32.ofInt 1) <<< (q2.2 &&& 31))) (x5 + (Int32.ofInt 1)) q4.1)))) else some (q2.1, false))))))
def f_Sea_readClause_L75 (r0 : Nat) : Nat → Int32 → Int32 → Int32 → Int32 → S2 → Option (S2 × Bool)
  | 0 => fun _ _ _ _ _ => none
  | n + 1 => b_Sea_readClause_L75 r0 (f_Sea_readClause_L75 r0 n)
def f_Sea_readClause (r0 : Nat) (s : S2) : Option (S2 × Bool) := ((f_Tape_look s).bind fun q1 => ((f_String_indexOf 0 (ji2c q1.2) q1.1).bind fun q2 => (if q2 < 0 then some (q1.1, false) else (if (Int32.ofInt 4) ≤ q2 then some (q1.1, false) else ((ix 4 q2).bind fun j3 => ((ix (kstat 1).length q2).bind fun j4 => (if (q1.1.1 15 r0 j3) < (lgD (kstat 1) j4) then ((f_Tape_pass q1.1).bind fun q5 => ((ix (kstat 2).length q2).bind fun j6 => ((ix 4 q2).bind fun j7 => ((ix 4 q2).bind fun j8 => ((ix 4 q2).bind fun j10 => (some (pkS q5 15 r0 j10 ((q5.1 15 r0 j8) + (Int32.ofInt 1)))).bind fun s9 => ((f_Sea_fillRow r0 q2 ((lgD (kstat 2) j6) + (q5.1 15 r0 j7)) s9).bind fun q11 => (f_Sea_readClause_L75 r0 FU q2 ((lgD (kstat 2) j6) + (q5.1 15 r0 j7)) (Int32.ofInt 0) (Int32.ofInt 0) q11))))))) else some (q1.1, false))))))))
set_option maxRecDepth 20000 in
set_option maxHeartbeats 4000000 in
theorem cb_Sea_readClause_L75 {xs : Nat → Int32} {L d : Nat} {r0 : Nat} {P : MK S2} {Q : S2 → Option MV → Prop} {res : S2 × Bool} (hP : MClosed (O3 xs L) (kcall (O3 xs L) (d + 5)) kd_Sea_readClause 2 Q P) (hQ : Q res.1 (some (mI (bI res.2)))) {k75 : Int32 → Int32 → Int32 → Int32 → S2 → Option (S2 × Bool)} (hk75 : ∀ (x2 : Int32) (x3 : Int32) (x4 : Int32) (x5 : Int32) (x6 : Option Int32) (s : S2), k75 x2 x3 x4 x5 s = some res → P 75 [some (mR 13 r0), some (mR 11 0), some (mI x2), some (mI x3), some (mI x4), some (mI x5), oI x6] [] s (0, 0)) (x2 : Int32) (x3 : Int32) (x4 : Int32) (x5 : Int32) (x6 : Option Int32) (s : S2) (h : b_Sea_readClause_L75 r0 k75 x2 x3 x4 x5 s = some res) : P 75 [some (mR 13 r0), some (mR 11 0), some (mI x2), some (mI x3), some (mI x4), some (mI x5), oI x6] [] s (0, 0) := by
  refine mgo_from hP [75] 260 ?_
  refine go_br (fun hc : (Int32.ofInt 8) < x5 => ?_) (fun hc : ¬ ((Int32.ofInt 8) < x5) => ?_)
  · replace h := (if_pos hc).symm.trans h
    cases h
    exact ⟨Or.inr rfl, hQ⟩
  · replace h := (if_neg hc).symm.trans h
    obtain ⟨q1, hq, h⟩ := bnd h
    refine go_call (fun _ hw => c_Tape_look hq hw) ?_
    obtain ⟨q2, hq, h⟩ := bnd h
    refine go_call (fun _ hw => c_Sea_itemOf hq hw) ?_
    refine go_brn (fun hc : ¬ (q2.2 = (Int32.ofInt (-1))) => ?_) (fun hc : q2.2 = (Int32.ofInt (-1)) => ?_)
    · replace h := (if_neg hc).symm.trans h
      refine go_br (fun hc : ((x4 >>> (q2.2 &&& 31)) &&& (Int32.ofInt 1)) = 0 => ?_) (fun hc : ¬ (((x4 >>> (q2.2 &&& 31)) &&& (Int32.ofInt 1)) = 0) => ?_)
      · replace h := (if_pos hc).symm.trans h
        obtain ⟨q3, hq, h⟩ := bnd h
        refine go_call (fun _ hw => c_Tape_pass hq hw) ?_
        obtain ⟨q4, hq, h⟩ := bnd h
        refine go_call (fun _ hw => c_Sea_readItem hq hw) ?_
        refine go_brn (fun hc : ¬ ((bI q4.2) = 0) => ?_) (fun hc : (bI q4.2) = 0 => ?_)
        · replace h := (if_neg hc).symm.trans h
          exact hk75 _ _ _ _ (some q2.2) _ h
        · replace h := (if_pos hc).symm.trans h
          cases h
          exact ⟨Or.inl rfl, hQ⟩
      · replace h := (if_neg hc).symm.trans h
        cases h
        exact ⟨Or.inl rfl, hQ⟩
    · replace h := (if_pos hc).symm.trans h
      cases h
      exact ⟨Or.inr rfl, hQ⟩
theorem c_Sea_readClause_L75 {xs : Nat → Int32} {L d : Nat} {r0 : Nat} {P : MK S2} {Q : S2 → Option MV → Prop} {res : S2 × Bool} (hP : MClosed (O3 xs L) (kcall (O3 xs L) (d + 5)) kd_Sea_readClause 2 Q P) (hQ : Q res.1 (some (mI (bI res.2)))) : ∀ (fu : Nat) (x2 : Int32) (x3 : Int32) (x4 : Int32) (x5 : Int32) (x6 : Option Int32) (s : S2), f_Sea_readClause_L75 r0 fu x2 x3 x4 x5 s = some res → P 75 [some (mR 13 r0), some (mR 11 0), some (mI x2), some (mI x3), some (mI x4), some (mI x5), oI x6] [] s (0, 0)
  | 0, _, _, _, _, _, _, h => by cases h
  | fu + 1, x2, x3, x4, x5, x6, s, h => cb_Sea_readClause_L75 hP hQ (c_Sea_readClause_L75 hP hQ fu) x2 x3 x4 x5 x6 s h
set_option maxRecDepth 20000 in
set_option maxHeartbeats 4000000 in
theorem c_Sea_readClause {xs : Nat → Int32} {L d : Nat} {r0 : Nat} {s : S2} {res : S2 × Bool} {Q : S2 → Option MV → Prop} (h : f_Sea_readClause r0 s = some res) (hQ : Q res.1 (some (mI (bI res.2)))) : kcall (O3 xs L) (d + 6) k_Sea_readClause [mR 13 r0, mR 11 0] s Q := by
  refine kc_of (cd := kd_Sea_readClause) (mx := 7) (rt := 2) rfl rfl ?_
  intro P hP
  refine mgo_sound hP [75] 260 _ _ _ _ _ ?_
  obtain ⟨q1, hq, h⟩ := bnd h
  refine go_call (fun _ hw => c_Tape_look hq hw) ?_
  obtain ⟨q2, hq, h⟩ := bnd h
  refine go_call (fun _ hw => c_String_indexOf hq hw) ?_
  refine go_br (fun hc : q2 < 0 => ?_) (fun hc : ¬ (q2 < 0) => ?_)
  · replace h := (if_pos hc).symm.trans h
    cases h
    exact ⟨Or.inl rfl, hQ⟩
  · replace h := (if_neg hc).symm.trans h
    refine go_br (fun hc : (Int32.ofInt 4) ≤ q2 => ?_) (fun hc : ¬ ((Int32.ofInt 4) ≤ q2) => ?_)
    · replace h := (if_pos hc).symm.trans h
      cases h
      exact ⟨Or.inl rfl, hQ⟩
    · replace h := (if_neg hc).symm.trans h
      obtain ⟨j3, hj, h⟩ := bnd h
      refine go_ix j3 (ix_lt hj) (ix_eq hj) ?_
      obtain ⟨j4, hj, h⟩ := bnd h
      refine go_ix j4 (ix_lt hj) (ix_eq hj) ?_
      refine go_br (fun hc : (q1.1.1 15 r0 j3) < (lgD (kstat 1) j4) => ?_) (fun hc : ¬ ((q1.1.1 15 r0 j3) < (lgD (kstat 1) j4)) => ?_)
      · replace h := (if_pos hc).symm.trans h
        obtain ⟨q5, hq, h⟩ := bnd h
        refine go_call (fun _ hw => c_Tape_pass hq hw) ?_
        obtain ⟨j6, hj, h⟩ := bnd h
        refine go_ix j6 (ix_lt hj) (ix_eq hj) ?_
        obtain ⟨j7, hj, h⟩ := bnd h
        refine go_ix j7 (ix_lt hj) (ix_eq hj) ?_
        obtain ⟨j8, hj, h⟩ := bnd h
        refine go_ix j8 (ix_lt hj) (ix_eq hj) ?_
        obtain ⟨j10, hj, h⟩ := bnd h
        replace h := bnds h
        refine go_ix j10 (ix_lt hj) (ix_eq hj) ?_
        obtain ⟨q11, hq, h⟩ := bnd h
        refine go_call (fun _ hw => c_Sea_fillRow hq hw) ?_
        exact c_Sea_readClause_L75 hP hQ FU _ _ _ _ none _ h
      · replace h := (if_neg hc).symm.trans h
        cases h
        exact ⟨Or.inl rfl, hQ⟩
/-! Rule_readSum -/
def f_Rule_readBracket (g_Rule_readSum : Nat → Int32 → S2 → Option (S2 × Bool)) (r0 : Nat) (a2 : Int32) (s : S2) : Option (S2 × Bool) := (if a2 < (Int32.ofInt 6) then ((f_Tape_pass s).bind fun q1 => ((g_Rule_readSum r0 (a2 + (Int32.ofInt 1)) q1).bind fun q2 => (if (bI q2.2) = 0 then some (q2.1, false) else ((f_Tape_takes (Int32.ofInt 93) q2.1).bind fun q3 => (if (bI q3.2) = 0 then some (q3.1, false) else some (q3.1, true)))))) else some (s, false))
def f_Rule_readAtom_L27 (r0 : Nat) (g_Rule_readSum : Nat → Int32 → S2 → Option (S2 × Bool)) (x3 : Int32) (s : S2) : Option (S2 × Bool) := (if x3 = (Int32.ofInt (-1)) then some (s, false) else some (s, true))
def f_Rule_readAtom (g_Rule_readSum : Nat → Int32 → S2 → Option (S2 × Bool)) (r0 : Nat) (a2 : Int32) (s : S2) : Option (S2 × Bool) := ((f_Tape_isAtDigit s).bind fun q1 => (if (bI q1.2) = 0 then ((f_Tape_look q1.1).bind fun q2 => (if q2.2 = (Int32.ofInt 91) then ((f_Rule_readBracket g_Rule_readSum r0 a2 q2.1).bind fun q6 => some (q6.1, q6.2)) else ((f_String_indexOf 2 (ji2c q2.2) q2.1).bind fun q3 => (if 0 ≤ q3 then ((f_Tape_pass q2.1).bind fun q4 => ((f_Rule_put r0 q3 q4).bind fun q5 => some (q5, true))) else some (q2.1, false))))) else ((f_Tape_readNumber (Int32.ofInt 4) q1.1).bind fun q7 => (if q7.2 = (Int32.ofInt (-1)) then (f_Rule_readAtom_L27 r0 g_Rule_readSum q7.2 q7.1) else ((f_Rule_put r0 ((Int32.ofInt 256) + q7.2) q7.1).bind fun q8 => (f_Rule_readAtom_L27 r0 g_Rule_readSum q7.2 q8))))))
def f_Rule_readTerm_L42 (r0 : Nat) (g_Rule_readSum : Nat → Int32 → S2 → Option (S2 × Bool)) (k13 : Int32 → Int32 → S2 → Option (S2 × Bool)) (x2 : Int32) (x3 : Int32) (x4 : Int32) (s : S2) : Option (S2 × Bool) := ((f_Tape_pass s).bind fun q1 => ((f_Rule_readAtom g_Rule_readSum r0 x2 q1).bind fun q2 => (if (bI q2.2) = 0 then some (q2.1, false) else ((f_Rule_put r0 x4 q2.1).bind fun q3 => (k13 x2 (x3 + (Int32.ofInt 1)) q3)))))
def b_Rule_readTerm_L13 (r0 : Nat) (g_Rule_readSum : Nat → Int32 → S2 → Option (S2 × Bool)) (k13 : Int32 → Int32 → S2 → Option (S2 × Bool)) (x2 : Int32) (x3 : Int32) (s : S2) : Option (S2 × Bool) := (if (Int32.ofInt 240) ≤ x3 then some (s, true) else ((f_Tape_look s).bind fun q1 => (if q1.2 = (Int32.ofInt 42) then (f_Rule_readTerm_L42 r0 g_Rule_readSum k13 x2 x3 q1.2 q1.1) else (if q1.2 = (Int32.ofInt 47) then (f_Rule_readTerm_L42 r0 g_Rule_readSum k13 x2 x3 q1.2 q1.1) else some (q1.1, true)))))
def f_Rule_readTerm_L13 (r0 : Nat) (g_Rule_readSum : Nat → Int32 → S2 → Option (S2 × Bool)) : Nat → Int32 → Int32 → S2 → Option (S2 × Bool)
  | 0 => fun _ _ _ => none
  | n + 1 => b_Rule_readTerm_L13 r0 g_Rule_readSum (f_Rule_readTerm_L13 r0 g_Rule_readSum n)
def f_Rule_readTerm (g_Rule_readSum : Nat → Int32 → S2 → Option (S2 × Bool)) (r0 : Nat) (a2 : Int32) (s : S2) : Option (S2 × Bool) := ((f_Rule_readAtom g_Rule_readSum r0 a2 s).bind fun q1 => (if (bI q1.2) = 0 then some (q1.1, false) else (f_Rule_readTerm_L13 r0 g_Rule_readSum FU a2 (Int32.ofInt 0) q1.1)))
def f_Rule_readSum_L42 (r0 : Nat) (g_Rule_readSum : Nat → Int32 → S2 → Option (S2 × Bool)) (k13 : Int32 → Int32 → S2 → Option (S2 × Bool)) (x2 : Int32) (x3 : Int32) (x4 : Int32) (s : S2) : Option (S2 × Bool) := ((f_Tape_pass s).bind fun q1 => ((f_Rule_readTerm g_Rule_readSum r0 x2 q1).bind fun q2 => (if (bI q2.2) = 0 then some (q2.1, false) else ((f_Rule_put r0 x4 q2.1).bind fun q3 => (k13 x2 (x3 + (Int32.ofInt 1)) q3)))))
def b_Rule_readSum_L13 (r0 : Nat) (g_Rule_readSum : Nat → Int32 → S2 → Option (S2 × Bool)) (k13 : Int32 → Int32 → S2 → Option (S2 × Bool)) (x2 : Int32) (x3 : Int32) (s : S2) : Option (S2 × Bool) := (if (Int32.ofInt 240) ≤ x3 then some (s, true) else ((f_Tape_look s).bind fun q1 => (if q1.2 = (Int32.ofInt 43) then (f_Rule_readSum_L42 r0 g_Rule_readSum k13 x2 x3 q1.2 q1.1) else (if q1.2 = (Int32.ofInt 45) then (f_Rule_readSum_L42 r0 g_Rule_readSum k13 x2 x3 q1.2 q1.1) else some (q1.1, true)))))
def f_Rule_readSum_L13 (r0 : Nat) (g_Rule_readSum : Nat → Int32 → S2 → Option (S2 × Bool)) : Nat → Int32 → Int32 → S2 → Option (S2 × Bool)
  | 0 => fun _ _ _ => none
  | n + 1 => b_Rule_readSum_L13 r0 g_Rule_readSum (f_Rule_readSum_L13 r0 g_Rule_readSum n)
def fb_Rule_readSum (g_Rule_readSum : Nat → Int32 → S2 → Option (S2 × Bool)) (r0 : Nat) (a2 : Int32) (s : S2) : Option (S2 × Bool) := ((f_Rule_readTerm g_Rule_readSum r0 a2 s).bind fun q1 => (if (bI q1.2) = 0 then some (q1.1, false) else (f_Rule_readSum_L13 r0 g_Rule_readSum FU a2 (Int32.ofInt 0) q1.1)))
def f_Rule_readSum : Nat → Nat → Int32 → S2 → Option (S2 × Bool)
  | 0 => fun _ _ _ => none
  | n + 1 => fb_Rule_readSum (f_Rule_readSum n)
set_option maxRecDepth 20000 in
set_option maxHeartbeats 4000000 in
theorem c_Rule_readBracket {xs : Nat → Int32} {L d : Nat} {g_Rule_readSum : Nat → Int32 → S2 → Option (S2 × Bool)} {r0 : Nat} {a2 : Int32} {s : S2} {res : S2 × Bool} {Q : S2 → Option MV → Prop} (hg_Rule_readSum : ∀ {e : Nat}, d + 5 ≤ e → ∀ (r0 : Nat) (a2 : Int32) (s : S2) {res : S2 × Bool} {Q : S2 → Option MV → Prop}, g_Rule_readSum r0 a2 s = some res → Q res.1 (some (mI (bI res.2))) → kcall (O3 xs L) e k_Rule_readSum [mR 17 r0, mR 11 0, mI a2] s Q) (h : f_Rule_readBracket g_Rule_readSum r0 a2 s = some res) (hQ : Q res.1 (some (mI (bI res.2)))) : kcall (O3 xs L) (d + 6) k_Rule_readBracket [mR 17 r0, mR 11 0, mI a2] s Q := by
  refine kc_of (cd := kd_Rule_readBracket) (mx := 3) (rt := 2) rfl rfl ?_
  intro P hP
  refine mgo_sound hP [] 260 _ _ _ _ _ ?_
  refine go_br (fun hc : a2 < (Int32.ofInt 6) => ?_) (fun hc : ¬ (a2 < (Int32.ofInt 6)) => ?_)
  · replace h := (if_pos hc).symm.trans h
    obtain ⟨q1, hq, h⟩ := bnd h
    refine go_call (fun _ hw => c_Tape_pass hq hw) ?_
    obtain ⟨q2, hq, h⟩ := bnd h
    refine go_call (fun _ hw => hg_Rule_readSum (by omega) _ _ _ hq hw) ?_
    refine go_br (fun hc : (bI q2.2) = 0 => ?_) (fun hc : ¬ ((bI q2.2) = 0) => ?_)
    · replace h := (if_pos hc).symm.trans h
      cases h
      exact ⟨Or.inl rfl, hQ⟩
    · replace h := (if_neg hc).symm.trans h
      obtain ⟨q3, hq, h⟩ := bnd h
      refine go_call (fun _ hw => c_Tape_takes hq hw) ?_
      refine go_br (fun hc : (bI q3.2) = 0 => ?_) (fun hc : ¬ ((bI q3.2) = 0) => ?_)
      · replace h := (if_pos hc).symm.trans h
        cases h
        exact ⟨Or.inl rfl, hQ⟩
      · replace h := (if_neg hc).symm.trans h
        cases h
        exact ⟨Or.inr rfl, hQ⟩
  · replace h := (if_neg hc).symm.trans h
    cases h
    exact ⟨Or.inl rfl, hQ⟩
theorem c_Rule_readAtom_L27 {xs : Nat → Int32} {L d : Nat} {r0 : Nat} {g_Rule_readSum : Nat → Int32 → S2 → Option (S2 × Bool)} {P : MK S2} {Q : S2 → Option MV → Prop} {res : S2 × Bool} (hP : MClosed (O3 xs L) (kcall (O3 xs L) (d + 6)) kd_Rule_readAtom 2 Q P) (hQ : Q res.1 (some (mI (bI res.2)))) (hg_Rule_readSum : ∀ {e : Nat}, d + 5 ≤ e → ∀ (r0 : Nat) (a2 : Int32) (s : S2) {res : S2 × Bool} {Q : S2 → Option MV → Prop}, g_Rule_readSum r0 a2 s = some res → Q res.1 (some (mI (bI res.2))) → kcall (O3 xs L) e k_Rule_readSum [mR 17 r0, mR 11 0, mI a2] s Q) (x3 : Int32) (x2 : Int32) (s : S2) (h : f_Rule_readAtom_L27 r0 g_Rule_readSum x3 s = some res) : P 27 [some (mR 17 r0), some (mR 11 0), some (mI x2), some (mI x3), none] [] s (0, 0) := by
  refine mgo_from hP [27] 260 ?_
  refine go_br (fun hc : x3 = (Int32.ofInt (-1)) => ?_) (fun hc : ¬ (x3 = (Int32.ofInt (-1))) => ?_)
  · replace h := (if_pos hc).symm.trans h
    cases h
    exact ⟨Or.inl rfl, hQ⟩
  · replace h := (if_neg hc).symm.trans h
    cases h
    exact ⟨Or.inr rfl, hQ⟩
set_option maxRecDepth 20000 in
set_option maxHeartbeats 4000000 in
theorem c_Rule_readAtom {xs : Nat → Int32} {L d : Nat} {g_Rule_readSum : Nat → Int32 → S2 → Option (S2 × Bool)} {r0 : Nat} {a2 : Int32} {s : S2} {res : S2 × Bool} {Q : S2 → Option MV → Prop} (hg_Rule_readSum : ∀ {e : Nat}, d + 5 ≤ e → ∀ (r0 : Nat) (a2 : Int32) (s : S2) {res : S2 × Bool} {Q : S2 → Option MV → Prop}, g_Rule_readSum r0 a2 s = some res → Q res.1 (some (mI (bI res.2))) → kcall (O3 xs L) e k_Rule_readSum [mR 17 r0, mR 11 0, mI a2] s Q) (h : f_Rule_readAtom g_Rule_readSum r0 a2 s = some res) (hQ : Q res.1 (some (mI (bI res.2)))) : kcall (O3 xs L) (d + 7) k_Rule_readAtom [mR 17 r0, mR 11 0, mI a2] s Q := by
  refine kc_of (cd := kd_Rule_readAtom) (mx := 5) (rt := 2) rfl rfl ?_
  intro P hP
  refine mgo_sound hP [27] 260 _ _ _ _ _ ?_
  obtain ⟨q1, hq, h⟩ := bnd h
  refine go_call (fun _ hw => c_Tape_isAtDigit hq hw) ?_
  refine go_br (fun hc : (bI q1.2) = 0 => ?_) (fun hc : ¬ ((bI q1.2) = 0) => ?_)
  · replace h := (if_pos hc).symm.trans h
    obtain ⟨q2, hq, h⟩ := bnd h
    refine go_call (fun _ hw => c_Tape_look hq hw) ?_
    refine go_brn (fun hc : ¬ (q2.2 = (Int32.ofInt 91)) => ?_) (fun hc : q2.2 = (Int32.ofInt 91) => ?_)
    · replace h := (if_neg hc).symm.trans h
      obtain ⟨q3, hq, h⟩ := bnd h
      refine go_call (fun _ hw => c_String_indexOf hq hw) ?_
      refine go_br (fun hc : 0 ≤ q3 => ?_) (fun hc : ¬ (0 ≤ q3) => ?_)
      · replace h := (if_pos hc).symm.trans h
        obtain ⟨q4, hq, h⟩ := bnd h
        refine go_call (fun _ hw => c_Tape_pass hq hw) ?_
        obtain ⟨q5, hq, h⟩ := bnd h
        refine go_call (fun _ hw => c_Rule_put hq hw) ?_
        cases h
        exact ⟨Or.inr rfl, hQ⟩
      · replace h := (if_neg hc).symm.trans h
        cases h
        exact ⟨Or.inl rfl, hQ⟩
    · replace h := (if_pos hc).symm.trans h
      obtain ⟨q6, hq, h⟩ := bnd h
      refine go_call (fun _ hw => c_Rule_readBracket (fun he => hg_Rule_readSum (by omega)) hq hw) ?_
      cases h
      exact ⟨bI_01 _, hQ⟩
  · replace h := (if_neg hc).symm.trans h
    obtain ⟨q7, hq, h⟩ := bnd h
    refine go_call (fun _ hw => c_Tape_readNumber hq hw) ?_
    refine go_br (fun hc : q7.2 = (Int32.ofInt (-1)) => ?_) (fun hc : ¬ (q7.2 = (Int32.ofInt (-1))) => ?_)
    · replace h := (if_pos hc).symm.trans h
      exact c_Rule_readAtom_L27 hP hQ hg_Rule_readSum _ _ _ h
    · replace h := (if_neg hc).symm.trans h
      obtain ⟨q8, hq, h⟩ := bnd h
      refine go_call (fun _ hw => c_Rule_put hq hw) ?_
      exact c_Rule_readAtom_L27 hP hQ hg_Rule_readSum _ _ _ h
theorem c_Rule_readTerm_L42 {xs : Nat → Int32} {L d : Nat} {r0 : Nat} {g_Rule_readSum : Nat → Int32 → S2 → Option (S2 × Bool)} {P : MK S2} {Q : S2 → Option MV → Prop} {res : S2 × Bool} (hP : MClosed (O3 xs L) (kcall (O3 xs L) (d + 7)) kd_Rule_readTerm 2 Q P) (hQ : Q res.1 (some (mI (bI res.2)))) (hg_Rule_readSum : ∀ {e : Nat}, d + 5 ≤ e → ∀ (r0 : Nat) (a2 : Int32) (s : S2) {res : S2 × Bool} {Q : S2 → Option MV → Prop}, g_Rule_readSum r0 a2 s = some res → Q res.1 (some (mI (bI res.2))) → kcall (O3 xs L) e k_Rule_readSum [mR 17 r0, mR 11 0, mI a2] s Q) {k13 : Int32 → Int32 → S2 → Option (S2 × Bool)} (hk13 : ∀ (x2 : Int32) (x3 : Int32) (x4 : Option Int32) (s : S2), k13 x2 x3 s = some res → P 13 [some (mR 17 r0), some (mR 11 0), some (mI x2), some (mI x3), oI x4] [] s (0, 0)) (x2 : Int32) (x3 : Int32) (x4 : Int32) (s : S2) (h : f_Rule_readTerm_L42 r0 g_Rule_readSum k13 x2 x3 x4 s = some res) : P 42 [some (mR 17 r0), some (mR 11 0), some (mI x2), some (mI x3), some (mI x4)] [] s (0, 0) := by
  refine mgo_from hP [13, 42] 260 ?_
  obtain ⟨q1, hq, h⟩ := bnd h
  refine go_call (fun _ hw => c_Tape_pass hq hw) ?_
  obtain ⟨q2, hq, h⟩ := bnd h
  refine go_call (fun _ hw => c_Rule_readAtom (fun he => hg_Rule_readSum (by omega)) hq hw) ?_
  refine go_brn (fun hc : ¬ ((bI q2.2) = 0) => ?_) (fun hc : (bI q2.2) = 0 => ?_)
  · replace h := (if_neg hc).symm.trans h
    obtain ⟨q3, hq, h⟩ := bnd h
    refine go_call (fun _ hw => c_Rule_put hq hw) ?_
    exact hk13 _ _ (some x4) _ h
  · replace h := (if_pos hc).symm.trans h
    cases h
    exact ⟨Or.inl rfl, hQ⟩
theorem cb_Rule_readTerm_L13 {xs : Nat → Int32} {L d : Nat} {r0 : Nat} {g_Rule_readSum : Nat → Int32 → S2 → Option (S2 × Bool)} {P : MK S2} {Q : S2 → Option MV → Prop} {res : S2 × Bool} (hP : MClosed (O3 xs L) (kcall (O3 xs L) (d + 7)) kd_Rule_readTerm 2 Q P) (hQ : Q res.1 (some (mI (bI res.2)))) (hg_Rule_readSum : ∀ {e : Nat}, d + 5 ≤ e → ∀ (r0 : Nat) (a2 : Int32) (s : S2) {res : S2 × Bool} {Q : S2 → Option MV → Prop}, g_Rule_readSum r0 a2 s = some res → Q res.1 (some (mI (bI res.2))) → kcall (O3 xs L) e k_Rule_readSum [mR 17 r0, mR 11 0, mI a2] s Q) {k13 : Int32 → Int32 → S2 → Option (S2 × Bool)} (hk13 : ∀ (x2 : Int32) (x3 : Int32) (x4 : Option Int32) (s : S2), k13 x2 x3 s = some res → P 13 [some (mR 17 r0), some (mR 11 0), some (mI x2), some (mI x3), oI x4] [] s (0, 0)) (x2 : Int32) (x3 : Int32) (x4 : Option Int32) (s : S2) (h : b_Rule_readTerm_L13 r0 g_Rule_readSum k13 x2 x3 s = some res) : P 13 [some (mR 17 r0), some (mR 11 0), some (mI x2), some (mI x3), oI x4] [] s (0, 0) := by
  refine mgo_from hP [13, 42] 260 ?_
  refine go_br (fun hc : (Int32.ofInt 240) ≤ x3 => ?_) (fun hc : ¬ ((Int32.ofInt 240) ≤ x3) => ?_)
  · replace h := (if_pos hc).symm.trans h
    cases h
    exact ⟨Or.inr rfl, hQ⟩
  · replace h := (if_neg hc).symm.trans h
    obtain ⟨q1, hq, h⟩ := bnd h
    refine go_call (fun _ hw => c_Tape_look hq hw) ?_
    refine go_br (fun hc : q1.2 = (Int32.ofInt 42) => ?_) (fun hc : ¬ (q1.2 = (Int32.ofInt 42)) => ?_)
    · replace h := (if_pos hc).symm.trans h
      exact c_Rule_readTerm_L42 hP hQ hg_Rule_readSum hk13 _ _ _ _ h
    · replace h := (if_neg hc).symm.trans h
      refine go_br (fun hc : q1.2 = (Int32.ofInt 47) => ?_) (fun hc : ¬ (q1.2 = (Int32.ofInt 47)) => ?_)
      · replace h := (if_pos hc).symm.trans h
        exact c_Rule_readTerm_L42 hP hQ hg_Rule_readSum hk13 _ _ _ _ h
      · replace h := (if_neg hc).symm.trans h
        cases h
        exact ⟨Or.inr rfl, hQ⟩
theorem c_Rule_readTerm_L13 {xs : Nat → Int32} {L d : Nat} {r0 : Nat} {g_Rule_readSum : Nat → Int32 → S2 → Option (S2 × Bool)} {P : MK S2} {Q : S2 → Option MV → Prop} {res : S2 × Bool} (hP : MClosed (O3 xs L) (kcall (O3 xs L) (d + 7)) kd_Rule_readTerm 2 Q P) (hQ : Q res.1 (some (mI (bI res.2)))) (hg_Rule_readSum : ∀ {e : Nat}, d + 5 ≤ e → ∀ (r0 : Nat) (a2 : Int32) (s : S2) {res : S2 × Bool} {Q : S2 → Option MV → Prop}, g_Rule_readSum r0 a2 s = some res → Q res.1 (some (mI (bI res.2))) → kcall (O3 xs L) e k_Rule_readSum [mR 17 r0, mR 11 0, mI a2] s Q) : ∀ (fu : Nat) (x2 : Int32) (x3 : Int32) (x4 : Option Int32) (s : S2), f_Rule_readTerm_L13 r0 g_Rule_readSum fu x2 x3 s = some res → P 13 [some (mR 17 r0), some (mR 11 0), some (mI x2), some (mI x3), oI x4] [] s (0, 0)
  | 0, _, _, _, _, h => by cases h
  | fu + 1, x2, x3, x4, s, h => cb_Rule_readTerm_L13 hP hQ hg_Rule_readSum (c_Rule_readTerm_L13 hP hQ hg_Rule_readSum fu) x2 x3 x4 s h
theorem c_Rule_readTerm {xs : Nat → Int32} {L d : Nat} {g_Rule_readSum : Nat → Int32 → S2 → Option (S2 × Bool)} {r0 : Nat} {a2 : Int32} {s : S2} {res : S2 × Bool} {Q : S2 → Option MV → Prop} (hg_Rule_readSum : ∀ {e : Nat}, d + 5 ≤ e → ∀ (r0 : Nat) (a2 : Int32) (s : S2) {res : S2 × Bool} {Q : S2 → Option MV → Prop}, g_Rule_readSum r0 a2 s = some res → Q res.1 (some (mI (bI res.2))) → kcall (O3 xs L) e k_Rule_readSum [mR 17 r0, mR 11 0, mI a2] s Q) (h : f_Rule_readTerm g_Rule_readSum r0 a2 s = some res) (hQ : Q res.1 (some (mI (bI res.2)))) : kcall (O3 xs L) (d + 8) k_Rule_readTerm [mR 17 r0, mR 11 0, mI a2] s Q := by
  refine kc_of (cd := kd_Rule_readTerm) (mx := 5) (rt := 2) rfl rfl ?_
  intro P hP
  refine mgo_sound hP [13, 42] 260 _ _ _ _ _ ?_
  obtain ⟨q1, hq, h⟩ := bnd h
  refine go_call (fun _ hw => c_Rule_readAtom (fun he => hg_Rule_readSum (by omega)) hq hw) ?_
  refine go_brn (fun hc : ¬ ((bI q1.2) = 0) => ?_) (fun hc : (bI q1.2) = 0 => ?_)
  · replace h := (if_neg hc).symm.trans h
    exact c_Rule_readTerm_L13 hP hQ hg_Rule_readSum FU _ _ none _ h
  · replace h := (if_pos hc).symm.trans h
    cases h
    exact ⟨Or.inl rfl, hQ⟩
theorem c_Rule_readSum_L42 {xs : Nat → Int32} {L d : Nat} {r0 : Nat} {g_Rule_readSum : Nat → Int32 → S2 → Option (S2 × Bool)} {P : MK S2} {Q : S2 → Option MV → Prop} {res : S2 × Bool} (hP : MClosed (O3 xs L) (kcall (O3 xs L) (d + 8)) kd_Rule_readSum 2 Q P) (hQ : Q res.1 (some (mI (bI res.2)))) (hg_Rule_readSum : ∀ {e : Nat}, d + 5 ≤ e → ∀ (r0 : Nat) (a2 : Int32) (s : S2) {res : S2 × Bool} {Q : S2 → Option MV → Prop}, g_Rule_readSum r0 a2 s = some res → Q res.1 (some (mI (bI res.2))) → kcall (O3 xs L) e k_Rule_readSum [mR 17 r0, mR 11 0, mI a2] s Q) {k13 : Int32 → Int32 → S2 → Option (S2 × Bool)} (hk13 : ∀ (x2 : Int32) (x3 : Int32) (x4 : Option Int32) (s : S2), k13 x2 x3 s = some res → P 13 [some (mR 17 r0), some (mR 11 0), some (mI x2), some (mI x3), oI x4] [] s (0, 0)) (x2 : Int32) (x3 : Int32) (x4 : Int32) (s : S2) (h : f_Rule_readSum_L42 r0 g_Rule_readSum k13 x2 x3 x4 s = some res) : P 42 [some (mR 17 r0), some (mR 11 0), some (mI x2), some (mI x3), some (mI x4)] [] s (0, 0) := by
  refine mgo_from hP [13, 42] 260 ?_
  obtain ⟨q1, hq, h⟩ := bnd h
  refine go_call (fun _ hw => c_Tape_pass hq hw) ?_
  obtain ⟨q2, hq, h⟩ := bnd h
  refine go_call (fun _ hw => c_Rule_readTerm (fun he => hg_Rule_readSum (by omega)) hq hw) ?_
  refine go_brn (fun hc : ¬ ((bI q2.2) = 0) => ?_) (fun hc : (bI q2.2) = 0 => ?_)
  · replace h := (if_neg hc).symm.trans h
    obtain ⟨q3, hq, h⟩ := bnd h
    refine go_call (fun _ hw => c_Rule_put hq hw) ?_
    exact hk13 _ _ (some x4) _ h
  · replace h := (if_pos hc).symm.trans h
    cases h
    exact ⟨Or.inl rfl, hQ⟩
theorem cb_Rule_readSum_L13 {xs : Nat → Int32} {L d : Nat} {r0 : Nat} {g_Rule_readSum : Nat → Int32 → S2 → Option (S2 × Bool)} {P : MK S2} {Q : S2 → Option MV → Prop} {res : S2 × Bool} (hP : MClosed (O3 xs L) (kcall (O3 xs L) (d + 8)) kd_Rule_readSum 2 Q P) (hQ : Q res.1 (some (mI (bI res.2)))) (hg_Rule_readSum : ∀ {e : Nat}, d + 5 ≤ e → ∀ (r0 : Nat) (a2 : Int32) (s : S2) {res : S2 × Bool} {Q : S2 → Option MV → Prop}, g_Rule_readSum r0 a2 s = some res → Q res.1 (some (mI (bI res.2))) → kcall (O3 xs L) e k_Rule_readSum [mR 17 r0, mR 11 0, mI a2] s Q) {k13 : Int32 → Int32 → S2 → Option (S2 × Bool)} (hk13 : ∀ (x2 : Int32) (x3 : Int32) (x4 : Option Int32) (s : S2), k13 x2 x3 s = some res → P 13 [some (mR 17 r0), some (mR 11 0), some (mI x2), some (mI x3), oI x4] [] s (0, 0)) (x2 : Int32) (x3 : Int32) (x4 : Option Int32) (s : S2) (h : b_Rule_readSum_L13 r0 g_Rule_readSum k13 x2 x3 s = some res) : P 13 [some (mR 17 r0), some (mR 11 0), some (mI x2), some (mI x3), oI x4] [] s (0, 0) := by
  refine mgo_from hP [13, 42] 260 ?_
  refine go_br (fun hc : (Int32.ofInt 240) ≤ x3 => ?_) (fun hc : ¬ ((Int32.ofInt 240) ≤ x3) => ?_)
  · replace h := (if_pos hc).symm.trans h
    cases h
    exact ⟨Or.inr rfl, hQ⟩
  · replace h := (if_neg hc).symm.trans h
    obtain ⟨q1, hq, h⟩ := bnd h
    refine go_call (fun _ hw => c_Tape_look hq hw) ?_
    refine go_br (fun hc : q1.2 = (Int32.ofInt 43) => ?_) (fun hc : ¬ (q1.2 = (Int32.ofInt 43)) => ?_)
    · replace h := (if_pos hc).symm.trans h
      exact c_Rule_readSum_L42 hP hQ hg_Rule_readSum hk13 _ _ _ _ h
    · replace h := (if_neg hc).symm.trans h
      refine go_br (fun hc : q1.2 = (Int32.ofInt 45) => ?_) (fun hc : ¬ (q1.2 = (Int32.ofInt 45)) => ?_)
      · replace h := (if_pos hc).symm.trans h
        exact c_Rule_readSum_L42 hP hQ hg_Rule_readSum hk13 _ _ _ _ h
      · replace h := (if_neg hc).symm.trans h
        cases h
        exact ⟨Or.inr rfl, hQ⟩
theorem c_Rule_readSum_L13 {xs : Nat → Int32} {L d : Nat} {r0 : Nat} {g_Rule_readSum : Nat → Int32 → S2 → Option (S2 × Bool)} {P : MK S2} {Q : S2 → Option MV → Prop} {res : S2 × Bool} (hP : MClosed (O3 xs L) (kcall (O3 xs L) (d + 8)) kd_Rule_readSum 2 Q P) (hQ : Q res.1 (some (mI (bI res.2)))) (hg_Rule_readSum : ∀ {e : Nat}, d + 5 ≤ e → ∀ (r0 : Nat) (a2 : Int32) (s : S2) {res : S2 × Bool} {Q : S2 → Option MV → Prop}, g_Rule_readSum r0 a2 s = some res → Q res.1 (some (mI (bI res.2))) → kcall (O3 xs L) e k_Rule_readSum [mR 17 r0, mR 11 0, mI a2] s Q) : ∀ (fu : Nat) (x2 : Int32) (x3 : Int32) (x4 : Option Int32) (s : S2), f_Rule_readSum_L13 r0 g_Rule_readSum fu x2 x3 s = some res → P 13 [some (mR 17 r0), some (mR 11 0), some (mI x2), some (mI x3), oI x4] [] s (0, 0)
  | 0, _, _, _, _, h => by cases h
  | fu + 1, x2, x3, x4, s, h => cb_Rule_readSum_L13 hP hQ hg_Rule_readSum (c_Rule_readSum_L13 hP hQ hg_Rule_readSum fu) x2 x3 x4 s h
theorem cb_Rule_readSum {xs : Nat → Int32} {L d : Nat} {g_Rule_readSum : Nat → Int32 → S2 → Option (S2 × Bool)} {r0 : Nat} {a2 : Int32} {s : S2} {res : S2 × Bool} {Q : S2 → Option MV → Prop} (hg_Rule_readSum : ∀ {e : Nat}, d + 5 ≤ e → ∀ (r0 : Nat) (a2 : Int32) (s : S2) {res : S2 × Bool} {Q : S2 → Option MV → Prop}, g_Rule_readSum r0 a2 s = some res → Q res.1 (some (mI (bI res.2))) → kcall (O3 xs L) e k_Rule_readSum [mR 17 r0, mR 11 0, mI a2] s Q) (h : fb_Rule_readSum g_Rule_readSum r0 a2 s = some res) (hQ : Q res.1 (some (mI (bI res.2)))) : kcall (O3 xs L) (d + 9) k_Rule_readSum [mR 17 r0, mR 11 0, mI a2] s Q := by
  refine kc_of (cd := kd_Rule_readSum) (mx := 5) (rt := 2) rfl rfl ?_
  intro P hP
  refine mgo_sound hP [13, 42] 260 _ _ _ _ _ ?_
  obtain ⟨q1, hq, h⟩ := bnd h
  refine go_call (fun _ hw => c_Rule_readTerm (fun he => hg_Rule_readSum (by omega)) hq hw) ?_
  refine go_brn (fun hc : ¬ ((bI q1.2) = 0) => ?_) (fun hc : (bI q1.2) = 0 => ?_)
  · replace h := (if_neg hc).symm.trans h
    exact c_Rule_readSum_L13 hP hQ hg_Rule_readSum FU _ _ none _ h
  · replace h := (if_pos hc).symm.trans h
    cases h
    exact ⟨Or.inl rfl, hQ⟩
theorem cn_Rule_readSum {xs : Nat → Int32} {L : Nat} : ∀ (n : Nat) {e : Nat}, n * 20 + 9 ≤ e → ∀ (r0 : Nat) (a2 : Int32) (s : S2) {res : S2 × Bool} {Q : S2 → Option MV → Prop}, f_Rule_readSum n r0 a2 s = some res → Q res.1 (some (mI (bI res.2))) → kcall (O3 xs L) e k_Rule_readSum [mR 17 r0, mR 11 0, mI a2] s Q
  | 0, _, _, _, _, _, _, _, h, _ => by cases h
  | n + 1, e, he, r0, a2, s, res, Q, h, hQ => by
    obtain ⟨d, rfl⟩ : ∃ d, e = d + 9 := ⟨e - 9, by omega⟩
    exact cb_Rule_readSum (fun {e} he => cn_Rule_readSum n (by omega)) h hQ
theorem c_Rule_readSum {xs : Nat → Int32} {L d : Nat} {r0 : Nat} {a2 : Int32} {s : S2} {res : S2 × Bool} {Q : S2 → Option MV → Prop} (h : f_Rule_readSum 9 r0 a2 s = some res) (hQ : Q res.1 (some (mI (bI res.2)))) : kcall (O3 xs L) (d + 189) k_Rule_readSum [mR 17 r0, mR 11 0, mI a2] s Q := cn_Rule_readSum 9 (by omega) _ _ _ h hQ
/-! Rule_readUnit -/
def b_Rule_readTruth_L15 (r0 : Nat) (g_Rule_readUnit : Nat → Int32 → Int32 → S2 → Option (S2 × Bool)) (k15 : Int32 → Int32 → S2 → Option (S2 × Bool)) (x2 : Int32) (x4 : Int32) (s : S2) : Option (S2 × Bool) := (if (Int32.ofInt 240) ≤ x4 then some (s, true) else ((f_Tape_takes (Int32.ofInt 38) s).bind fun q1 => (if (bI q1.2) = 0 then some (q1.1, true) else ((g_Rule_readUnit r0 x2 (Int32.ofInt 0) q1.1).bind fun q2 => (if (bI q2.2) = 0 then some (q2.1, false) else ((f_Rule_put r0 (Int32.ofInt 38) q2.1).bind fun q3 => (k15 x2 (x4 + (Int32.ofInt 1)) q3)))))))
def f_Rule_readTruth_L15 (r0 : Nat) (g_Rule_readUnit : Nat → Int32 → Int32 → S2 → Option (S2 × Bool)) : Nat → Int32 → Int32 → S2 → Option (S2 × Bool)
  | 0 => fun _ _ _ => none
  | n + 1 => b_Rule_readTruth_L15 r0 g_Rule_readUnit (f_Rule_readTruth_L15 r0 g_Rule_readUnit n)
def f_Rule_readTruth (g_Rule_readUnit : Nat → Int32 → Int32 → S2 → Option (S2 × Bool)) (r0 : Nat) (a2 : Int32) (a3 : Int32) (s : S2) : Option (S2 × Bool) := ((g_Rule_readUnit r0 a2 a3 s).bind fun q1 => (if (bI q1.2) = 0 then some (q1.1, false) else (f_Rule_readTruth_L15 r0 g_Rule_readUnit FU a2 (Int32.ofInt 0) q1.1)))
def b_Rule_readCondition_L15 (r0 : Nat) (g_Rule_readUnit : Nat → Int32 → Int32 → S2 → Option (S2 × Bool)) (k15 : Int32 → Int32 → S2 → Option (S2 × Bool)) (x2 : Int32) (x4 : Int32) (s : S2) : Option (S2 × Bool) := (if (Int32.ofInt 240) ≤ x4 then some (s, true) else ((f_Tape_takes (Int32.ofInt 124) s).bind fun q1 => (if (bI q1.2) = 0 then some (q1.1, true) else ((f_Rule_readTruth g_Rule_readUnit r0 x2 (Int32.ofInt 0) q1.1).bind fun q2 => (if (bI q2.2) = 0 then some (q2.1, false) else ((f_Rule_put r0 (Int32.ofInt 124) q2.1).bind fun q3 => (k15 x2 (x4 + (Int32.ofInt 1)) q3)))))))
def f_Rule_readCondition_L15 (r0 : Nat) (g_Rule_readUnit : Nat → Int32 → Int32 → S2 → Option (S2 × Bool)) : Nat → Int32 → Int32 → S2 → Option (S2 × Bool)
  | 0 => fun _ _ _ => none
  | n + 1 => b_Rule_readCondition_L15 r0 g_Rule_readUnit (f_Rule_readCondition_L15 r0 g_Rule_readUnit n)
def f_Rule_readCondition (g_Rule_readUnit : Nat → Int32 → Int32 → S2 → Option (S2 × Bool)) (r0 : Nat) (a2 : Int32) (a3 : Int32) (s : S2) : Option (S2 × Bool) := ((f_Rule_readTruth g_Rule_readUnit r0 a2 a3 s).bind fun q1 => (if (bI q1.2) = 0 then some (q1.1, false) else (f_Rule_readCondition_L15 r0 g_Rule_readUnit FU a2 (Int32.ofInt 0) q1.1)))
def f_Rule_readNested (g_Rule_readUnit : Nat → Int32 → Int32 → S2 → Option (S2 × Bool)) (r0 : Nat) (a2 : Int32) (a3 : Int32) (s : S2) : Option (S2 × Bool) := (if a2 < (Int32.ofInt 6) then ((f_Tape_pass s).bind fun q1 => (if a3 = (Int32.ofInt 40) then ((f_Rule_readCondition g_Rule_readUnit r0 (a2 + (Int32.ofInt 1)) (Int32.ofInt 0) q1).bind fun q4 => (if (bI q4.2) = 0 then some (q4.1, false) else ((f_Tape_takes (Int32.ofInt 41) q4.1).bind fun q5 => (if (bI q5.2) = 0 then some (q5.1, false) else some (q5.1, true))))) else ((g_Rule_readUnit r0 (a2 + (Int32.ofInt 1)) (Int32.ofInt 0) q1).bind fun q2 => (if (bI q2.2) = 0 then some (q2.1, false) else ((f_Rule_put r0 (Int32.ofInt 33) q2.1).bind fun q3 => some (q3, true)))))) else some (s, false))
def f_Rule_readUnit_L24 (r0 : Nat) (g_Rule_readUnit : Nat → Int32 → Int32 → S2 → Option (S2 × Bool)) (x2 : Int32) (x4 : Int32) (s : S2) : Option (S2 × Bool) := ((f_Rule_readNested g_Rule_readUnit r0 x2 x4 s).bind fun q1 => some (q1.1, q1.2))
def f_Rule_readUnit_L48 (r0 : Nat) (g_Rule_readUnit : Nat → Int32 → Int32 → S2 → Option (S2 × Bool)) (x2 : Int32) (s : S2) : Option (S2 × Bool) := ((f_Tape_look s).bind fun q1 => (if (bI (g_Rule_isComparison q1.2 q1.1)) = 0 then some (q1.1, false) else ((f_Tape_pass q1.1).bind fun q2 => ((f_Rule_readSum 9 r0 x2 q2).bind fun q3 => (if (bI q3.2) = 0 then some (q3.1, false) else ((f_Rule_put r0 q1.2 q3.1).bind fun q4 => some (q4, true)))))))
def f_Rule_readUnit_L33 (r0 : Nat) (g_Rule_readUnit : Nat → Int32 → Int32 → S2 → Option (S2 × Bool)) (x2 : Int32) (x3 : Int32) (s : S2) : Option (S2 × Bool) := (if x3 = 0 then ((f_Rule_readSum 9 r0 x2 s).bind fun q1 => (if (bI q1.2) = 0 then some (q1.1, false) else (f_Rule_readUnit_L48 r0 g_Rule_readUnit x2 q1.1))) else (f_Rule_readUnit_L48 r0 g_Rule_readUnit x2 s))
def fb_Rule_readUnit (g_Rule_readUnit : Nat → Int32 → Int32 → S2 → Option (S2 × Bool)) (r0 : Nat) (a2 : Int32) (a3 : Int32) (s : S2) : Option (S2 × Bool) := ((f_Tape_look s).bind fun q1 => (if a3 = 0 then (if q1.2 = (Int32.ofInt 33) then (f_Rule_readUnit_L24 r0 g_Rule_readUnit a2 q1.2 q1.1) else (if q1.2 = (Int32.ofInt 40) then (f_Rule_readUnit_L24 r0 g_Rule_readUnit a2 q1.2 q1.1) else (f_Rule_readUnit_L33 r0 g_Rule_readUnit a2 a3 q1.1))) else (f_Rule_readUnit_L33 r0 g_Rule_readUnit a2 a3 q1.1)))
def f_Rule_readUnit : Nat → Nat → Int32 → Int32 → S2 → Option (S2 × Bool)
  | 0 => fun _ _ _ _ => none
  | n + 1 => fb_Rule_readUnit (f_Rule_readUnit n)
theorem cb_Rule_readTruth_L15 {xs : Nat → Int32} {L d : Nat} {r0 : Nat} {g_Rule_readUnit : Nat → Int32 → Int32 → S2 → Option (S2 × Bool)} {P : MK S2} {Q : S2 → Option MV → Prop} {res : S2 × Bool} (hP : MClosed (O3 xs L) (kcall (O3 xs L) (d + 190)) kd_Rule_readTruth 2 Q P) (hQ : Q res.1 (some (mI (bI res.2)))) (hg_Rule_readUnit : ∀ {e : Nat}, d + 190 ≤ e → ∀ (r0 : Nat) (a2 : Int32) (a3 : Int32) (s : S2) {res : S2 × Bool} {Q : S2 → Option MV → Prop}, g_Rule_readUnit r0 a2 a3 s = some res → Q res.1 (some (mI (bI res.2))) → kcall (O3 xs L) e k_Rule_readUnit [mR 17 r0, mR 11 0, mI a2, mI a3] s Q) {k15 : Int32 → Int32 → S2 → Option (S2 × Bool)} (hk15 : ∀ (x2 : Int32) (x4 : Int32) (x3 : Int32) (s : S2), k15 x2 x4 s = some res → P 15 [some (mR 17 r0), some (mR 11 0), some (mI x2), some (mI x3), some (mI x4)] [] s (0, 0)) (x2 : Int32) (x4 : Int32) (x3 : Int32) (s : S2) (h : b_Rule_readTruth_L15 r0 g_Rule_readUnit k15 x2 x4 s = some res) : P 15 [some (mR 17 r0), some (mR 11 0), some (mI x2), some (mI x3), some (mI x4)] [] s (0, 0) := by
  refine mgo_from hP [15] 260 ?_
  refine go_br (fun hc : (Int32.ofInt 240) ≤ x4 => ?_) (fun hc : ¬ ((Int32.ofInt 240) ≤ x4) => ?_)
  · replace h := (if_pos hc).symm.trans h
    cases h
    exact ⟨Or.inr rfl, hQ⟩
  · replace h := (if_neg hc).symm.trans h
    obtain ⟨q1, hq, h⟩ := bnd h
    refine go_call (fun _ hw => c_Tape_takes hq hw) ?_
    refine go_br (fun hc : (bI q1.2) = 0 => ?_) (fun hc : ¬ ((bI q1.2) = 0) => ?_)
    · replace h := (if_pos hc).symm.trans h
      cases h
      exact ⟨Or.inr rfl, hQ⟩
    · replace h := (if_neg hc).symm.trans h
      obtain ⟨q2, hq, h⟩ := bnd h
      refine go_call (fun _ hw => hg_Rule_readUnit (by omega) _ _ _ _ hq hw) ?_
      refine go_brn (fun hc : ¬ ((bI q2.2) = 0) => ?_) (fun hc : (bI q2.2) = 0 => ?_)
      · replace h := (if_neg hc).symm.trans h
        obtain ⟨q3, hq, h⟩ := bnd h
        refine go_call (fun _ hw => c_Rule_put hq hw) ?_
        exact hk15 _ _ _ _ h
      · replace h := (if_pos hc).symm.trans h
        cases h
        exact ⟨Or.inl rfl, hQ⟩
theorem c_Rule_readTruth_L15 {xs : Nat → Int32} {L d : Nat} {r0 : Nat} {g_Rule_readUnit : Nat → Int32 → Int32 → S2 → Option (S2 × Bool)} {P : MK S2} {Q : S2 → Option MV → Prop} {res : S2 × Bool} (hP : MClosed (O3 xs L) (kcall (O3 xs L) (d + 190)) kd_Rule_readTruth 2 Q P) (hQ : Q res.1 (some (mI (bI res.2)))) (hg_Rule_readUnit : ∀ {e : Nat}, d + 190 ≤ e → ∀ (r0 : Nat) (a2 : Int32) (a3 : Int32) (s : S2) {res : S2 × Bool} {Q : S2 → Option MV → Prop}, g_Rule_readUnit r0 a2 a3 s = some res → Q res.1 (some (mI (bI res.2))) → kcall (O3 xs L) e k_Rule_readUnit [mR 17 r0, mR 11 0, mI a2, mI a3] s Q) : ∀ (fu : Nat) (x2 : Int32) (x4 : Int32) (x3 : Int32) (s : S2), f_Rule_readTruth_L15 r0 g_Rule_readUnit fu x2 x4 s = some res → P 15 [some (mR 17 r0), some (mR 11 0), some (mI x2), some (mI x3), some (mI x4)] [] s (0, 0)
  | 0, _, _, _, _, h => by cases h
  | fu + 1, x2, x4, x3, s, h => cb_Rule_readTruth_L15 hP hQ hg_Rule_readUnit (c_Rule_readTruth_L15 hP hQ hg_Rule_readUnit fu) x2 x4 x3 s h
theorem c_Rule_readTruth {xs : Nat → Int32} {L d : Nat} {g_Rule_readUnit : Nat → Int32 → Int32 → S2 → Option (S2 × Bool)} {r0 : Nat} {a2 : Int32} {a3 : Int32} {s : S2} {res : S2 × Bool} {Q : S2 → Option MV → Prop} (hg_Rule_readUnit : ∀ {e : Nat}, d + 190 ≤ e → ∀ (r0 : Nat) (a2 : Int32) (a3 : Int32) (s : S2) {res : S2 × Bool} {Q : S2 → Option MV → Prop}, g_Rule_readUnit r0 a2 a3 s = some res → Q res.1 (some (mI (bI res.2))) → kcall (O3 xs L) e k_Rule_readUnit [mR 17 r0, mR 11 0, mI a2, mI a3] s Q) (h : f_Rule_readTruth g_Rule_readUnit r0 a2 a3 s = some res) (hQ : Q res.1 (some (mI (bI res.2)))) : kcall (O3 xs L) (d + 191) k_Rule_readTruth [mR 17 r0, mR 11 0, mI a2, mI a3] s Q := by
  refine kc_of (cd := kd_Rule_readTruth) (mx := 5) (rt := 2) rfl rfl ?_
  intro P hP
  refine mgo_sound hP [15] 260 _ _ _ _ _ ?_
  obtain ⟨q1, hq, h⟩ := bnd h
  refine go_call (fun _ hw => hg_Rule_readUnit (by omega) _ _ _ _ hq hw) ?_
  refine go_brn (fun hc : ¬ ((bI q1.2) = 0) => ?_) (fun hc : (bI q1.2) = 0 => ?_)
  · replace h := (if_neg hc).symm.trans h
    exact c_Rule_readTruth_L15 hP hQ hg_Rule_readUnit FU _ _ _ _ h
  · replace h := (if_pos hc).symm.trans h
    cases h
    exact ⟨Or.inl rfl, hQ⟩
theorem cb_Rule_readCondition_L15 {xs : Nat → Int32} {L d : Nat} {r0 : Nat} {g_Rule_readUnit : Nat → Int32 → Int32 → S2 → Option (S2 × Bool)} {P : MK S2} {Q : S2 → Option MV → Prop} {res : S2 × Bool} (hP : MClosed (O3 xs L) (kcall (O3 xs L) (d + 191)) kd_Rule_readCondition 2 Q P) (hQ : Q res.1 (some (mI (bI res.2)))) (hg_Rule_readUnit : ∀ {e : Nat}, d + 190 ≤ e → ∀ (r0 : Nat) (a2 : Int32) (a3 : Int32) (s : S2) {res : S2 × Bool} {Q : S2 → Option MV → Prop}, g_Rule_readUnit r0 a2 a3 s = some res → Q res.1 (some (mI (bI res.2))) → kcall (O3 xs L) e k_Rule_readUnit [mR 17 r0, mR 11 0, mI a2, mI a3] s Q) {k15 : Int32 → Int32 → S2 → Option (S2 × Bool)} (hk15 : ∀ (x2 : Int32) (x4 : Int32) (x3 : Int32) (s : S2), k15 x2 x4 s = some res → P 15 [some (mR 17 r0), some (mR 11 0), some (mI x2), some (mI x3), some (mI x4)] [] s (0, 0)) (x2 : Int32) (x4 : Int32) (x3 : Int32) (s : S2) (h : b_Rule_readCondition_L15 r0 g_Rule_readUnit k15 x2 x4 s = some res) : P 15 [some (mR 17 r0), some (mR 11 0), some (mI x2), some (mI x3), some (mI x4)] [] s (0, 0) := by
  refine mgo_from hP [15] 260 ?_
  refine go_br (fun hc : (Int32.ofInt 240) ≤ x4 => ?_) (fun hc : ¬ ((Int32.ofInt 240) ≤ x4) => ?_)
  · replace h := (if_pos hc).symm.trans h
    cases h
    exact ⟨Or.inr rfl, hQ⟩
  · replace h := (if_neg hc).symm.trans h
    obtain ⟨q1, hq, h⟩ := bnd h
    refine go_call (fun _ hw => c_Tape_takes hq hw) ?_
    refine go_br (fun hc : (bI q1.2) = 0 => ?_) (fun hc : ¬ ((bI q1.2) = 0) => ?_)
    · replace h := (if_pos hc).symm.trans h
      cases h
      exact ⟨Or.inr rfl, hQ⟩
    · replace h := (if_neg hc).symm.trans h
      obtain ⟨q2, hq, h⟩ := bnd h
      refine go_call (fun _ hw => c_Rule_readTruth (fun he => hg_Rule_readUnit (by omega)) hq hw) ?_
      refine go_brn (fun hc : ¬ ((bI q2.2) = 0) => ?_) (fun hc : (bI q2.2) = 0 => ?_)
      · replace h := (if_neg hc).symm.trans h
        obtain ⟨q3, hq, h⟩ := bnd h
        refine go_call (fun _ hw => c_Rule_put hq hw) ?_
        exact hk15 _ _ _ _ h
      · replace h := (if_pos hc).symm.trans h
        cases h
        exact ⟨Or.inl rfl, hQ⟩
theorem c_Rule_readCondition_L15 {xs : Nat → Int32} {L d : Nat} {r0 : Nat} {g_Rule_readUnit : Nat → Int32 → Int32 → S2 → Option (S2 × Bool)} {P : MK S2} {Q : S2 → Option MV → Prop} {res : S2 × Bool} (hP : MClosed (O3 xs L) (kcall (O3 xs L) (d + 191)) kd_Rule_readCondition 2 Q P) (hQ : Q res.1 (some (mI (bI res.2)))) (hg_Rule_readUnit : ∀ {e : Nat}, d + 190 ≤ e → ∀ (r0 : Nat) (a2 : Int32) (a3 : Int32) (s : S2) {res : S2 × Bool} {Q : S2 → Option MV → Prop}, g_Rule_readUnit r0 a2 a3 s = some res → Q res.1 (some (mI (bI res.2))) → kcall (O3 xs L) e k_Rule_readUnit [mR 17 r0, mR 11 0, mI a2, mI a3] s Q) : ∀ (fu : Nat) (x2 : Int32) (x4 : Int32) (x3 : Int32) (s : S2), f_Rule_readCondition_L15 r0 g_Rule_readUnit fu x2 x4 s = some res → P 15 [some (mR 17 r0), some (mR 11 0), some (mI x2), some (mI x3), some (mI x4)] [] s (0, 0)
  | 0, _, _, _, _, h => by cases h
  | fu + 1, x2, x4, x3, s, h => cb_Rule_readCondition_L15 hP hQ hg_Rule_readUnit (c_Rule_readCondition_L15 hP hQ hg_Rule_readUnit fu) x2 x4 x3 s h
theorem c_Rule_readCondition {xs : Nat → Int32} {L d : Nat} {g_Rule_readUnit : Nat → Int32 → Int32 → S2 → Option (S2 × Bool)} {r0 : Nat} {a2 : Int32} {a3 : Int32} {s : S2} {res : S2 × Bool} {Q : S2 → Option MV → Prop} (hg_Rule_readUnit : ∀ {e : Nat}, d + 190 ≤ e → ∀ (r0 : Nat) (a2 : Int32) (a3 : Int32) (s : S2) {res : S2 × Bool} {Q : S2 → Option MV → Prop}, g_Rule_readUnit r0 a2 a3 s = some res → Q res.1 (some (mI (bI res.2))) → kcall (O3 xs L) e k_Rule_readUnit [mR 17 r0, mR 11 0, mI a2, mI a3] s Q) (h : f_Rule_readCondition g_Rule_readUnit r0 a2 a3 s = some res) (hQ : Q res.1 (some (mI (bI res.2)))) : kcall (O3 xs L) (d + 192) k_Rule_readCondition [mR 17 r0, mR 11 0, mI a2, mI a3] s Q := by
  refine kc_of (cd := kd_Rule_readCondition) (mx := 5) (rt := 2) rfl rfl ?_
  intro P hP
  refine mgo_sound hP [15] 260 _ _ _ _ _ ?_
  obtain ⟨q1, hq, h⟩ := bnd h
  refine go_call (fun _ hw => c_Rule_readTruth (fun he => hg_Rule_readUnit (by omega)) hq hw) ?_
  refine go_brn (fun hc : ¬ ((bI q1.2) = 0) => ?_) (fun hc : (bI q1.2) = 0 => ?_)
  · replace h := (if_neg hc).symm.trans h
    exact c_Rule_readCondition_L15 hP hQ hg_Rule_readUnit FU _ _ _ _ h
  · replace h := (if_pos hc).symm.trans h
    cases h
    exact ⟨Or.inl rfl, hQ⟩
set_option maxRecDepth 20000 in
set_option maxHeartbeats 4000000 in
theorem c_Rule_readNested {xs : Nat → Int32} {L d : Nat} {g_Rule_readUnit : Nat → Int32 → Int32 → S2 → Option (S2 × Bool)} {r0 : Nat} {a2 : Int32} {a3 : Int32} {s : S2} {res : S2 × Bool} {Q : S2 → Option MV → Prop} (hg_Rule_readUnit : ∀ {e : Nat}, d + 190 ≤ e → ∀ (r0 : Nat) (a2 : Int32) (a3 : Int32) (s : S2) {res : S2 × Bool} {Q : S2 → Option MV → Prop}, g_Rule_readUnit r0 a2 a3 s = some res → Q res.1 (some (mI (bI res.2))) → kcall (O3 xs L) e k_Rule_readUnit [mR 17 r0, mR 11 0, mI a2, mI a3] s Q) (h : f_Rule_readNested g_Rule_readUnit r0 a2 a3 s = some res) (hQ : Q res.1 (some (mI (bI res.2)))) : kcall (O3 xs L) (d + 193) k_Rule_readNested [mR 17 r0, mR 11 0, mI a2, mI a3] s Q := by
  refine kc_of (cd := kd_Rule_readNested) (mx := 4) (rt := 2) rfl rfl ?_
  intro P hP
  refine mgo_sound hP [] 260 _ _ _ _ _ ?_
  refine go_br (fun hc : a2 < (Int32.ofInt 6) => ?_) (fun hc : ¬ (a2 < (Int32.ofInt 6)) => ?_)
  · replace h := (if_pos hc).symm.trans h
    obtain ⟨q1, hq, h⟩ := bnd h
    refine go_call (fun _ hw => c_Tape_pass hq hw) ?_
    refine go_brn (fun hc : ¬ (a3 = (Int32.ofInt 40)) => ?_) (fun hc : a3 = (Int32.ofInt 40) => ?_)
    · replace h := (if_neg hc).symm.trans h
      obtain ⟨q2, hq, h⟩ := bnd h
      refine go_call (fun _ hw => hg_Rule_readUnit (by omega) _ _ _ _ hq hw) ?_
      refine go_brn (fun hc : ¬ ((bI q2.2) = 0) => ?_) (fun hc : (bI q2.2) = 0 => ?_)
      · replace h := (if_neg hc).symm.trans h
        obtain ⟨q3, hq, h⟩ := bnd h
        refine go_call (fun _ hw => c_Rule_put hq hw) ?_
        cases h
        exact ⟨Or.inr rfl, hQ⟩
      · replace h := (if_pos hc).symm.trans h
        cases h
        exact ⟨Or.inl rfl, hQ⟩
    · replace h := (if_pos hc).symm.trans h
      obtain ⟨q4, hq, h⟩ := bnd h
      refine go_call (fun _ hw => c_Rule_readCondition (fun he => hg_Rule_readUnit (by omega)) hq hw) ?_
      refine go_br (fun hc : (bI q4.2) = 0 => ?_) (fun hc : ¬ ((bI q4.2) = 0) => ?_)
      · replace h := (if_pos hc).symm.trans h
        cases h
        exact ⟨Or.inl rfl, hQ⟩
      · replace h := (if_neg hc).symm.trans h
        obtain ⟨q5, hq, h⟩ := bnd h
        refine go_call (fun _ hw => c_Tape_takes hq hw) ?_
        refine go_br (fun hc : (bI q5.2) = 0 => ?_) (fun hc : ¬ ((bI q5.2) = 0) => ?_)
        · replace h := (if_pos hc).symm.trans h
          cases h
          exact ⟨Or.inl rfl, hQ⟩
        · replace h := (if_neg hc).symm.trans h
          cases h
          exact ⟨Or.inr rfl, hQ⟩
  · replace h := (if_neg hc).symm.trans h
    cases h
    exact ⟨Or.inl rfl, hQ⟩
theorem c_Rule_readUnit_L24 {xs : Nat → Int32} {L d : Nat} {r0 : Nat} {g_Rule_readUnit : Nat → Int32 → Int32 → S2 → Option (S2 × Bool)} {P : MK S2} {Q : S2 → Option MV → Prop} {res : S2 × Bool} (hP : MClosed (O3 xs L) (kcall (O3 xs L) (d + 193)) kd_Rule_readUnit 2 Q P) (hQ : Q res.1 (some (mI (bI res.2)))) (hg_Rule_readUnit : ∀ {e : Nat}, d + 190 ≤ e → ∀ (r0 : Nat) (a2 : Int32) (a3 : Int32) (s : S2) {res : S2 × Bool} {Q : S2 → Option MV → Prop}, g_Rule_readUnit r0 a2 a3 s = some res → Q res.1 (some (mI (bI res.2))) → kcall (O3 xs L) e k_Rule_readUnit [mR 17 r0, mR 11 0, mI a2, mI a3] s Q) (x2 : Int32) (x4 : Int32) (x3 : Int32) (s : S2) (h : f_Rule_readUnit_L24 r0 g_Rule_readUnit x2 x4 s = some res) : P 24 [some (mR 17 r0), some (mR 11 0), some (mI x2), some (mI x3), some (mI x4), none] [] s (0, 0) := by
  refine mgo_from hP [24, 33, 48] 260 ?_
  obtain ⟨q1, hq, h⟩ := bnd h
  refine go_call (fun _ hw => c_Rule_readNested (fun he => hg_Rule_readUnit (by omega)) hq hw) ?_
  cases h
  exact ⟨bI_01 _, hQ⟩
theorem c_Rule_readUnit_L48 {xs : Nat → Int32} {L d : Nat} {r0 : Nat} {g_Rule_readUnit : Nat → Int32 → Int32 → S2 → Option (S2 × Bool)} {P : MK S2} {Q : S2 → Option MV → Prop} {res : S2 × Bool} (hP : MClosed (O3 xs L) (kcall (O3 xs L) (d + 193)) kd_Rule_readUnit 2 Q P) (hQ : Q res.1 (some (mI (bI res.2)))) (hg_Rule_readUnit : ∀ {e : Nat}, d + 190 ≤ e → ∀ (r0 : Nat) (a2 : Int32) (a3 : Int32) (s : S2) {res : S2 × Bool} {Q : S2 → Option MV → Prop}, g_Rule_readUnit r0 a2 a3 s = some res → Q res.1 (some (mI (bI res.2))) → kcall (O3 xs L) e k_Rule_readUnit [mR 17 r0, mR 11 0, mI a2, mI a3] s Q) (x2 : Int32) (x3 : Int32) (x4 : Int32) (s : S2) (h : f_Rule_readUnit_L48 r0 g_Rule_readUnit x2 s = some res) : P 48 [some (mR 17 r0), some (mR 11 0), some (mI x2), some (mI x3), some (mI x4), none] [] s (0, 0) := by
  refine mgo_from hP [24, 33, 48] 260 ?_
  obtain ⟨q1, hq, h⟩ := bnd h
  refine go_call (fun _ hw => c_Tape_look hq hw) ?_
  refine go_call (fun _ hw => c_Rule_isComparison hw) ?_
  refine go_brn (fun hc : ¬ ((bI (g_Rule_isComparison q1.2 q1.1)) = 0) => ?_) (fun hc : (bI (g_Rule_isComparison q1.2 q1.1)) = 0 => ?_)
  · replace h := (if_neg hc).symm.trans h
    obtain ⟨q2, hq, h⟩ := bnd h
    refine go_call (fun _ hw => c_Tape_pass hq hw) ?_
    obtain ⟨q3, hq, h⟩ := bnd h
    refine go_call (fun _ hw => c_Rule_readSum hq hw) ?_
    refine go_brn (fun hc : ¬ ((bI q3.2) = 0) => ?_) (fun hc : (bI q3.2) = 0 => ?_)
    · replace h := (if_neg hc).symm.trans h
      obtain ⟨q4, hq, h⟩ := bnd h
      refine go_call (fun _ hw => c_Rule_put hq hw) ?_
      cases h
      exact ⟨Or.inr rfl, hQ⟩
    · replace h := (if_pos hc).symm.trans h
      cases h
      exact ⟨Or.inl rfl, hQ⟩
  · replace h := (if_pos hc).symm.trans h
    cases h
    exact ⟨Or.inl rfl, hQ⟩
theorem c_Rule_readUnit_L33 {xs : Nat → Int32} {L d : Nat} {r0 : Nat} {g_Rule_readUnit : Nat → Int32 → Int32 → S2 → Option (S2 × Bool)} {P : MK S2} {Q : S2 → Option MV → Prop} {res : S2 × Bool} (hP : MClosed (O3 xs L) (kcall (O3 xs L) (d + 193)) kd_Rule_readUnit 2 Q P) (hQ : Q res.1 (some (mI (bI res.2)))) (hg_Rule_readUnit : ∀ {e : Nat}, d + 190 ≤ e → ∀ (r0 : Nat) (a2 : Int32) (a3 : Int32) (s : S2) {res : S2 × Bool} {Q : S2 → Option MV → Prop}, g_Rule_readUnit r0 a2 a3 s = some res → Q res.1 (some (mI (bI res.2))) → kcall (O3 xs L) e k_Rule_readUnit [mR 17 r0, mR 11 0, mI a2, mI a3] s Q) (x2 : Int32) (x3 : Int32) (x4 : Int32) (s : S2) (h : f_Rule_readUnit_L33 r0 g_Rule_readUnit x2 x3 s = some res) : P 33 [some (mR 17 r0), some (mR 11 0), some (mI x2), some (mI x3), some (mI x4), none] [] s (0, 0) := by
  refine mgo_from hP [24, 33, 48] 260 ?_
  refine go_brn (fun hc : ¬ (x3 = 0) => ?_) (fun hc : x3 = 0 => ?_)
  · replace h := (if_neg hc).symm.trans h
    exact c_Rule_readUnit_L48 hP hQ hg_Rule_readUnit _ _ _ _ h
  · replace h := (if_pos hc).symm.trans h
    obtain ⟨q1, hq, h⟩ := bnd h
    refine go_call (fun _ hw => c_Rule_readSum hq hw) ?_
    refine go_brn (fun hc : ¬ ((bI q1.2) = 0) => ?_) (fun hc : (bI q1.2) = 0 => ?_)
    · replace h := (if_neg hc).symm.trans h
      exact c_Rule_readUnit_L48 hP hQ hg_Rule_readUnit _ _ _ _ h
    · replace h := (if_pos hc).symm.trans h
      cases h
      exact ⟨Or.inl rfl, hQ⟩
theorem cb_Rule_readUnit {xs : Nat → Int32} {L d : Nat} {g_Rule_readUnit : Nat → Int32 → Int32 → S2 → Option (S2 × Bool)} {r0 : Nat} {a2 : Int32} {a3 : Int32} {s : S2} {res : S2 × Bool} {Q : S2 → Option MV → Prop} (hg_Rule_readUnit : ∀ {e : Nat}, d + 190 ≤ e → ∀ (r0 : Nat) (a2 : Int32) (a3 : Int32) (s : S2) {res : S2 × Bool} {Q : S2 → Option MV → Prop}, g_Rule_readUnit r0 a2 a3 s = some res → Q res.1 (some (mI (bI res.2))) → kcall (O3 xs L) e k_Rule_readUnit [mR 17 r0, mR 11 0, mI a2, mI a3] s Q) (h : fb_Rule_readUnit g_Rule_readUnit r0 a2 a3 s = some res) (hQ : Q res.1 (some (mI (bI res.2)))) : kcall (O3 xs L) (d + 194) k_Rule_readUnit [mR 17 r0, mR 11 0, mI a2, mI a3] s Q := by
  refine kc_of (cd := kd_Rule_readUnit) (mx := 6) (rt := 2) rfl rfl ?_
  intro P hP
  refine mgo_sound hP [24, 33, 48] 260 _ _ _ _ _ ?_
  obtain ⟨q1, hq, h⟩ := bnd h
  refine go_call (fun _ hw => c_Tape_look hq hw) ?_
  refine go_brn (fun hc : ¬ (a3 = 0) => ?_) (fun hc : a3 = 0 => ?_)
  · replace h := (if_neg hc).symm.trans h
    exact c_Rule_readUnit_L33 hP hQ hg_Rule_readUnit _ _ _ _ h
  · replace h := (if_pos hc).symm.trans h
    refine go_br (fun hc : q1.2 = (Int32.ofInt 33) => ?_) (fun hc : ¬ (q1.2 = (Int32.ofInt 33)) => ?_)
    · replace h := (if_pos hc).symm.trans h
      exact c_Rule_readUnit_L24 hP hQ hg_Rule_readUnit _ _ _ _ h
    · replace h := (if_neg hc).symm.trans h
      refine go_brn (fun hc : ¬ (q1.2 = (Int32.ofInt 40)) => ?_) (fun hc : q1.2 = (Int32.ofInt 40) => ?_)
      · replace h := (if_neg hc).symm.trans h
        exact c_Rule_readUnit_L33 hP hQ hg_Rule_readUnit _ _ _ _ h
      · replace h := (if_pos hc).symm.trans h
        exact c_Rule_readUnit_L24 hP hQ hg_Rule_readUnit _ _ _ _ h
theorem cn_Rule_readUnit {xs : Nat → Int32} {L : Nat} : ∀ (n : Nat) {e : Nat}, n * 20 + 194 ≤ e → ∀ (r0 : Nat) (a2 : Int32) (a3 : Int32) (s : S2) {res : S2 × Bool} {Q : S2 → Option MV → Prop}, f_Rule_readUnit n r0 a2 a3 s = some res → Q res.1 (some (mI (bI res.2))) → kcall (O3 xs L) e k_Rule_readUnit [mR 17 r0, mR 11 0, mI a2, mI a3] s Q
  | 0, _, _, _, _, _, _, _, _, h, _ => by cases h
  | n + 1, e, he, r0, a2, a3, s, res, Q, h, hQ => by
    obtain ⟨d, rfl⟩ : ∃ d, e = d + 194 := ⟨e - 194, by omega⟩
    exact cb_Rule_readUnit (fun {e} he => cn_Rule_readUnit n (by omega)) h hQ
theorem c_Rule_readUnit {xs : Nat → Int32} {L d : Nat} {r0 : Nat} {a2 : Int32} {a3 : Int32} {s : S2} {res : S2 × Bool} {Q : S2 → Option MV → Prop} (h : f_Rule_readUnit 9 r0 a2 a3 s = some res) (hQ : Q res.1 (some (mI (bI res.2)))) : kcall (O3 xs L) (d + 374) k_Rule_readUnit [mR 17 r0, mR 11 0, mI a2, mI a3] s Q := cn_Rule_readUnit 9 (by omega) _ _ _ _ h hQ
/-! D_tie -/
def f_D_tie (a1 : Int32) (a2 : Int32) (s : S2) : Option (S2 × Int32) := (if (bI (g_D_isTie a1 s)) = 0 then some (s, (Int32.ofInt (-1000000))) else (if a2 = (Int32.ofInt 0) then ((f_Sea_ofTie 0 a1 (Int32.ofInt 0) s).bind fun q1 => some (s, q1)) else (if a2 = (Int32.ofInt 1) then ((f_Sea_ofTie 0 a1 (Int32.ofInt 1) s).bind fun q2 => some (s, q2)) else (if a2 = (Int32.ofInt 2) then ((f_State_kindOf 0 a1 s).bind fun q3 => some (s, q3)) else (if a2 = (Int32.ofInt 3) then ((f_Sea_ofTie 0 a1 (Int32.ofInt 3) s).bind fun q4 => some (s, q4)) else (if a2 = (Int32.ofInt 4) then ((f_Course_pullOfTold 0 a1 s).bind fun q5 => some (q5.1, q5.2)) else some (s, (Int32.ofInt (-1000000)))))))))
set_option maxRecDepth 20000 in
set_option maxHeartbeats 4000000 in
theorem c_D_tie {xs : Nat → Int32} {L d : Nat} {a1 : Int32} {a2 : Int32} {s : S2} {res : S2 × Int32} {Q : S2 → Option MV → Prop} (h : f_D_tie a1 a2 s = some res) (hQ : Q res.1 (some (mI res.2))) : kcall (O3 xs L) (d + 5) k_D_tie [mR 10 0, mI a1, mI a2] s Q := by
  refine kc_of (cd := kd_D_tie) (mx := 3) (rt := 1) rfl rfl ?_
  intro P hP
  refine mgo_sound hP [] 260 _ _ _ _ _ ?_
  refine go_call (fun _ hw => c_D_isTie hw) ?_
  refine go_brn (fun hc : ¬ ((bI (g_D_isTie a1 s)) = 0) => ?_) (fun hc : (bI (g_D_isTie a1 s)) = 0 => ?_)
  · replace h := (if_neg hc).symm.trans h
    refine go_br (fun hc : a2 = (Int32.ofInt 0) => ?_) (fun hc : ¬ (a2 = (Int32.ofInt 0)) => ?_)
    · replace h := (if_pos hc).symm.trans h
      obtain ⟨q1, hq, h⟩ := bnd h
      refine go_call (fun _ hw => c_Sea_ofTie hq hw) ?_
      cases h
      exact hQ
    · replace h := (if_neg hc).symm.trans h
      refine go_br (fun hc : a2 = (Int32.ofInt 1) => ?_) (fun hc : ¬ (a2 = (Int32.ofInt 1)) => ?_)
      · replace h := (if_pos hc).symm.trans h
        obtain ⟨q2, hq, h⟩ := bnd h
        refine go_call (fun _ hw => c_Sea_ofTie hq hw) ?_
        cases h
        exact hQ
      · replace h := (if_neg hc).symm.trans h
        refine go_br (fun hc : a2 = (Int32.ofInt 2) => ?_) (fun hc : ¬ (a2 = (Int32.ofInt 2)) => ?_)
        · replace h := (if_pos hc).symm.trans h
          obtain ⟨q3, hq, h⟩ := bnd h
          refine go_call (fun _ hw => c_State_kindOf hq hw) ?_
          cases h
          exact hQ
        · replace h := (if_neg hc).symm.trans h
          refine go_br (fun hc : a2 = (Int32.ofInt 3) => ?_) (fun hc : ¬ (a2 = (Int32.ofInt 3)) => ?_)
          · replace h := (if_pos hc).symm.trans h
            obtain ⟨q4, hq, h⟩ := bnd h
            refine go_call (fun _ hw => c_Sea_ofTie hq hw) ?_
            cases h
            exact hQ
          · replace h := (if_neg hc).symm.trans h
            refine go_br (fun hc : a2 = (Int32.ofInt 4) => ?_) (fun hc : ¬ (a2 = (Int32.ofInt 4)) => ?_)
            · replace h := (if_pos hc).symm.trans h
              obtain ⟨q5, hq, h⟩ := bnd h
              refine go_call (fun _ hw => c_Course_pullOfTold hq hw) ?_
              cases h
              exact hQ
            · replace h := (if_neg hc).symm.trans h
              cases h
              exact hQ
  · replace h := (if_pos hc).symm.trans h
    cases h
    exact hQ
/-! D_passSeason -/
def f_D_passSeason (s : S2) : Option S2 := ((f_Course_drawByTold s).bind fun q1 => ((f_Course_pass 0 q1).bind fun q2 => ((f_Past_putBy (g_Course_parts q2) (g_Course_snapped q2) (g_Course_gone q2) q2).bind fun q3 => some q3)))
theorem c_D_passSeason {xs : Nat → Int32} {L d : Nat} {s : S2} {res : S2} {Q : S2 → Option MV → Prop} (h : f_D_passSeason s = some res) (hQ : Q res none) : kcall (O3 xs L) (d + 6) k_D_passSeason [mR 10 0] s Q := by
  refine kc_of (cd := kd_D_passSeason) (mx := 1) (rt := 0) rfl rfl ?_
  intro P hP
  refine mgo_sound hP [] 260 _ _ _ _ _ ?_
  obtain ⟨q1, hq, h⟩ := bnd h
  refine go_call (fun _ hw => c_Course_drawByTold hq hw) ?_
  obtain ⟨q2, hq, h⟩ := bnd h
  refine go_call (fun _ hw => c_Course_pass hq hw) ?_
  refine go_call (fun _ hw => c_Course_parts hw) ?_
  refine go_call (fun _ hw => c_Course_snapped hw) ?_
  refine go_call (fun _ hw => c_Course_gone hw) ?_
  obtain ⟨q3, hq, h⟩ := bnd h
  refine go_call (fun _ hw => c_Past_putBy hq hw) ?_
  cases h
  exact hQ
/-! D_years -/
def b_D_years_L30 (k30 : Int32 → Int32 → S2 → Option (S2 × Int32)) (x1 : Int32) (x4 : Int32) (s : S2) : Option (S2 × Int32) := (if x1 ≤ x4 then some (s, (g_State_season 0 s)) else ((f_Past_keep 0 s).bind fun q1 => ((f_Weather_strike 0 (g_Sea_ties 0 q1) q1).bind fun q2 => ((f_D_passSeason q2).bind fun q3 => (k30 x1 (x4 + (Int32.ofInt 1)) q3)))))
def f_D_years_L30 : Nat → Int32 → Int32 → S2 → Option (S2 × Int32)
  | 0 => fun _ _ _ => none
  | n + 1 => b_D_years_L30 (f_D_years_L30 n)
def f_D_years (a1 : Int32) (a2 : Int64) (s : S2) : Option (S2 × Int32) := (if (bI (g_D_hasSea s)) = 0 then some (s, (Int32.ofInt (-1))) else (if (bI (g_D_isWithin a1 (Int32.ofInt 1) (Int32.ofInt 60) s)) = 0 then some (s, (Int32.ofInt (-1))) else ((f_Weather_begin a2 s).bind fun q1 => (f_D_years_L30 FU a1 (Int32.ofInt 0) q1))))
theorem cb_D_years_L30 {xs : Nat → Int32} {L d : Nat} {P : MK S2} {Q : S2 → Option MV → Prop} {res : S2 × Int32} (hP : MClosed (O3 xs L) (kcall (O3 xs L) (d + 6)) kd_D_years 1 Q P) (hQ : Q res.1 (some (mI res.2))) {k30 : Int32 → Int32 → S2 → Option (S2 × Int32)} (hk30 : ∀ (x1 : Int32) (x4 : Int32) (x2 : Int64) (s : S2), k30 x1 x4 s = some res → P 30 [some (mR 10 0), some (mI x1), some (mL x2), none, some (mI x4)] [] s (0, 0)) (x1 : Int32) (x4 : Int32) (x2 : Int64) (s : S2) (h : b_D_years_L30 k30 x1 x4 s = some res) : P 30 [some (mR 10 0), some (mI x1), some (mL x2), none, some (mI x4)] [] s (0, 0) := by
  refine mgo_from hP [30] 260 ?_
  refine go_br (fun hc : x1 ≤ x4 => ?_) (fun hc : ¬ (x1 ≤ x4) => ?_)
  · replace h := (if_pos hc).symm.trans h
    refine go_call (fun _ hw => c_State_season hw) ?_
    cases h
    exact hQ
  · replace h := (if_neg hc).symm.trans h
    obtain ⟨q1, hq, h⟩ := bnd h
    refine go_call (fun _ hw => c_Past_keep hq hw) ?_
    refine go_call (fun _ hw => c_Sea_ties hw) ?_
    obtain ⟨q2, hq, h⟩ := bnd h
    refine go_call (fun _ hw => c_Weather_strike hq hw) ?_
    obtain ⟨q3, hq, h⟩ := bnd h
    refine go_call (fun _ hw => c_D_passSeason hq hw) ?_
    exact hk30 _ _ _ _ h
theorem c_D_years_L30 {xs : Nat → Int32} {L d : Nat} {P : MK S2} {Q : S2 → Option MV → Prop} {res : S2 × Int32} (hP : MClosed (O3 xs L) (kcall (O3 xs L) (d + 6)) kd_D_years 1 Q P) (hQ : Q res.1 (some (mI res.2))) : ∀ (fu : Nat) (x1 : Int32) (x4 : Int32) (x2 : Int64) (s : S2), f_D_years_L30 fu x1 x4 s = some res → P 30 [some (mR 10 0), some (mI x1), some (mL x2), none, some (mI x4)] [] s (0, 0)
  | 0, _, _, _, _, h => by cases h
  | fu + 1, x1, x4, x2, s, h => cb_D_years_L30 hP hQ (c_D_years_L30 hP hQ fu) x1 x4 x2 s h
theorem c_D_years {xs : Nat → Int32} {L d : Nat} {a1 : Int32} {a2 : Int64} {s : S2} {res : S2 × Int32} {Q : S2 → Option MV → Prop} (h : f_D_years a1 a2 s = some res) (hQ : Q res.1 (some (mI res.2))) : kcall (O3 xs L) (d + 7) k_D_years [mR 10 0, mI a1, mL a2] s Q := by
  refine kc_of (cd := kd_D_years) (mx := 5) (rt := 1) rfl rfl ?_
  intro P hP
  refine mgo_sound hP [30] 260 _ _ _ _ _ ?_
  refine go_call (fun _ hw => c_D_hasSea hw) ?_
  refine go_br (fun hc : (bI (g_D_hasSea s)) = 0 => ?_) (fun hc : ¬ ((bI (g_D_hasSea s)) = 0) => ?_)
  · replace h := (if_pos hc).symm.trans h
    cases h
    exact hQ
  · replace h := (if_neg hc).symm.trans h
    refine go_call (fun _ hw => c_D_isWithin hw) ?_
    refine go_brn (fun hc : ¬ ((bI (g_D_isWithin a1 (Int32.ofInt 1) (Int32.ofInt 60) s)) = 0) => ?_) (fun hc : (bI (g_D_isWithin a1 (Int32.ofInt 1) (Int32.ofInt 60) s)) = 0 => ?_)
    · replace h := (if_neg hc).symm.trans h
      obtain ⟨q1, hq, h⟩ := bnd h
      refine go_call (fun _ hw => c_Weather_begin hq hw) ?_
      exact c_D_years_L30 hP hQ FU _ _ _ _ h
    · replace h := (if_pos hc).symm.trans h
      cases h
      exact hQ
/-! D_led -/
def f_D_led (a1 : Int32) (a2 : Int32) (a3 : Int32) (s : S2) : Option (S2 × Int32) := (if (bI (g_D_isIsle a1 s)) = 0 then some (s, (Int32.ofInt (-1000000))) else (if (bI (g_D_isTie a2 s)) = 0 then some (s, (Int32.ofInt (-1000000))) else (if (bI (g_D_isWithin a3 (Int32.ofInt 0) (Int32.ofInt 1) s)) = 0 then some (s, (Int32.ofInt (-1000000))) else ((f_Course_ledByTold 0 a1 a2 a3 s).bind fun q1 => some (q1.1, q1.2)))))
theorem c_D_led {xs : Nat → Int32} {L d : Nat} {a1 : Int32} {a2 : Int32} {a3 : Int32} {s : S2} {res : S2 × Int32} {Q : S2 → Option MV → Prop} (h : f_D_led a1 a2 a3 s = some res) (hQ : Q res.1 (some (mI res.2))) : kcall (O3 xs L) (d + 6) k_D_led [mR 10 0, mI a1, mI a2, mI a3] s Q := by
  refine kc_of (cd := kd_D_led) (mx := 4) (rt := 1) rfl rfl ?_
  intro P hP
  refine mgo_sound hP [] 260 _ _ _ _ _ ?_
  refine go_call (fun _ hw => c_D_isIsle hw) ?_
  refine go_br (fun hc : (bI (g_D_isIsle a1 s)) = 0 => ?_) (fun hc : ¬ ((bI (g_D_isIsle a1 s)) = 0) => ?_)
  · replace h := (if_pos hc).symm.trans h
    cases h
    exact hQ
  · replace h := (if_neg hc).symm.trans h
    refine go_call (fun _ hw => c_D_isTie hw) ?_
    refine go_br (fun hc : (bI (g_D_isTie a2 s)) = 0 => ?_) (fun hc : ¬ ((bI (g_D_isTie a2 s)) = 0) => ?_)
    · replace h := (if_pos hc).symm.trans h
      cases h
      exact hQ
    · replace h := (if_neg hc).symm.trans h
      refine go_call (fun _ hw => c_D_isWithin hw) ?_
      refine go_brn (fun hc : ¬ ((bI (g_D_isWithin a3 (Int32.ofInt 0) (Int32.ofInt 1) s)) = 0) => ?_) (fun hc : (bI (g_D_isWithin a3 (Int32.ofInt 0) (Int32.ofInt 1) s)) = 0 => ?_)
      · replace h := (if_neg hc).symm.trans h
        obtain ⟨q1, hq, h⟩ := bnd h
        refine go_call (fun _ hw => c_Course_ledByTold hq hw) ?_
        cases h
        exact hQ
      · replace h := (if_pos hc).symm.trans h
        cases h
        exact hQ
/-! D_ahead -/
def f_D_ahead (a1 : Int32) (a2 : Int32) (a3 : Int32) (s : S2) : Option (S2 × Int32) := (if (bI (g_D_isIsle a1 s)) = 0 then some (s, (Int32.ofInt (-1000000))) else (if (bI (g_D_isWithin a2 (Int32.ofInt 1) (Int32.ofInt 60) s)) = 0 then some (s, (Int32.ofInt (-1000000))) else (if (bI (g_D_isWithin a3 (Int32.ofInt 0) (Int32.ofInt 2) s)) = 0 then some (s, (Int32.ofInt (-1000000))) else ((f_Forecast_placeBehind a1 a2 a3 s).bind fun q1 => some (q1.1, q1.2)))))
theorem c_D_ahead {xs : Nat → Int32} {L d : Nat} {a1 : Int32} {a2 : Int32} {a3 : Int32} {s : S2} {res : S2 × Int32} {Q : S2 → Option MV → Prop} (h : f_D_ahead a1 a2 a3 s = some res) (hQ : Q res.1 (some (mI res.2))) : kcall (O3 xs L) (d + 7) k_D_ahead [mR 10 0, mI a1, mI a2, mI a3] s Q := by
  refine kc_of (cd := kd_D_ahead) (mx := 4) (rt := 1) rfl rfl ?_
  intro P hP
  refine mgo_sound hP [] 260 _ _ _ _ _ ?_
  refine go_call (fun _ hw => c_D_isIsle hw) ?_
  refine go_br (fun hc : (bI (g_D_isIsle a1 s)) = 0 => ?_) (fun hc : ¬ ((bI (g_D_isIsle a1 s)) = 0) => ?_)
  · replace h := (if_pos hc).symm.trans h
    cases h
    exact hQ
  · replace h := (if_neg hc).symm.trans h
    refine go_call (fun _ hw => c_D_isWithin hw) ?_
    refine go_br (fun hc : (bI (g_D_isWithin a2 (Int32.ofInt 1) (Int32.ofInt 60) s)) = 0 => ?_) (fun hc : ¬ ((bI (g_D_isWithin a2 (Int32.ofInt 1) (Int32.ofInt 60) s)) = 0) => ?_)
    · replace h := (if_pos hc).symm.trans h
      cases h
      exact hQ
    · replace h := (if_neg hc).symm.trans h
      refine go_call (fun _ hw => c_D_isWithin hw) ?_
      refine go_brn (fun hc : ¬ ((bI (g_D_isWithin a3 (Int32.ofInt 0) (Int32.ofInt 2) s)) = 0) => ?_) (fun hc : (bI (g_D_isWithin a3 (Int32.ofInt 0) (Int32.ofInt 2) s)) = 0 => ?_)
      · replace h := (if_neg hc).symm.trans h
        obtain ⟨q1, hq, h⟩ := bnd h
        refine go_call (fun _ hw => c_Forecast_placeBehind hq hw) ?_
        cases h
        exact hQ
      · replace h := (if_pos hc).symm.trans h
        cases h
        exact hQ
/-! D_rest -/
def f_D_rest (a1 : Int32) (s : S2) : Option (S2 × Int32) := (if (bI (g_D_hasSea s)) = 0 then some (s, (Int32.ofInt (-1))) else (if (bI (g_D_isWithin a1 (Int32.ofInt 0) (Int32.ofInt 60) s)) = 0 then some (s, (Int32.ofInt (-1))) else ((f_Forecast_restsBehind a1 s).bind fun q1 => some (q1.1, q1.2))))
theorem c_D_rest {xs : Nat → Int32} {L d : Nat} {a1 : Int32} {s : S2} {res : S2 × Int32} {Q : S2 → Option MV → Prop} (h : f_D_rest a1 s = some res) (hQ : Q res.1 (some (mI res.2))) : kcall (O3 xs L) (d + 7) k_D_rest [mR 10 0, mI a1] s Q := by
  refine kc_of (cd := kd_D_rest) (mx := 2) (rt := 1) rfl rfl ?_
  intro P hP
  refine mgo_sound hP [] 260 _ _ _ _ _ ?_
  refine go_call (fun _ hw => c_D_hasSea hw) ?_
  refine go_br (fun hc : (bI (g_D_hasSea s)) = 0 => ?_) (fun hc : ¬ ((bI (g_D_hasSea s)) = 0) => ?_)
  · replace h := (if_pos hc).symm.trans h
    cases h
    exact hQ
  · replace h := (if_neg hc).symm.trans h
    refine go_call (fun _ hw => c_D_isWithin hw) ?_
    refine go_br (fun hc : (bI (g_D_isWithin a1 (Int32.ofInt 0) (Int32.ofInt 60) s)) = 0 => ?_) (fun hc : ¬ ((bI (g_D_isWithin a1 (Int32.ofInt 0) (Int32.ofInt 60) s)) = 0) => ?_)
    · replace h := (if_pos hc).symm.trans h
      cases h
      exact hQ
    · replace h := (if_neg hc).symm.trans h
      obtain ⟨q1, hq, h⟩ := bnd h
      refine go_call (fun _ hw => c_Forecast_restsBehind hq hw) ?_
      cases h
      exact hQ
/-! D_round -/
def f_D_round_L43 (y1 : Int32) (y2 : Int32) (s : S2) : Option (S2 × Int32) := ((f_Forecast_roundBehind y1 y2 s).bind fun q1 => some (q1.1, q1.2))
def f_D_round (a1 : Int32) (a2 : Int32) (s : S2) : Option (S2 × Int32) := (if (bI (g_D_hasSea s)) = 0 then some (s, (Int32.ofInt (-1))) else (if (bI (g_D_isWithin a1 (Int32.ofInt 1) (Int32.ofInt 60) s)) = 0 then some (s, (Int32.ofInt (-1))) else (if (bI (g_D_isWithin a2 (Int32.ofInt 0) (Int32.ofInt 1) s)) = 0 then some (s, (Int32.ofInt (-1))) else (if a2 = (Int32.ofInt 1) then (f_D_round_L43 a1 (Int32.ofInt 1) s) else (f_D_round_L43 a1 (Int32.ofInt 0) s)))))
theorem c_D_round_L43 {xs : Nat → Int32} {L d : Nat} {P : MK S2} {Q : S2 → Option MV → Prop} {res : S2 × Int32} (hP : MClosed (O3 xs L) (kcall (O3 xs L) (d + 6)) kd_D_round 1 Q P) (hQ : Q res.1 (some (mI res.2))) (y1 : Int32) (y2 : Int32) (x1 : Int32) (x2 : Int32) (s : S2) (h : f_D_round_L43 y1 y2 s = some res) : P 43 [some (mR 10 0), some (mI x1), some (mI x2)] [mI y2, mI y1, mR 41 0] s (0, 0) := by
  refine mgo_from hP [43] 260 ?_
  obtain ⟨q1, hq, h⟩ := bnd h
  refine go_call (fun _ hw => c_Forecast_roundBehind hq hw) ?_
  cases h
  exact hQ
set_option maxRecDepth 20000 in
set_option maxHeartbeats 4000000 in
theorem c_D_round {xs : Nat → Int32} {L d : Nat} {a1 : Int32} {a2 : Int32} {s : S2} {res : S2 × Int32} {Q : S2 → Option MV → Prop} (h : f_D_round a1 a2 s = some res) (hQ : Q res.1 (some (mI res.2))) : kcall (O3 xs L) (d + 7) k_D_round [mR 10 0, mI a1, mI a2] s Q := by
  refine kc_of (cd := kd_D_round) (mx := 3) (rt := 1) rfl rfl ?_
  intro P hP
  refine mgo_sound hP [43] 260 _ _ _ _ _ ?_
  refine go_call (fun _ hw => c_D_hasSea hw) ?_
  refine go_br (fun hc : (bI (g_D_hasSea s)) = 0 => ?_) (fun hc : ¬ ((bI (g_D_hasSea s)) = 0) => ?_)
  · replace h := (if_pos hc).symm.trans h
    cases h
    exact hQ
  · replace h := (if_neg hc).symm.trans h
    refine go_call (fun _ hw => c_D_isWithin hw) ?_
    refine go_br (fun hc : (bI (g_D_isWithin a1 (Int32.ofInt 1) (Int32.ofInt 60) s)) = 0 => ?_) (fun hc : ¬ ((bI (g_D_isWithin a1 (Int32.ofInt 1) (Int32.ofInt 60) s)) = 0) => ?_)
    · replace h := (if_pos hc).symm.trans h
      cases h
      exact hQ
    · replace h := (if_neg hc).symm.trans h
      refine go_call (fun _ hw => c_D_isWithin hw) ?_
      refine go_brn (fun hc : ¬ ((bI (g_D_isWithin a2 (Int32.ofInt 0) (Int32.ofInt 1) s)) = 0) => ?_) (fun hc : (bI (g_D_isWithin a2 (Int32.ofInt 0) (Int32.ofInt 1) s)) = 0 => ?_)
      · replace h := (if_neg hc).symm.trans h
        refine go_brn (fun hc : ¬ (a2 = (Int32.ofInt 1)) => ?_) (fun hc : a2 = (Int32.ofInt 1) => ?_)
        · replace h := (if_neg hc).symm.trans h
          exact c_D_round_L43 hP hQ _ _ _ _ _ h
        · replace h := (if_pos hc).symm.trans h
          exact c_D_round_L43 hP hQ _ _ _ _ _ h
      · replace h := (if_pos hc).symm.trans h
        cases h
        exact hQ
/-! D_one -/
def f_D_one (a1 : Int32) (a2 : Int32) (a3 : Int32) (s : S2) : Option (S2 × Int32) := (if (bI (g_D_areTwo a1 a2 s)) = 0 then some (s, (Int32.ofInt (-1))) else (if (bI (g_D_isWithin a3 (Int32.ofInt 1) (Int32.ofInt 60) s)) = 0 then some (s, (Int32.ofInt (-1))) else ((f_Forecast_oneBehind a1 a2 a3 s).bind fun q1 => some (q1.1, q1.2))))
theorem c_D_one {xs : Nat → Int32} {L d : Nat} {a1 : Int32} {a2 : Int32} {a3 : Int32} {s : S2} {res : S2 × Int32} {Q : S2 → Option MV → Prop} (h : f_D_one a1 a2 a3 s = some res) (hQ : Q res.1 (some (mI res.2))) : kcall (O3 xs L) (d + 7) k_D_one [mR 10 0, mI a1, mI a2, mI a3] s Q := by
  refine kc_of (cd := kd_D_one) (mx := 4) (rt := 1) rfl rfl ?_
  intro P hP
  refine mgo_sound hP [] 260 _ _ _ _ _ ?_
  refine go_call (fun _ hw => c_D_areTwo hw) ?_
  refine go_br (fun hc : (bI (g_D_areTwo a1 a2 s)) = 0 => ?_) (fun hc : ¬ ((bI (g_D_areTwo a1 a2 s)) = 0) => ?_)
  · replace h := (if_pos hc).symm.trans h
    cases h
    exact hQ
  · replace h := (if_neg hc).symm.trans h
    refine go_call (fun _ hw => c_D_isWithin hw) ?_
    refine go_br (fun hc : (bI (g_D_isWithin a3 (Int32.ofInt 1) (Int32.ofInt 60) s)) = 0 => ?_) (fun hc : ¬ ((bI (g_D_isWithin a3 (Int32.ofInt 1) (Int32.ofInt 60) s)) = 0) => ?_)
    · replace h := (if_pos hc).symm.trans h
      cases h
      exact hQ
    · replace h := (if_neg hc).symm.trans h
      obtain ⟨q1, hq, h⟩ := bnd h
      refine go_call (fun _ hw => c_Forecast_oneBehind hq hw) ?_
      cases h
      exact hQ
/-! D_nearest -/
def f_D_nearest_L49 (y1 : Int32) (y2 : Int32) (y3 : Int32) (y4 : Int32) (s : S2) : Option (S2 × Int32) := ((f_Forecast_leastApart y1 y2 y3 y4 s).bind fun q1 => some (q1.1, q1.2))
def f_D_nearest (a1 : Int32) (a2 : Int32) (a3 : Int32) (a4 : Int32) (s : S2) : Option (S2 × Int32) := (if (bI (g_D_areTwo a1 a2 s)) = 0 then some (s, (Int32.ofInt (-1))) else (if (bI (g_D_isWithin a3 (Int32.ofInt 0) (Int32.ofInt 60) s)) = 0 then some (s, (Int32.ofInt (-1))) else (if (bI (g_D_isWithin a4 (Int32.ofInt 0) (Int32.ofInt 1) s)) = 0 then some (s, (Int32.ofInt (-1))) else (if a4 = (Int32.ofInt 1) then (f_D_nearest_L49 a1 a2 a3 (Int32.ofInt 1) s) else (f_D_nearest_L49 a1 a2 a3 (Int32.ofInt 0) s)))))
theorem c_D_nearest_L49 {xs : Nat → Int32} {L d : Nat} {P : MK S2} {Q : S2 → Option MV → Prop} {res : S2 × Int32} (hP : MClosed (O3 xs L) (kcall (O3 xs L) (d + 6)) kd_D_nearest 1 Q P) (hQ : Q res.1 (some (mI res.2))) (y1 : Int32) (y2 : Int32) (y3 : Int32) (y4 : Int32) (x1 : Int32) (x2 : Int32) (x3 : Int32) (x4 : Int32) (s : S2) (h : f_D_nearest_L49 y1 y2 y3 y4 s = some res) : P 49 [some (mR 10 0), some (mI x1), some (mI x2), some (mI x3), some (mI x4)] [mI y4, mI y3, mI y2, mI y1, mR 41 0] s (0, 0) := by
  refine mgo_from hP [49] 260 ?_
  obtain ⟨q1, hq, h⟩ := bnd h
  refine go_call (fun _ hw => c_Forecast_leastApart hq hw) ?_
  cases h
  exact hQ
set_option maxRecDepth 20000 in
set_option maxHeartbeats 4000000 in
theorem c_D_nearest {xs : Nat → Int32} {L d : Nat} {a1 : Int32} {a2 : Int32} {a3 : Int32} {a4 : Int32} {s : S2} {res : S2 × Int32} {Q : S2 → Option MV → Prop} (h : f_D_nearest a1 a2 a3 a4 s = some res) (hQ : Q res.1 (some (mI res.2))) : kcall (O3 xs L) (d + 7) k_D_nearest [mR 10 0, mI a1, mI a2, mI a3, mI a4] s Q := by
  refine kc_of (cd := kd_D_nearest) (mx := 5) (rt := 1) rfl rfl ?_
  intro P hP
  refine mgo_sound hP [49] 260 _ _ _ _ _ ?_
  refine go_call (fun _ hw => c_D_areTwo hw) ?_
  refine go_br (fun hc : (bI (g_D_areTwo a1 a2 s)) = 0 => ?_) (fun hc : ¬ ((bI (g_D_areTwo a1 a2 s)) = 0) => ?_)
  · replace h := (if_pos hc).symm.trans h
    cases h
    exact hQ
  · replace h := (if_neg hc).symm.trans h
    refine go_call (fun _ hw => c_D_isWithin hw) ?_
    refine go_br (fun hc : (bI (g_D_isWithin a3 (Int32.ofInt 0) (Int32.ofInt 60) s)) = 0 => ?_) (fun hc : ¬ ((bI (g_D_isWithin a3 (Int32.ofInt 0) (Int32.ofInt 60) s)) = 0) => ?_)
    · replace h := (if_pos hc).symm.trans h
      cases h
      exact hQ
    · replace h := (if_neg hc).symm.trans h
      refine go_call (fun _ hw => c_D_isWithin hw) ?_
      refine go_brn (fun hc : ¬ ((bI (g_D_isWithin a4 (Int32.ofInt 0) (Int32.ofInt 1) s)) = 0) => ?_) (fun hc : (bI (g_D_isWithin a4 (Int32.ofInt 0) (Int32.ofInt 1) s)) = 0 => ?_)
      · replace h := (if_neg hc).symm.trans h
        refine go_brn (fun hc : ¬ (a4 = (Int32.ofInt 1)) => ?_) (fun hc : a4 = (Int32.ofInt 1) => ?_)
        · replace h := (if_neg hc).symm.trans h
          exact c_D_nearest_L49 hP hQ _ _ _ _ _ _ _ _ _ h
        · replace h := (if_pos hc).symm.trans h
          exact c_D_nearest_L49 hP hQ _ _ _ _ _ _ _ _ _ h
      · replace h := (if_pos hc).symm.trans h
        cases h
        exact hQ
/-! D_snap -/
def f_D_snap (a1 : Int32) (s : S2) : Option (S2 × Int32) := (if (bI (g_D_isBridge a1 s)) = 0 then some (s, (Int32.ofInt (-1))) else ((f_Forecast_snappedBehind a1 s).bind fun q1 => some (q1.1, q1.2)))
theorem c_D_snap {xs : Nat → Int32} {L d : Nat} {a1 : Int32} {s : S2} {res : S2 × Int32} {Q : S2 → Option MV → Prop} (h : f_D_snap a1 s = some res) (hQ : Q res.1 (some (mI res.2))) : kcall (O3 xs L) (d + 7) k_D_snap [mR 10 0, mI a1] s Q := by
  refine kc_of (cd := kd_D_snap) (mx := 2) (rt := 1) rfl rfl ?_
  intro P hP
  refine mgo_sound hP [] 260 _ _ _ _ _ ?_
  refine go_call (fun _ hw => c_D_isBridge hw) ?_
  refine go_br (fun hc : (bI (g_D_isBridge a1 s)) = 0 => ?_) (fun hc : ¬ ((bI (g_D_isBridge a1 s)) = 0) => ?_)
  · replace h := (if_pos hc).symm.trans h
    cases h
    exact hQ
  · replace h := (if_neg hc).symm.trans h
    obtain ⟨q1, hq, h⟩ := bnd h
    refine go_call (fun _ hw => c_Forecast_snappedBehind hq hw) ?_
    cases h
    exact hQ
/-! D_sail -/
def f_D_sail (a1 : Int32) (a2 : Int32) (a3 : Int32) (a4 : Int32) (s : S2) : Option (S2 × Int32) := (if (bI (g_D_areTwo a1 a2 s)) = 0 then some (s, (Int32.ofInt (-1))) else (if (bI (g_D_isWithin a3 (Int32.ofInt 1) (Int32.ofInt 99) s)) = 0 then some (s, (Int32.ofInt (-1))) else (if (bI (g_D_isWithin a4 (Int32.ofInt 0) (Int32.ofInt 1) s)) = 0 then some (s, (Int32.ofInt (-1))) else ((f_Forecast_recordWay a2 (Int32.ofInt 60) s).bind fun q1 => ((f_Forecast_thereBehind a1 a3 (Int32.ofInt 60) q1).bind fun q2 => (if a4 = 0 then some (q2.1, q2.2) else (if q2.2 = (Int32.ofInt (-1)) then some (q2.1, q2.2) else ((f_Forecast_wasOvertaken q2.1).bind fun q3 => (if (bI q3) = 0 then some (q2.1, (Int32.ofInt 0)) else some (q2.1, (Int32.ofInt 1)))))))))))
set_option maxRecDepth 20000 in
set_option maxHeartbeats 4000000 in
theorem c_D_sail {xs : Nat → Int32} {L d : Nat} {a1 : Int32} {a2 : Int32} {a3 : Int32} {a4 : Int32} {s : S2} {res : S2 × Int32} {Q : S2 → Option MV → Prop} (h : f_D_sail a1 a2 a3 a4 s = some res) (hQ : Q res.1 (some (mI res.2))) : kcall (O3 xs L) (d + 7) k_D_sail [mR 10 0, mI a1, mI a2, mI a3, mI a4] s Q := by
  refine kc_of (cd := kd_D_sail) (mx := 6) (rt := 1) rfl rfl ?_
  intro P hP
  refine mgo_sound hP [] 260 _ _ _ _ _ ?_
  refine go_call (fun _ hw => c_D_areTwo hw) ?_
  refine go_br (fun hc : (bI (g_D_areTwo a1 a2 s)) = 0 => ?_) (fun hc : ¬ ((bI (g_D_areTwo a1 a2 s)) = 0) => ?_)
  · replace h := (if_pos hc).symm.trans h
    cases h
    exact hQ
  · replace h := (if_neg hc).symm.trans h
    refine go_call (fun _ hw => c_D_isWithin hw) ?_
    refine go_br (fun hc : (bI (g_D_isWithin a3 (Int32.ofInt 1) (Int32.ofInt 99) s)) = 0 => ?_) (fun hc : ¬ ((bI (g_D_isWithin a3 (Int32.ofInt 1) (Int32.ofInt 99) s)) = 0) => ?_)
    · replace h := (if_pos hc).symm.trans h
      cases h
      exact hQ
    · replace h := (if_neg hc).symm.trans h
      refine go_call (fun _ hw => c_D_isWithin hw) ?_
      refine go_brn (fun hc : ¬ ((bI (g_D_isWithin a4 (Int32.ofInt 0) (Int32.ofInt 1) s)) = 0) => ?_) (fun hc : (bI (g_D_isWithin a4 (Int32.ofInt 0) (Int32.ofInt 1) s)) = 0 => ?_)
      · replace h := (if_neg hc).symm.trans h
        obtain ⟨q1, hq, h⟩ := bnd h
        refine go_call (fun _ hw => c_Forecast_recordWay hq hw) ?_
        obtain ⟨q2, hq, h⟩ := bnd h
        refine go_call (fun _ hw => c_Forecast_thereBehind hq hw) ?_
        refine go_br (fun hc : a4 = 0 => ?_) (fun hc : ¬ (a4 = 0) => ?_)
        · replace h := (if_pos hc).symm.trans h
          cases h
          exact hQ
        · replace h := (if_neg hc).symm.trans h
          refine go_brn (fun hc : ¬ (q2.2 = (Int32.ofInt (-1))) => ?_) (fun hc : q2.2 = (Int32.ofInt (-1)) => ?_)
          · replace h := (if_neg hc).symm.trans h
            obtain ⟨q3, hq, h⟩ := bnd h
            refine go_call (fun _ hw => c_Forecast_wasOvertaken hq hw) ?_
            refine go_br (fun hc : (bI q3) = 0 => ?_) (fun hc : ¬ ((bI q3) = 0) => ?_)
            · replace h := (if_pos hc).symm.trans h
              cases h
              exact hQ
            · replace h := (if_neg hc).symm.trans h
              cases h
              exact hQ
          · replace h := (if_pos hc).symm.trans h
            cases h
            exact hQ
      · replace h := (if_pos hc).symm.trans h
        cases h
        exact hQ
/-! D_haste -/
def f_D_haste (a1 : Int32) (a2 : Int32) (a3 : Int32) (s : S2) : Option (S2 × Int32) := (if (bI (g_D_areTwo a1 a2 s)) = 0 then some (s, (Int32.ofInt (-1))) else (if (bI (g_D_isWithin a3 (Int32.ofInt 1) (Int32.ofInt 60) s)) = 0 then some (s, (Int32.ofInt (-1))) else ((f_Forecast_leastSpeed a1 a2 a3 s).bind fun q1 => some (q1.1, q1.2))))
theorem c_D_haste {xs : Nat → Int32} {L d : Nat} {a1 : Int32} {a2 : Int32} {a3 : Int32} {s : S2} {res : S2 × Int32} {Q : S2 → Option MV → Prop} (h : f_D_haste a1 a2 a3 s = some res) (hQ : Q res.1 (some (mI res.2))) : kcall (O3 xs L) (d + 8) k_D_haste [mR 10 0, mI a1, mI a2, mI a3] s Q := by
  refine kc_of (cd := kd_D_haste) (mx := 4) (rt := 1) rfl rfl ?_
  intro P hP
  refine mgo_sound hP [] 260 _ _ _ _ _ ?_
  refine go_call (fun _ hw => c_D_areTwo hw) ?_
  refine go_br (fun hc : (bI (g_D_areTwo a1 a2 s)) = 0 => ?_) (fun hc : ¬ ((bI (g_D_areTwo a1 a2 s)) = 0) => ?_)
  · replace h := (if_pos hc).symm.trans h
    cases h
    exact hQ
  · replace h := (if_neg hc).symm.trans h
    refine go_call (fun _ hw => c_D_isWithin hw) ?_
    refine go_br (fun hc : (bI (g_D_isWithin a3 (Int32.ofInt 1) (Int32.ofInt 60) s)) = 0 => ?_) (fun hc : ¬ ((bI (g_D_isWithin a3 (Int32.ofInt 1) (Int32.ofInt 60) s)) = 0) => ?_)
    · replace h := (if_pos hc).symm.trans h
      cases h
      exact hQ
    · replace h := (if_neg hc).symm.trans h
      obtain ⟨q1, hq, h⟩ := bnd h
      refine go_call (fun _ hw => c_Forecast_leastSpeed hq hw) ?_
      cases h
      exact hQ
/-! D_treaty -/
def b_D_treaty_L65 (k65 : Int32 → S2 → Option (S2 × Int32)) (x5 : Int32) (s : S2) : Option (S2 × Int32) := (if (Int32.ofInt 576) ≤ x5 then some (s, (Int32.ofInt (-1))) else ((f_Deals_bringsTogether s).bind fun q1 => (if (bI q1.2) = 0 then ((f_Deals_pickNext q1.1).bind fun q2 => (if (bI q2.2) = 0 then some (q2.1, (Int32.ofInt (-1))) else (k65 (x5 + (Int32.ofInt 1)) q2.1))) else ((f_Deals_pickedRow q1.1).bind fun q3 => some (q1.1, q3)))))
def f_D_treaty_L65 : Nat → Int32 → S2 → Option (S2 × Int32)
  | 0 => fun _ _ => none
  | n + 1 => b_D_treaty_L65 (f_D_treaty_L65 n)
def f_D_treaty (a1 : Int32) (a2 : Int32) (a3 : Int32) (a4 : Int32) (s : S2) : Option (S2 × Int32) := (if (bI (g_D_isPair a1 s)) = 0 then some (s, (Int32.ofInt (-1))) else (if (bI (g_D_isWithin a2 (Int32.ofInt 0) (Int32.ofInt 999) s)) = 0 then some (s, (Int32.ofInt (-1))) else (if (bI (g_D_isWithin a3 (Int32.ofInt 1) (Int32.ofInt 20) s)) = 0 then some (s, (Int32.ofInt (-1))) else (if (bI (g_D_isWithin a4 (Int32.ofInt 1) (Int32.ofInt 9) s)) = 0 then some (s, (Int32.ofInt (-1))) else ((f_Deals_aim (a1 / (Int32.ofInt 10)) (jrem a1 (Int32.ofInt 10)) (Int32.ofInt 0) a2 a3 a4 s).bind fun q1 => (f_D_treaty_L65 FU (Int32.ofInt 0) q1))))))
theorem cb_D_treaty_L65 {xs : Nat → Int32} {L d : Nat} {P : MK S2} {Q : S2 → Option MV → Prop} {res : S2 × Int32} (hP : MClosed (O3 xs L) (kcall (O3 xs L) (d + 6)) kd_D_treaty 1 Q P) (hQ : Q res.1 (some (mI res.2))) {k65 : Int32 → S2 → Option (S2 × Int32)} (hk65 : ∀ (x5 : Int32) (x1 : Int32) (x2 : Int32) (x3 : Int32) (x4 : Int32) (s : S2), k65 x5 s = some res → P 65 [some (mR 10 0), some (mI x1), some (mI x2), some (mI x3), some (mI x4), some (mI x5)] [] s (0, 0)) (x5 : Int32) (x1 : Int32) (x2 : Int32) (x3 : Int32) (x4 : Int32) (s : S2) (h : b_D_treaty_L65 k65 x5 s = some res) : P 65 [some (mR 10 0), some (mI x1), some (mI x2), some (mI x3), some (mI x4), some (mI x5)] [] s (0, 0) := by
  refine mgo_from hP [65] 260 ?_
  refine go_br (fun hc : (Int32.ofInt 576) ≤ x5 => ?_) (fun hc : ¬ ((Int32.ofInt 576) ≤ x5) => ?_)
  · replace h := (if_pos hc).symm.trans h
    cases h
    exact hQ
  · replace h := (if_neg hc).symm.trans h
    obtain ⟨q1, hq, h⟩ := bnd h
    refine go_call (fun _ hw => c_Deals_bringsTogether hq hw) ?_
    refine go_br (fun hc : (bI q1.2) = 0 => ?_) (fun hc : ¬ ((bI q1.2) = 0) => ?_)
    · replace h := (if_pos hc).symm.trans h
      obtain ⟨q2, hq, h⟩ := bnd h
      refine go_call (fun _ hw => c_Deals_pickNext hq hw) ?_
      refine go_brn (fun hc : ¬ ((bI q2.2) = 0) => ?_) (fun hc : (bI q2.2) = 0 => ?_)
      · replace h := (if_neg hc).symm.trans h
        exact hk65 _ _ _ _ _ _ h
      · replace h := (if_pos hc).symm.trans h
        cases h
        exact hQ
    · replace h := (if_neg hc).symm.trans h
      obtain ⟨q3, hq, h⟩ := bnd h
      refine go_call (fun _ hw => c_Deals_pickedRow hq hw) ?_
      cases h
      exact hQ
theorem c_D_treaty_L65 {xs : Nat → Int32} {L d : Nat} {P : MK S2} {Q : S2 → Option MV → Prop} {res : S2 × Int32} (hP : MClosed (O3 xs L) (kcall (O3 xs L) (d + 6)) kd_D_treaty 1 Q P) (hQ : Q res.1 (some (mI res.2))) : ∀ (fu : Nat) (x5 : Int32) (x1 : Int32) (x2 : Int32) (x3 : Int32) (x4 : Int32) (s : S2), f_D_treaty_L65 fu x5 s = some res → P 65 [some (mR 10 0), some (mI x1), some (mI x2), some (mI x3), some (mI x4), some (mI x5)] [] s (0, 0)
  | 0, _, _, _, _, _, _, h => by cases h
  | fu + 1, x5, x1, x2, x3, x4, s, h => cb_D_treaty_L65 hP hQ (c_D_treaty_L65 hP hQ fu) x5 x1 x2 x3 x4 s h
set_option maxRecDepth 20000 in
set_option maxHeartbeats 4000000 in
theorem c_D_treaty {xs : Nat → Int32} {L d : Nat} {a1 : Int32} {a2 : Int32} {a3 : Int32} {a4 : Int32} {s : S2} {res : S2 × Int32} {Q : S2 → Option MV → Prop} (h : f_D_treaty a1 a2 a3 a4 s = some res) (hQ : Q res.1 (some (mI res.2))) : kcall (O3 xs L) (d + 7) k_D_treaty [mR 10 0, mI a1, mI a2, mI a3, mI a4] s Q := by
  refine kc_of (cd := kd_D_treaty) (mx := 6) (rt := 1) rfl rfl ?_
  intro P hP
  refine mgo_sound hP [65] 260 _ _ _ _ _ ?_
  refine go_call (fun _ hw => c_D_isPair hw) ?_
  refine go_br (fun hc : (bI (g_D_isPair a1 s)) = 0 => ?_) (fun hc : ¬ ((bI (g_D_isPair a1 s)) = 0) => ?_)
  · replace h := (if_pos hc).symm.trans h
    cases h
    exact hQ
  · replace h := (if_neg hc).symm.trans h
    refine go_call (fun _ hw => c_D_isWithin hw) ?_
    refine go_br (fun hc : (bI (g_D_isWithin a2 (Int32.ofInt 0) (Int32.ofInt 999) s)) = 0 => ?_) (fun hc : ¬ ((bI (g_D_isWithin a2 (Int32.ofInt 0) (Int32.ofInt 999) s)) = 0) => ?_)
    · replace h := (if_pos hc).symm.trans h
      cases h
      exact hQ
    · replace h := (if_neg hc).symm.trans h
      refine go_call (fun _ hw => c_D_isWithin hw) ?_
      refine go_br (fun hc : (bI (g_D_isWithin a3 (Int32.ofInt 1) (Int32.ofInt 20) s)) = 0 => ?_) (fun hc : ¬ ((bI (g_D_isWithin a3 (Int32.ofInt 1) (Int32.ofInt 20) s)) = 0) => ?_)
      · replace h := (if_pos hc).symm.trans h
        cases h
        exact hQ
      · replace h := (if_neg hc).symm.trans h
        refine go_call (fun _ hw => c_D_isWithin hw) ?_
        refine go_brn (fun hc : ¬ ((bI (g_D_isWithin a4 (Int32.ofInt 1) (Int32.ofInt 9) s)) = 0) => ?_) (fun hc : (bI (g_D_isWithin a4 (Int32.ofInt 1) (Int32.ofInt 9) s)) = 0 => ?_)
        · replace h := (if_neg hc).symm.trans h
          refine go_and (by decide) ?_
          refine go_and (by decide) ?_
          obtain ⟨q1, hq, h⟩ := bnd h
          refine go_call (fun _ hw => c_Deals_aim hq hw) ?_
          exact c_D_treaty_L65 hP hQ FU _ _ _ _ _ _ h
        · replace h := (if_pos hc).symm.trans h
          cases h
          exact hQ
/-! Deals_fewestDeals -/
def f_Deals_fewestDeals_L76 (k39 : Int32 → Int32 → Int32 → Int32 → Int32 → S2 → Option (S2 × Int32)) (x1 : Int32) (x2 : Int32) (x3 : Int32) (x4 : Int32) (x5 : Int32) (s : S2) : Option (S2 × Int32) := (k39 x1 x2 x3 x4 (x5 + (Int32.ofInt 1)) s)
def b_Deals_fewestDeals_L39 (k39 : Int32 → Int32 → Int32 → Int32 → Int32 → S2 → Option (S2 × Int32)) (x1 : Int32) (x2 : Int32) (x3 : Int32) (x4 : Int32) (x5 : Int32) (s : S2) : Option (S2 × Int32) := (if x4 ≤ x5 then (if x2 = (Int32.ofInt (-1)) then some (s, (Int32.ofInt (-1))) else (if x1 = 0 then ((f_Deals_asDigits x2 x4 s).bind fun q1 => some (s, q1)) else some (s, x3))) else ((f_Deals_dealsIn x5 s).bind fun q2 => (if x3 ≤ q2 then (f_Deals_fewestDeals_L76 k39 x1 x2 x3 x4 x5 s) else ((f_Deals_keepsBetween x5 x4 s).bind fun q3 => (if (bI q3.2) = 0 then (f_Deals_fewestDeals_L76 k39 x1 x2 x3 x4 x5 q3.1) else (f_Deals_fewestDeals_L76 k39 x1 x5 q2 x4 x5 q3.1))))))
def f_Deals_fewestDeals_L39 : Nat → Int32 → Int32 → Int32 → Int32 → Int32 → S2 → Option (S2 × Int32)
  | 0 => fun _ _ _ _ _ _ => none
  | n + 1 => b_Deals_fewestDeals_L39 (f_Deals_fewestDeals_L39 n)
def b_Deals_fewestDeals_L15 (k15 : Int32 → Int32 → Int32 → Int32 → Int32 → S2 → Option (S2 × Int32)) (x1 : Int32) (x2 : Int32) (x3 : Int32) (x4 : Int32) (x5 : Int32) (s : S2) : Option (S2 × Int32) := (if (s.1 45 0 13) ≤ x5 then (f_Deals_fewestDeals_L39 FU x1 x2 x3 x4 (Int32.ofInt 0) s) else (k15 x1 x2 x3 (x4 * (Int32.ofInt 3)) (x5 + (Int32.ofInt 1)) s))
def f_Deals_fewestDeals_L15 : Nat → Int32 → Int32 → Int32 → Int32 → Int32 → S2 → Option (S2 × Int32)
  | 0 => fun _ _ _ _ _ _ => none
  | n + 1 => b_Deals_fewestDeals_L15 (f_Deals_fewestDeals_L15 n)
def f_Deals_fewestDeals (a1 : Int32) (s : S2) : Option (S2 × Int32) := (f_Deals_fewestDeals_L15 FU a1 (Int32.ofInt (-1)) ((s.1 45 0 13) + (Int32.ofInt 1)) (Int32.ofInt 1) (Int32.ofInt 0) s)
theorem c_Deals_fewestDeals_L76 {xs : Nat → Int32} {L d : Nat} {P : MK S2} {Q : S2 → Option MV → Prop} {res : S2 × Int32} (hP : MClosed (O3 xs L) (kcall (O3 xs L) (d + 6)) kd_Deals_fewestDeals 1 Q P) (hQ : Q res.1 (some (mI res.2))) {k39 : Int32 → Int32 → Int32 → Int32 → Int32 → S2 → Option (S2 × Int32)} (hk39 : ∀ (x1 : Int32) (x2 : Int32) (x3 : Int32) (x4 : Int32) (x5 : Int32) (x6 : Option Int32) (s : S2), k39 x1 x2 x3 x4 x5 s = some res → P 39 [some (mR 45 0), some (mI x1), some (mI x2), some (mI x3), some (mI x4), some (mI x5), oI x6] [] s (0, 0)) (x1 : Int32) (x2 : Int32) (x3 : Int32) (x4 : Int32) (x5 : Int32) (x6 : Int32) (s : S2) (h : f_Deals_fewestDeals_L76 k39 x1 x2 x3 x4 x5 s = some res) : P 76 [some (mR 45 0), some (mI x1), some (mI x2), some (mI x3), some (mI x4), some (mI x5), some (mI x6)] [] s (0, 0) := by
  refine mgo_from hP [15, 39, 76] 260 ?_
  exact hk39 _ _ _ _ _ (some x6) _ h
set_option maxRecDepth 20000 in
set_option maxHeartbeats 4000000 in
theorem cb_Deals_fewestDeals_L39 {xs : Nat → Int32} {L d : Nat} {P : MK S2} {Q : S2 → Option MV → Prop} {res : S2 × Int32} (hP : MClosed (O3 xs L) (kcall (O3 xs L) (d + 6)) kd_Deals_fewestDeals 1 Q P) (hQ : Q res.1 (some (mI res.2))) {k39 : Int32 → Int32 → Int32 → Int32 → Int32 → S2 → Option (S2 × Int32)} (hk39 : ∀ (x1 : Int32) (x2 : Int32) (x3 : Int32) (x4 : Int32) (x5 : Int32) (x6 : Option Int32) (s : S2), k39 x1 x2 x3 x4 x5 s = some res → P 39 [some (mR 45 0), some (mI x1), some (mI x2), some (mI x3), some (mI x4), some (mI x5), oI x6] [] s (0, 0)) (x1 : Int32) (x2 : Int32) (x3 : Int32) (x4 : Int32) (x5 : Int32) (x6 : Option Int32) (s : S2) (h : b_Deals_fewestDeals_L39 k39 x1 x2 x3 x4 x5 s = some res) : P 39 [some (mR 45 0), some (mI x1), some (mI x2), some (mI x3), some (mI x4), some (mI x5), oI x6] [] s (0, 0) := by
  refine mgo_from hP [15, 39, 76] 260 ?_
  refine go_br (fun hc : x4 ≤ x5 => ?_) (fun hc : ¬ (x4 ≤ x5) => ?_)
  · replace h := (if_pos hc).symm.trans h
    refine go_brn (fun hc : ¬ (x2 = (Int32.ofInt (-1))) => ?_) (fun hc : x2 = (Int32.ofInt (-1)) => ?_)
    · replace h := (if_neg hc).symm.trans h
      refine go_br (fun hc : x1 = 0 => ?_) (fun hc : ¬ (x1 = 0) => ?_)
      · replace h := (if_pos hc).symm.trans h
        obtain ⟨q1, hq, h⟩ := bnd h
        refine go_call (fun _ hw => c_Deals_asDigits hq hw) ?_
        cases h
        exact hQ
      · replace h := (if_neg hc).symm.trans h
        cases h
        exact hQ
    · replace h := (if_pos hc).symm.trans h
      cases h
      exact hQ
  · replace h := (if_neg hc).symm.trans h
    obtain ⟨q2, hq, h⟩ := bnd h
    refine go_call (fun _ hw => c_Deals_dealsIn hq hw) ?_
    refine go_br (fun hc : x3 ≤ q2 => ?_) (fun hc : ¬ (x3 ≤ q2) => ?_)
    · replace h := (if_pos hc).symm.trans h
      exact c_Deals_fewestDeals_L76 hP hQ hk39 _ _ _ _ _ _ _ h
    · replace h := (if_neg hc).symm.trans h
      obtain ⟨q3, hq, h⟩ := bnd h
      refine go_call (fun _ hw => c_Deals_keepsBetween hq hw) ?_
      refine go_br (fun hc : (bI q3.2) = 0 => ?_) (fun hc : ¬ ((bI q3.2) = 0) => ?_)
      · replace h := (if_pos hc).symm.trans h
        exact c_Deals_fewestDeals_L76 hP hQ hk39 _ _ _ _ _ _ _ h
      · replace h := (if_neg hc).symm.trans h
        exact c_Deals_fewestDeals_L76 hP hQ hk39 _ _ _ _ _ _ _ h
theorem c_Deals_fewestDeals_L39 {xs : Nat → Int32} {L d : Nat} {P : MK S2} {Q : S2 → Option MV → Prop} {res : S2 × Int32} (hP : MClosed (O3 xs L) (kcall (O3 xs L) (d + 6)) kd_Deals_fewestDeals 1 Q P) (hQ : Q res.1 (some (mI res.2))) : ∀ (fu : Nat) (x1 : Int32) (x2 : Int32) (x3 : Int32) (x4 : Int32) (x5 : Int32) (x6 : Option Int32) (s : S2), f_Deals_fewestDeals_L39 fu x1 x2 x3 x4 x5 s = some res → P 39 [some (mR 45 0), some (mI x1), some (mI x2), some (mI x3), some (mI x4), some (mI x5), oI x6] [] s (0, 0)
  | 0, _, _, _, _, _, _, _, h => by cases h
  | fu + 1, x1, x2, x3, x4, x5, x6, s, h => cb_Deals_fewestDeals_L39 hP hQ (c_Deals_fewestDeals_L39 hP hQ fu) x1 x2 x3 x4 x5 x6 s h
theorem cb_Deals_fewestDeals_L15 {xs : Nat → Int32} {L d : Nat} {P : MK S2} {Q : S2 → Option MV → Prop} {res : S2 × Int32} (hP : MClosed (O3 xs L) (kcall (O3 xs L) (d + 6)) kd_Deals_fewestDeals 1 Q P) (hQ : Q res.1 (some (mI res.2))) {k15 : Int32 → Int32 → Int32 → Int32 → Int32 → S2 → Option (S2 × Int32)} (hk15 : ∀ (x1 : Int32) (x2 : Int32) (x3 : Int32) (x4 : Int32) (x5 : Int32) (s : S2), k15 x1 x2 x3 x4 x5 s = some res → P 15 [some (mR 45 0), some (mI x1), some (mI x2), some (mI x3), some (mI x4), some (mI x5), none] [] s (0, 0)) (x1 : Int32) (x2 : Int32) (x3 : Int32) (x4 : Int32) (x5 : Int32) (s : S2) (h : b_Deals_fewestDeals_L15 k15 x1 x2 x3 x4 x5 s = some res) : P 15 [some (mR 45 0), some (mI x1), some (mI x2), some (mI x3), some (mI x4), some (mI x5), none] [] s (0, 0) := by
  refine mgo_from hP [15, 39, 76] 260 ?_
  refine go_br (fun hc : (s.1 45 0 13) ≤ x5 => ?_) (fun hc : ¬ ((s.1 45 0 13) ≤ x5) => ?_)
  · replace h := (if_pos hc).symm.trans h
    exact c_Deals_fewestDeals_L39 hP hQ FU _ _ _ _ _ none _ h
  · replace h := (if_neg hc).symm.trans h
    exact hk15 _ _ _ _ _ _ h
theorem c_Deals_fewestDeals_L15 {xs : Nat → Int32} {L d : Nat} {P : MK S2} {Q : S2 → Option MV → Prop} {res : S2 × Int32} (hP : MClosed (O3 xs L) (kcall (O3 xs L) (d + 6)) kd_Deals_fewestDeals 1 Q P) (hQ : Q res.1 (some (mI res.2))) : ∀ (fu : Nat) (x1 : Int32) (x2 : Int32) (x3 : Int32) (x4 : Int32) (x5 : Int32) (s : S2), f_Deals_fewestDeals_L15 fu x1 x2 x3 x4 x5 s = some res → P 15 [some (mR 45 0), some (mI x1), some (mI x2), some (mI x3), some (mI x4), some (mI x5), none] [] s (0, 0)
  | 0, _, _, _, _, _, _, h => by cases h
  | fu + 1, x1, x2, x3, x4, x5, s, h => cb_Deals_fewestDeals_L15 hP hQ (c_Deals_fewestDeals_L15 hP hQ fu) x1 x2 x3 x4 x5 s h
theorem c_Deals_fewestDeals {xs : Nat → Int32} {L d : Nat} {a1 : Int32} {s : S2} {res : S2 × Int32} {Q : S2 → Option MV → Prop} (h : f_Deals_fewestDeals a1 s = some res) (hQ : Q res.1 (some (mI res.2))) : kcall (O3 xs L) (d + 7) k_Deals_fewestDeals [mR 45 0, mI a1] s Q := by
  refine kc_of (cd := kd_Deals_fewestDeals) (mx := 7) (rt := 1) rfl rfl ?_
  intro P hP
  refine mgo_sound hP [15, 39, 76] 260 _ _ _ _ _ ?_
  exact c_Deals_fewestDeals_L15 hP hQ FU _ _ _ _ _ _ h
/-! Charts_fittingSet -/
def f_Charts_fittingSet_L42 (k4 : Int32 → Int32 → Int32 → S2 → Option (S2 × Int32)) (x1 : Int32) (x2 : Int32) (x3 : Int32) (s : S2) : Option (S2 × Int32) := (k4 x1 x2 (x3 + (Int32.ofInt 1)) s)
def b_Charts_fittingSet_L4 (k4 : Int32 → Int32 → Int32 → S2 → Option (S2 × Int32)) (x1 : Int32) (x2 : Int32) (x3 : Int32) (s : S2) : Option (S2 × Int32) := (if ((Int32.ofInt 1) <<< ((g_Sea_ties 0 s) &&& 31)) ≤ x3 then (if x1 = (Int32.ofInt (-1)) then some (s, x2) else some (s, (Int32.ofInt (-1)))) else ((f_Course_drawBySet x3 s).bind fun q1 => ((f_Charts_areSo q1).bind fun q2 => (if (bI q2.2) = 0 then (f_Charts_fittingSet_L42 k4 x1 x2 x3 q2.1) else (if x2 = x1 then some (q2.1, x3) else (f_Charts_fittingSet_L42 k4 x1 (x2 + (Int32.ofInt 1)) x3 q2.1))))))
def f_Charts_fittingSet_L4 : Nat → Int32 → Int32 → Int32 → S2 → Option (S2 × Int32)
  | 0 => fun _ _ _ _ => none
  | n + 1 => b_Charts_fittingSet_L4 (f_Charts_fittingSet_L4 n)
def f_Charts_fittingSet (a1 : Int32) (s : S2) : Option (S2 × Int32) := (f_Charts_fittingSet_L4 FU a1 (Int32.ofInt 0) (Int32.ofInt 0) s)
theorem c_Charts_fittingSet_L42 {xs : Nat → Int32} {L d : Nat} {P : MK S2} {Q : S2 → Option MV → Prop} {res : S2 × Int32} (hP : MClosed (O3 xs L) (kcall (O3 xs L) (d + 6)) kd_Charts_fittingSet 1 Q P) (hQ : Q res.1 (some (mI res.2))) {k4 : Int32 → Int32 → Int32 → S2 → Option (S2 × Int32)} (hk4 : ∀ (x1 : Int32) (x2 : Int32) (x3 : Int32) (s : S2), k4 x1 x2 x3 s = some res → P 4 [some (mR 49 0), some (mI x1), some (mI x2), some (mI x3)] [] s (0, 0)) (x1 : Int32) (x2 : Int32) (x3 : Int32) (s : S2) (h : f_Charts_fittingSet_L42 k4 x1 x2 x3 s = some res) : P 42 [some (mR 49 0), some (mI x1), some (mI x2), some (mI x3)] [] s (0, 0) := by
  refine mgo_from hP [4, 42] 260 ?_
  exact hk4 _ _ _ _ h
set_option maxRecDepth 20000 in
set_option maxHeartbeats 4000000 in
theorem cb_Charts_fittingSet_L4 {xs : Nat → Int32} {L d : Nat} {P : MK S2} {Q : S2 → Option MV → Prop} {res : S2 × Int32} (hP : MClosed (O3 xs L) (kcall (O3 xs L) (d + 6)) kd_Charts_fittingSet 1 Q P) (hQ : Q res.1 (some (mI res.2))) {k4 : Int32 → Int32 → Int32 → S2 → Option (S2 × Int32)} (hk4 : ∀ (x1 : Int32) (x2 : Int32) (x3 : Int32) (s : S2), k4 x1 x2 x3 s = some res → P 4 [some (mR 49 0), some (mI x1), some (mI x2), some (mI x3)] [] s (0, 0)) (x1 : Int32) (x2 : Int32) (x3 : Int32) (s : S2) (h : b_Charts_fittingSet_L4 k4 x1 x2 x3 s = some res) : P 4 [some (mR 49 0), some (mI x1), some (mI x2), some (mI x3)] [] s (0, 0) := by
  refine mgo_from hP [4, 42] 260 ?_
  refine go_call (fun _ hw => c_Sea_ties hw) ?_
  refine go_br (fun hc : ((Int32.ofInt 1) <<< ((g_Sea_ties 0 s) &&& 31)) ≤ x3 => ?_) (fun hc : ¬ (((Int32.ofInt 1) <<< ((g_Sea_ties 0 s) &&& 31)) ≤ x3) => ?_)
  · replace h := (if_pos hc).symm.trans h
    refine go_brn (fun hc : ¬ (x1 = (Int32.ofInt (-1))) => ?_) (fun hc : x1 = (Int32.ofInt (-1)) => ?_)
    · replace h := (if_neg hc).symm.trans h
      cases h
      exact hQ
    · replace h := (if_pos hc).symm.trans h
      cases h
      exact hQ
  · replace h := (if_neg hc).symm.trans h
    obtain ⟨q1, hq, h⟩ := bnd h
    refine go_call (fun _ hw => c_Course_drawBySet hq hw) ?_
    obtain ⟨q2, hq, h⟩ := bnd h
    refine go_call (fun _ hw => c_Charts_areSo hq hw) ?_
    refine go_br (fun hc : (bI q2.2) = 0 => ?_) (fun hc : ¬ ((bI q2.2) = 0) => ?_)
    · replace h := (if_pos hc).symm.trans h
      exact c_Charts_fittingSet_L42 hP hQ hk4 _ _ _ _ h
    · replace h := (if_neg hc).symm.trans h
      refine go_brn (fun hc : ¬ (x2 = x1) => ?_) (fun hc : x2 = x1 => ?_)
      · replace h := (if_neg hc).symm.trans h
        exact c_Charts_fittingSet_L42 hP hQ hk4 _ _ _ _ h
      · replace h := (if_pos hc).symm.trans h
        cases h
        exact hQ
theorem c_Charts_fittingSet_L4 {xs : Nat → Int32} {L d : Nat} {P : MK S2} {Q : S2 → Option MV → Prop} {res : S2 × Int32} (hP : MClosed (O3 xs L) (kcall (O3 xs L) (d + 6)) kd_Charts_fittingSet 1 Q P) (hQ : Q res.1 (some (mI res.2))) : ∀ (fu : Nat) (x1 : Int32) (x2 : Int32) (x3 : Int32) (s : S2), f_Charts_fittingSet_L4 fu x1 x2 x3 s = some res → P 4 [some (mR 49 0), some (mI x1), some (mI x2), some (mI x3)] [] s (0, 0)
  | 0, _, _, _, _, h => by cases h
  | fu + 1, x1, x2, x3, s, h => cb_Charts_fittingSet_L4 hP hQ (c_Charts_fittingSet_L4 hP hQ fu) x1 x2 x3 s h
theorem c_Charts_fittingSet {xs : Nat → Int32} {L d : Nat} {a1 : Int32} {s : S2} {res : S2 × Int32} {Q : S2 → Option MV → Prop} (h : f_Charts_fittingSet a1 s = some res) (hQ : Q res.1 (some (mI res.2))) : kcall (O3 xs L) (d + 7) k_Charts_fittingSet [mR 49 0, mI a1] s Q := by
  refine kc_of (cd := kd_Charts_fittingSet) (mx := 4) (rt := 1) rfl rfl ?_
  intro P hP
  refine mgo_sound hP [4, 42] 260 _ _ _ _ _ ?_
  exact c_Charts_fittingSet_L4 hP hQ FU _ _ _ _ h
/-! D_secret -/
def f_D_secret (a1 : Int32) (s : S2) : Option (S2 × Int32) := (if (bI (g_D_hasSea s)) = 0 then some (s, (Int32.ofInt (-1))) else ((f_Charts_secretTie a1 s).bind fun q1 => some (q1.1, q1.2)))
theorem c_D_secret {xs : Nat → Int32} {L d : Nat} {a1 : Int32} {s : S2} {res : S2 × Int32} {Q : S2 → Option MV → Prop} (h : f_D_secret a1 s = some res) (hQ : Q res.1 (some (mI res.2))) : kcall (O3 xs L) (d + 8) k_D_secret [mR 10 0, mI a1] s Q := by
  refine kc_of (cd := kd_D_secret) (mx := 2) (rt := 1) rfl rfl ?_
  intro P hP
  refine mgo_sound hP [] 260 _ _ _ _ _ ?_
  refine go_call (fun _ hw => c_D_hasSea hw) ?_
  refine go_br (fun hc : (bI (g_D_hasSea s)) = 0 => ?_) (fun hc : ¬ ((bI (g_D_hasSea s)) = 0) => ?_)
  · replace h := (if_pos hc).symm.trans h
    cases h
    exact hQ
  · replace h := (if_neg hc).symm.trans h
    obtain ⟨q1, hq, h⟩ := bnd h
    refine go_call (fun _ hw => c_Charts_secretTie hq hw) ?_
    cases h
    exact hQ
/-! D_when -/
def f_D_when (a1 : Int32) (a2 : Int32) (a3 : Int32) (s : S2) : Option (S2 × Int32) := (if (bI (g_D_isIsle a1 s)) = 0 then some (s, (Int32.ofInt (-1))) else (if (bI (g_D_isWithin a2 (Int32.ofInt 0) (Int32.ofInt 999) s)) = 0 then some (s, (Int32.ofInt (-1))) else (if (bI (g_D_isWithin a3 (Int32.ofInt 0) (Int32.ofInt 60) s)) = 0 then some (s, (Int32.ofInt (-1))) else ((f_Forecast_seenByAllBehind a1 a2 a3 s).bind fun q1 => some (q1.1, q1.2)))))
theorem c_D_when {xs : Nat → Int32} {L d : Nat} {a1 : Int32} {a2 : Int32} {a3 : Int32} {s : S2} {res : S2 × Int32} {Q : S2 → Option MV → Prop} (h : f_D_when a1 a2 a3 s = some res) (hQ : Q res.1 (some (mI res.2))) : kcall (O3 xs L) (d + 7) k_D_when [mR 10 0, mI a1, mI a2, mI a3] s Q := by
  refine kc_of (cd := kd_D_when) (mx := 4) (rt := 1) rfl rfl ?_
  intro P hP
  refine mgo_sound hP [] 260 _ _ _ _ _ ?_
  refine go_call (fun _ hw => c_D_isIsle hw) ?_
  refine go_br (fun hc : (bI (g_D_isIsle a1 s)) = 0 => ?_) (fun hc : ¬ ((bI (g_D_isIsle a1 s)) = 0) => ?_)
  · replace h := (if_pos hc).symm.trans h
    cases h
    exact hQ
  · replace h := (if_neg hc).symm.trans h
    refine go_call (fun _ hw => c_D_isWithin hw) ?_
    refine go_br (fun hc : (bI (g_D_isWithin a2 (Int32.ofInt 0) (Int32.ofInt 999) s)) = 0 => ?_) (fun hc : ¬ ((bI (g_D_isWithin a2 (Int32.ofInt 0) (Int32.ofInt 999) s)) = 0) => ?_)
    · replace h := (if_pos hc).symm.trans h
      cases h
      exact hQ
    · replace h := (if_neg hc).symm.trans h
      refine go_call (fun _ hw => c_D_isWithin hw) ?_
      refine go_brn (fun hc : ¬ ((bI (g_D_isWithin a3 (Int32.ofInt 0) (Int32.ofInt 60) s)) = 0) => ?_) (fun hc : (bI (g_D_isWithin a3 (Int32.ofInt 0) (Int32.ofInt 60) s)) = 0 => ?_)
      · replace h := (if_neg hc).symm.trans h
        obtain ⟨q1, hq, h⟩ := bnd h
        refine go_call (fun _ hw => c_Forecast_seenByAllBehind hq hw) ?_
        cases h
        exact hQ
      · replace h := (if_pos hc).symm.trans h
        cases h
        exact hQ
/-! M_readSea -/
def f_M_readSea_L163 (s : S2) : Option (S2 × Int32) := some (s, (s.1 60 0 4))
def f_M_readSea_L159 (s : S2) : Option (S2 × Int32) := ((f_M_bad s).bind fun q1 => (f_M_readSea_L163 q1))
def f_M_readSea_L136 (s : S2) : Option (S2 × Int32) := (if (s.1 60 0 4) = (Int32.ofInt (-1)) then ((f_M_look s).bind fun q1 => (if q1.2 = (Int32.ofInt (-1)) then ((f_M_isWhole q1.1).bind fun q2 => (if (bI q2) = 0 then (f_M_readSea_L159 q1.1) else (f_M_readSea_L163 q1.1))) else (f_M_readSea_L159 q1.1))) else (f_M_readSea_L163 s))
def f_M_readSea_L129 (k54 : Int32 → Int32 → S2 → Option (S2 × Int32)) (x1 : Int32) (x2 : Int32) (y1 : Int32) (y2 : Int32) (s : S2) : Option (S2 × Int32) := ((some (pkS s 60 0 3 (y1 + y2))).bind fun s1 => (k54 x1 x2 s1))
def f_M_readSea_L114 (k54 : Int32 → Int32 → S2 → Option (S2 × Int32)) (x1 : Int32) (y0 : Int32) (s : S2) : Option (S2 × Int32) := (if y0 = 0 then (f_M_readSea_L129 k54 x1 y0 (s.1 60 0 3) (Int32.ofInt 0) s) else (f_M_readSea_L129 k54 x1 y0 (s.1 60 0 3) (Int32.ofInt 1) s))
def f_M_readSea_L113 (k54 : Int32 → Int32 → S2 → Option (S2 × Int32)) (x1 : Int32) (s : S2) : Option (S2 × Int32) := (f_M_readSea_L114 k54 x1 (Int32.ofInt 0) s)
def f_M_readSea_L91 (k54 : Int32 → Int32 → S2 → Option (S2 × Int32)) (y0 : Int32) (s : S2) : Option (S2 × Int32) := (if (s.1 60 0 4) = (Int32.ofInt (-1)) then ((f_M_look s).bind fun q1 => (if q1.2 = (Int32.ofInt 59) then (f_M_readSea_L114 k54 y0 (Int32.ofInt 1) q1.1) else (f_M_readSea_L113 k54 y0 q1.1))) else (f_M_readSea_L113 k54 y0 s))
def f_M_readSea_L86 (k54 : Int32 → Int32 → S2 → Option (S2 × Int32)) (s : S2) : Option (S2 × Int32) := (f_M_readSea_L91 k54 (Int32.ofInt 1) s)
def b_M_readSea_L54 (k54 : Int32 → Int32 → S2 → Option (S2 × Int32)) (x1 : Int32) (x2 : Int32) (s : S2) : Option (S2 × Int32) := (if x2 = 0 then (f_M_readSea_L136 s) else (if (s.1 60 0 4) = (Int32.ofInt (-1)) then ((f_M_look s).bind fun q1 => ((f_M_clauseText x1 q1.1).bind fun q2 => (if x1 = 0 then (if q1.2 = (Int32.ofInt 119) then (f_M_readSea_L86 k54 q2) else (f_M_readSea_L91 k54 (Int32.ofInt 0) q2)) else (f_M_readSea_L86 k54 q2)))) else (f_M_readSea_L136 s)))
def f_M_readSea_L54 : Nat → Int32 → Int32 → S2 → Option (S2 × Int32)
  | 0 => fun _ _ _ => none
  | n + 1 => b_M_readSea_L54 (f_M_readSea_L54 n)
def b_M_readSea_L27 (k27 : Int32 → S2 → Option (S2 × Int32)) (x1 : Int32) (s : S2) : Option (S2 × Int32) := (if (Int32.ofInt 4) ≤ x1 then (f_M_readSea_L54 FU (Int32.ofInt 0) (Int32.ofInt 1) s) else ((ix 4 x1).bind fun j2 => (some (pkS s 71 0 j2 (g_M_usual (Int32.ofInt 119) x1 s))).bind fun s1 => (k27 (x1 + (Int32.ofInt 1)) s1)))
def f_M_readSea_L27 : Nat → Int32 → S2 → Option (S2 × Int32)
  | 0 => fun _ _ => none
  | n + 1 => b_M_readSea_L27 (f_M_readSea_L27 n)
def f_M_readSea (s : S2) : Option (S2 × Int32) := ((some (pkS s 60 0 3 (Int32.ofInt 0))).bind fun s1 => ((some (pkS s1 60 0 4 (Int32.ofInt (-1)))).bind fun s2 => ((some (pkS s2 60 0 21 (Int32.ofInt 0))).bind fun s3 => ((some (pkS s3 60 0 22 (Int32.ofInt 0))).bind fun s4 => ((some (pkS s4 60 0 23 (Int32.ofInt 0))).bind fun s5 => (f_M_readSea_L27 FU (Int32.ofInt 0) s5))))))
theorem c_M_readSea_L163 {xs : Nat → Int32} {L d : Nat} {P : MK S2} {Q : S2 → Option MV → Prop} {res : S2 × Int32} (hP : MClosed (O3 xs L) (kcall (O3 xs L) (d + 5)) kd_M_readSea 1 Q P) (hQ : Q res.1 (some (mI res.2))) (x1 : Int32) (x2 : Int32) (x3 : Option Int32) (s : S2) (h : f_M_readSea_L163 s = some res) : P 163 [some (mR 60 0), some (mI x1), some (mI x2), oI x3] [] s (0, 0) := by
  refine mgo_from hP [27, 54, 86, 91, 113, 114, 129, 136, 159, 163] 260 ?_
  cases h
  exact hQ
theorem c_M_readSea_L159 {xs : Nat → Int32} {L d : Nat} {P : MK S2} {Q : S2 → Option MV → Prop} {res : S2 × Int32} (hP : MClosed (O3 xs L) (kcall (O3 xs L) (d + 5)) kd_M_readSea 1 Q P) (hQ : Q res.1 (some (mI res.2))) (x1 : Int32) (x2 : Int32) (x3 : Option Int32) (s : S2) (h : f_M_readSea_L159 s = some res) : P 159 [some (mR 60 0), some (mI x1), some (mI x2), oI x3] [] s (0, 0) := by
  refine mgo_from hP [27, 54, 86, 91, 113, 114, 129, 136, 159, 163] 260 ?_
  obtain ⟨q1, hq, h⟩ := bnd h
  refine go_call (fun _ hw => c_M_bad hq hw) ?_
  exact c_M_readSea_L163 hP hQ _ _ x3 _ h
theorem c_M_readSea_L136 {xs : Nat → Int32} {L d : Nat} {P : MK S2} {Q : S2 → Option MV → Prop} {res : S2 × Int32} (hP : MClosed (O3 xs L) (kcall (O3 xs L) (d + 5)) kd_M_readSea 1 Q P) (hQ : Q res.1 (some (mI res.2))) (x1 : Int32) (x2 : Int32) (x3 : Option Int32) (s : S2) (h : f_M_readSea_L136 s = some res) : P 136 [some (mR 60 0), some (mI x1), some (mI x2), oI x3] [] s (0, 0) := by
  refine mgo_from hP [27, 54, 86, 91, 113, 114, 129, 136, 159, 163] 260 ?_
  refine go_brn (fun hc : ¬ ((s.1 60 0 4) = (Int32.ofInt (-1))) => ?_) (fun hc : (s.1 60 0 4) = (Int32.ofInt (-1)) => ?_)
  · replace h := (if_neg hc).symm.trans h
    exact c_M_readSea_L163 hP hQ _ _ x3 _ h
  · replace h := (if_pos hc).symm.trans h
    obtain ⟨q1, hq, h⟩ := bnd h
    refine go_call (fun _ hw => c_M_look hq hw) ?_
    refine go_brn (fun hc : ¬ (q1.2 = (Int32.ofInt (-1))) => ?_) (fun hc : q1.2 = (Int32.ofInt (-1)) => ?_)
    · replace h := (if_neg hc).symm.trans h
      exact c_M_readSea_L159 hP hQ _ _ x3 _ h
    · replace h := (if_pos hc).symm.trans h
      obtain ⟨q2, hq, h⟩ := bnd h
      refine go_call (fun _ hw => c_M_isWhole hq hw) ?_
      refine go_brn (fun hc : ¬ ((bI q2) = 0) => ?_) (fun hc : (bI q2) = 0 => ?_)
      · replace h := (if_neg hc).symm.trans h
        exact c_M_readSea_L163 hP hQ _ _ x3 _ h
      · replace h := (if_pos hc).symm.trans h
        exact c_M_readSea_L159 hP hQ _ _ x3 _ h
theorem c_M_readSea_L129 {xs : Nat → Int32} {L d : Nat} {P : MK S2} {Q : S2 → Option MV → Prop} {res : S2 × Int32} (hP : MClosed (O3 xs L) (kcall (O3 xs L) (d + 5)) kd_M_readSea 1 Q P) (hQ : Q res.1 (some (mI res.2))) {k54 : Int32 → Int32 → S2 → Option (S2 × Int32)} (hk54 : ∀ (x1 : Int32) (x2 : Int32) (x3 : Option Int32) (s : S2), k54 x1 x2 s = some res → P 54 [some (mR 60 0), some (mI x1), some (mI x2), oI x3] [] s (0, 0)) (x1 : Int32) (x2 : Int32) (y1 : Int32) (y2 : Int32) (x3 : Int32) (s : S2) (h : f_M_readSea_L129 k54 x1 x2 y1 y2 s = some res) : P 129 [some (mR 60 0), some (mI x1), some (mI x2), some (mI x3)] [mI y2, mI y1, mR 60 0] s (0, 0) := by
  refine mgo_from hP [27, 54, 86, 91, 113, 114, 129, 136, 159, 163] 260 ?_
  replace h := bnds h
  exact hk54 _ _ (some x3) _ h
theorem c_M_readSea_L114 {xs : Nat → Int32} {L d : Nat} {P : MK S2} {Q : S2 → Option MV → Prop} {res : S2 × Int32} (hP : MClosed (O3 xs L) (kcall (O3 xs L) (d + 5)) kd_M_readSea 1 Q P) (hQ : Q res.1 (some (mI res.2))) {k54 : Int32 → Int32 → S2 → Option (S2 × Int32)} (hk54 : ∀ (x1 : Int32) (x2 : Int32) (x3 : Option Int32) (s : S2), k54 x1 x2 s = some res → P 54 [some (mR 60 0), some (mI x1), some (mI x2), oI x3] [] s (0, 0)) (x1 : Int32) (y0 : Int32) (x2 : Int32) (x3 : Int32) (s : S2) (h : f_M_readSea_L114 k54 x1 y0 s = some res) : P 114 [some (mR 60 0), some (mI x1), some (mI x2), some (mI x3)] [mI y0] s (0, 0) := by
  refine mgo_from hP [27, 54, 86, 91, 113, 114, 129, 136, 159, 163] 260 ?_
  refine go_br (fun hc : y0 = 0 => ?_) (fun hc : ¬ (y0 = 0) => ?_)
  · replace h := (if_pos hc).symm.trans h
    exact c_M_readSea_L129 hP hQ hk54 _ _ _ _ _ _ h
  · replace h := (if_neg hc).symm.trans h
    exact c_M_readSea_L129 hP hQ hk54 _ _ _ _ _ _ h
theorem c_M_readSea_L113 {xs : Nat → Int32} {L d : Nat} {P : MK S2} {Q : S2 → Option MV → Prop} {res : S2 × Int32} (hP : MClosed (O3 xs L) (kcall (O3 xs L) (d + 5)) kd_M_readSea 1 Q P) (hQ : Q res.1 (some (mI res.2))) {k54 : Int32 → Int32 → S2 → Option (S2 × Int32)} (hk54 : ∀ (x1 : Int32) (x2 : Int32) (x3 : Option Int32) (s : S2), k54 x1 x2 s = some res → P 54 [some (mR 60 0), some (mI x1), some (mI x2), oI x3] [] s (0, 0)) (x1 : Int32) (x2 : Int32) (x3 : Int32) (s : S2) (h : f_M_readSea_L113 k54 x1 s = some res) : P 113 [some (mR 60 0), some (mI x1), some (mI x2), some (mI x3)] [] s (0, 0) := by
  refine mgo_from hP [27, 54, 86, 91, 113, 114, 129, 136, 159, 163] 260 ?_
  exact c_M_readSea_L114 hP hQ hk54 _ _ _ _ _ h
theorem c_M_readSea_L91 {xs : Nat → Int32} {L d : Nat} {P : MK S2} {Q : S2 → Option MV → Prop} {res : S2 × Int32} (hP : MClosed (O3 xs L) (kcall (O3 xs L) (d + 5)) kd_M_readSea 1 Q P) (hQ : Q res.1 (some (mI res.2))) {k54 : Int32 → Int32 → S2 → Option (S2 × Int32)} (hk54 : ∀ (x1 : Int32) (x2 : Int32) (x3 : Option Int32) (s : S2), k54 x1 x2 s = some res → P 54 [some (mR 60 0), some (mI x1), some (mI x2), oI x3] [] s (0, 0)) (y0 : Int32) (x1 : Int32) (x2 : Int32) (x3 : Int32) (s : S2) (h : f_M_readSea_L91 k54 y0 s = some res) : P 91 [some (mR 60 0), some (mI x1), some (mI x2), some (mI x3)] [mI y0] s (0, 0) := by
  refine mgo_from hP [27, 54, 86, 91, 113, 114, 129, 136, 159, 163] 260 ?_
  refine go_brn (fun hc : ¬ ((s.1 60 0 4) = (Int32.ofInt (-1))) => ?_) (fun hc : (s.1 60 0 4) = (Int32.ofInt (-1)) => ?_)
  · replace h := (if_neg hc).symm.trans h
    exact c_M_readSea_L113 hP hQ hk54 _ _ _ _ h
  · replace h := (if_pos hc).symm.trans h
    obtain ⟨q1, hq, h⟩ := bnd h
    refine go_call (fun _ hw => c_M_look hq hw) ?_
    refine go_brn (fun hc : ¬ (q1.2 = (Int32.ofInt 59)) => ?_) (fun hc : q1.2 = (Int32.ofInt 59) => ?_)
    · replace h := (if_neg hc).symm.trans h
      exact c_M_readSea_L113 hP hQ hk54 _ _ _ _ h
    · replace h := (if_pos hc).symm.trans h
      exact c_M_readSea_L114 hP hQ hk54 _ _ _ _ _ h
theorem c_M_readSea_L86 {xs : Nat → Int32} {L d : Nat} {P : MK S2} {Q : S2 → Option MV → Prop} {res : S2 × Int32} (hP : MClosed (O3 xs L) (kcall (O3 xs L) (d + 5)) kd_M_readSea 1 Q P) (hQ : Q res.1 (some (mI res.2))) {k54 : Int32 → Int32 → S2 → Option (S2 × Int32)} (hk54 : ∀ (x1 : Int32) (x2 : Int32) (x3 : Option Int32) (s : S2), k54 x1 x2 s = some res → P 54 [some (mR 60 0), some (mI x1), some (mI x2), oI x3] [] s (0, 0)) (x1 : Int32) (x2 : Int32) (x3 : Int32) (s : S2) (h : f_M_readSea_L86 k54 s = some res) : P 86 [some (mR 60 0), some (mI x1), some (mI x2), some (mI x3)] [] s (0, 0) := by
  refine mgo_from hP [27, 54, 86, 91, 113, 114, 129, 136, 159, 163] 260 ?_
  exact c_M_readSea_L91 hP hQ hk54 _ _ _ _ _ h
theorem cb_M_readSea_L54 {xs : Nat → Int32} {L d : Nat} {P : MK S2} {Q : S2 → Option MV → Prop} {res : S2 × Int32} (hP : MClosed (O3 xs L) (kcall (O3 xs L) (d + 5)) kd_M_readSea 1 Q P) (hQ : Q res.1 (some (mI res.2))) {k54 : Int32 → Int32 → S2 → Option (S2 × Int32)} (hk54 : ∀ (x1 : Int32) (x2 : Int32) (x3 : Option Int32) (s : S2), k54 x1 x2 s = some res → P 54 [some (mR 60 0), some (mI x1), some (mI x2), oI x3] [] s (0, 0)) (x1 : Int32) (x2 : Int32) (x3 : Option Int32) (s : S2) (h : b_M_readSea_L54 k54 x1 x2 s = some res) : P 54 [some (mR 60 0), some (mI x1), some (mI x2), oI x3] [] s (0, 0) := by
  refine mgo_from hP [27, 54, 86, 91, 113, 114, 129, 136, 159, 163] 260 ?_
  refine go_br (fun hc : x2 = 0 => ?_) (fun hc : ¬ (x2 = 0) => ?_)
  · replace h := (if_pos hc).symm.trans h
    exact c_M_readSea_L136 hP hQ _ _ x3 _ h
  · replace h := (if_neg hc).symm.trans h
    refine go_brn (fun hc : ¬ ((s.1 60 0 4) = (Int32.ofInt (-1))) => ?_) (fun hc : (s.1 60 0 4) = (Int32.ofInt (-1)) => ?_)
    · replace h := (if_neg hc).symm.trans h
      exact c_M_readSea_L136 hP hQ _ _ x3 _ h
    · replace h := (if_pos hc).symm.trans h
      obtain ⟨q1, hq, h⟩ := bnd h
      refine go_call (fun _ hw => c_M_look hq hw) ?_
      obtain ⟨q2, hq, h⟩ := bnd h
      refine go_call (fun _ hw => c_M_clauseText hq hw) ?_
      refine go_brn (fun hc : ¬ (x1 = 0) => ?_) (fun hc : x1 = 0 => ?_)
      · replace h := (if_neg hc).symm.trans h
        exact c_M_readSea_L86 hP hQ hk54 _ _ _ _ h
      · replace h := (if_pos hc).symm.trans h
        refine go_brn (fun hc : ¬ (q1.2 = (Int32.ofInt 119)) => ?_) (fun hc : q1.2 = (Int32.ofInt 119) => ?_)
        · replace h := (if_neg hc).symm.trans h
          exact c_M_readSea_L91 hP hQ hk54 _ _ _ _ _ h
        · replace h := (if_pos hc).symm.trans h
          exact c_M_readSea_L86 hP hQ hk54 _ _ _ _ h
theorem c_M_readSea_L54 {xs : Nat → Int32} {L d : Nat} {P : MK S2} {Q : S2 → Option MV → Prop} {res : S2 × Int32} (hP : MClosed (O3 xs L) (kcall (O3 xs L) (d + 5)) kd_M_readSea 1 Q P) (hQ : Q res.1 (some (mI res.2))) : ∀ (fu : Nat) (x1 : Int32) (x2 : Int32) (x3 : Option Int32) (s : S2), f_M_readSea_L54 fu x1 x2 s = some res → P 54 [some (mR 60 0), some (mI x1), some (mI x2), oI x3] [] s (0, 0)
  | 0, _, _, _, _, h => by cases h
  | fu + 1, x1, x2, x3, s, h => cb_M_readSea_L54 hP hQ (c_M_readSea_L54 hP hQ fu) x1 x2 x3 s h
theorem cb_M_readSea_L27 {xs : Nat → Int32} {L d : Nat} {P : MK S2} {Q : S2 → Option MV → Prop} {res : S2 × Int32} (hP : MClosed (O3 xs L) (kcall (O3 xs L) (d + 5)) kd_M_readSea 1 Q P) (hQ : Q res.1 (some (mI res.2))) {k27 : Int32 → S2 → Option (S2 × Int32)} (hk27 : ∀ (x1 : Int32) (s : S2), k27 x1 s = some res → P 27 [some (mR 60 0), some (mI x1), none, none] [] s (0, 0)) (x1 : Int32) (s : S2) (h : b_M_readSea_L27 k27 x1 s = some res) : P 27 [some (mR 60 0), some (mI x1), none, none] [] s (0, 0) := by
  refine mgo_from hP [27, 54, 86, 91, 113, 114, 129, 136, 159, 163] 260 ?_
  refine go_br (fun hc : (Int32.ofInt 4) ≤ x1 => ?_) (fun hc : ¬ ((Int32.ofInt 4) ≤ x1) => ?_)
  · replace h := (if_pos hc).symm.trans h
    exact c_M_readSea_L54 hP hQ FU _ _ none _ h
  · replace h := (if_neg hc).symm.trans h
    refine go_call (fun _ hw => c_M_usual hw) ?_
    obtain ⟨j2, hj, h⟩ := bnd h
    replace h := bnds h
    refine go_ix j2 (ix_lt hj) (ix_eq hj) ?_
    exact hk27 _ _ h
theorem c_M_readSea_L27 {xs : Nat → Int32} {L d : Nat} {P : MK S2} {Q : S2 → Option MV → Prop} {res : S2 × Int32} (hP : MClosed (O3 xs L) (kcall (O3 xs L) (d + 5)) kd_M_readSea 1 Q P) (hQ : Q res.1 (some (mI res.2))) : ∀ (fu : Nat) (x1 : Int32) (s : S2), f_M_readSea_L27 fu x1 s = some res → P 27 [some (mR 60 0), some (mI x1), none, none] [] s (0, 0)
  | 0, _, _, h => by cases h
  | fu + 1, x1, s, h => cb_M_readSea_L27 hP hQ (c_M_readSea_L27 hP hQ fu) x1 s h
set_option maxRecDepth 20000 in
set_option maxHeartbeats 4000000 in
theorem c_M_readSea {xs : Nat → Int32} {L d : Nat} {s : S2} {res : S2 × Int32} {Q : S2 → Option MV → Prop} (h : f_M_readSea s = some res) (hQ : Q res.1 (some (mI res.2))) : kcall (O3 xs L) (d + 6) k_M_readSea [mR 60 0] s Q := by
  refine kc_of (cd := kd_M_readSea) (mx := 4) (rt := 1) rfl rfl ?_
  intro P hP
  refine mgo_sound hP [27, 54, 86, 91, 113, 114, 129, 136, 159, 163] 260 _ _ _ _ _ ?_
  replace h := bnds h
  replace h := bnds h
  replace h := bnds h
  replace h := bnds h
  replace h := bnds h
  exact c_M_readSea_L27 hP hQ FU _ _ h
/-! M_text -/
def f_M_text_L22 (x1 : Int32) (s : S2) : Option (S2 × Int32) := (if x1 = (Int32.ofInt 1) then (if (Int32.ofInt 4) ≤ (s.1 60 0 13) then some (s, (Int32.ofInt (-1))) else ((f_M_readLaw (s.1 60 0 13) s).bind fun q1 => (if q1.2 = (Int32.ofInt (-1)) then ((some (pkS q1.1 60 0 2 (Int32.ofInt 0))).bind fun s2 => ((some (pkS s2 60 0 13 ((s2.1 60 0 13) + (Int32.ofInt 1)))).bind fun s3 => some (s3, ((s3.1 60 0 13) - (Int32.ofInt 1))))) else some (q1.1, (Int32.ofInt (-1)))))) else some (s, (Int32.ofInt (-1))))
def f_M_text (a1 : Int32) (s : S2) : Option (S2 × Int32) := (if a1 = 0 then ((f_M_readSea s).bind fun q1 => (if q1.2 = (Int32.ofInt (-1)) then ((some (pkS q1.1 60 0 2 (Int32.ofInt 0))).bind fun s2 => ((f_M_takeSea s2).bind fun q3 => some (q3.1, q3.2))) else (f_M_text_L22 a1 q1.1))) else (f_M_text_L22 a1 s))
theorem c_M_text_L22 {xs : Nat → Int32} {L d : Nat} {P : MK S2} {Q : S2 → Option MV → Prop} {res : S2 × Int32} (hP : MClosed (O3 xs L) (kcall (O3 xs L) (d + 394)) kd_M_text 1 Q P) (hQ : Q res.1 (some (mI res.2))) (x1 : Int32) (s : S2) (h : f_M_text_L22 x1 s = some res) : P 22 [some (mR 60 0), some (mI x1)] [] s (0, 0) := by
  refine mgo_from hP [22] 260 ?_
  refine go_brn (fun hc : ¬ (x1 = (Int32.ofInt 1)) => ?_) (fun hc : x1 = (Int32.ofInt 1) => ?_)
  · replace h := (if_neg hc).symm.trans h
    cases h
    exact hQ
  · replace h := (if_pos hc).symm.trans h
    refine go_br (fun hc : (Int32.ofInt 4) ≤ (s.1 60 0 13) => ?_) (fun hc : ¬ ((Int32.ofInt 4) ≤ (s.1 60 0 13)) => ?_)
    · replace h := (if_pos hc).symm.trans h
      cases h
      exact hQ
    · replace h := (if_neg hc).symm.trans h
      obtain ⟨q1, hq, h⟩ := bnd h
      refine go_call (fun _ hw => c_M_readLaw hq hw) ?_
      refine go_brn (fun hc : ¬ (q1.2 = (Int32.ofInt (-1))) => ?_) (fun hc : q1.2 = (Int32.ofInt (-1)) => ?_)
      · replace h := (if_neg hc).symm.trans h
        cases h
        exact hQ
      · replace h := (if_pos hc).symm.trans h
        replace h := bnds h
        replace h := bnds h
        cases h
        exact hQ
theorem c_M_text {xs : Nat → Int32} {L d : Nat} {a1 : Int32} {s : S2} {res : S2 × Int32} {Q : S2 → Option MV → Prop} (h : f_M_text a1 s = some res) (hQ : Q res.1 (some (mI res.2))) : kcall (O3 xs L) (d + 395) k_M_text [mR 60 0, mI a1] s Q := by
  refine kc_of (cd := kd_M_text) (mx := 2) (rt := 1) rfl rfl ?_
  intro P hP
  refine mgo_sound hP [22] 260 _ _ _ _ _ ?_
  refine go_brn (fun hc : ¬ (a1 = 0) => ?_) (fun hc : a1 = 0 => ?_)
  · replace h := (if_neg hc).symm.trans h
    exact c_M_text_L22 hP hQ _ _ h
  · replace h := (if_pos hc).symm.trans h
    obtain ⟨q1, hq, h⟩ := bnd h
    refine go_call (fun _ hw => c_M_readSea hq hw) ?_
    refine go_brn (fun hc : ¬ (q1.2 = (Int32.ofInt (-1))) => ?_) (fun hc : q1.2 = (Int32.ofInt (-1)) => ?_)
    · replace h := (if_neg hc).symm.trans h
      exact c_M_text_L22 hP hQ _ _ h
    · replace h := (if_pos hc).symm.trans h
      replace h := bnds h
      obtain ⟨q3, hq, h⟩ := bnd h
      refine go_call (fun _ hw => c_M_takeSea hq hw) ?_
      cases h
      exact hQ
/-! M_pullOf -/
def f_M_pullOf (a1 : Int32) (s : S2) : Option (S2 × Int32) := ((ix 44 (((Int32.ofInt 4) * a1) + (Int32.ofInt 0))).bind fun j1 => ((ix 44 (((Int32.ofInt 4) * a1) + (Int32.ofInt 1))).bind fun j2 => ((ix 6 (s.1 77 0 j1)).bind fun j3 => ((ix 6 (s.1 77 0 j2)).bind fun j4 => (if (s.1 82 0 j3) = (s.1 82 0 j4) then some (s, (Int32.ofInt 0)) else ((f_M_farOf (s.1 77 0 j1) (s.1 77 0 j2) s).bind fun q5 => (if q5 = 0 then some (s, (Int32.ofInt 0)) else ((ix 44 (((Int32.ofInt 4) * a1) + (Int32.ofInt 2))).bind fun j6 => ((ix 44 (((Int32.ofInt 4) * a1) + (Int32.ofInt 3))).bind fun j7 => (if (s.1 60 0 40) = (Int32.ofInt (-1)) then (if (s.1 77 0 j6) = 0 then some (s, (s.1 77 0 j7)) else some (s, (-(s.1 77 0 j7)))) else ((f_M_farOf (s.1 77 0 j1) (s.1 77 0 j2) s).bind fun q8 => ((some (pkS s 69 0 0 q8)).bind fun s9 => ((some (pkS s9 69 0 1 (s.1 77 0 j7))).bind fun s10 => ((some (pkS s10 69 0 2 (s.1 77 0 j6))).bind fun s11 => ((ix 6 (s.1 77 0 j1)).bind fun j12 => ((ix 6 (s11.1 82 0 j12)).bind fun j13 => ((some (pkS s11 69 0 3 (s11.1 81 0 j13))).bind fun s14 => ((ix 6 (s.1 77 0 j2)).bind fun j15 => ((ix 6 (s14.1 82 0 j15)).bind fun j16 => ((some (pkS s14 69 0 4 (s14.1 81 0 j16))).bind fun s17 => ((some (pkS s17 69 0 5 (s17.1 60 0 37))).bind fun s18 => ((f_M_worthOf (s18.1 60 0 40) s18).bind fun q19 => some (q19.1, (jmax (Int32.ofInt (-99)) (jmin (Int32.ofInt 99) q19.2)))))))))))))))))))))))))
set_option maxRecDepth 20000 in
set_option maxHeartbeats 4000000 in
theorem c_M_pullOf {xs : Nat → Int32} {L d : Nat} {a1 : Int32} {s : S2} {res : S2 × Int32} {Q : S2 → Option MV → Prop} (h : f_M_pullOf a1 s = some res) (hQ : Q res.1 (some (mI res.2))) : kcall (O3 xs L) (d + 5) k_M_pullOf [mR 60 0, mI a1] s Q := by
  refine kc_of (cd := kd_M_pullOf) (mx := 6) (rt := 1) rfl rfl ?_
  intro P hP
  refine mgo_sound hP [] 260 _ _ _ _ _ ?_
  obtain ⟨j1, hj, h⟩ := bnd h
  refine go_ix j1 (ix_lt hj) (ix_eq hj) ?_
  obtain ⟨j2, hj, h⟩ := bnd h
  refine go_ix j2 (ix_lt hj) (ix_eq hj) ?_
  obtain ⟨j3, hj, h⟩ := bnd h
  refine go_ix j3 (ix_lt hj) (ix_eq hj) ?_
  obtain ⟨j4, hj, h⟩ := bnd h
  refine go_ix j4 (ix_lt hj) (ix_eq hj) ?_
  refine go_br (fun hc : (s.1 82 0 j3) = (s.1 82 0 j4) => ?_) (fun hc : ¬ ((s.1 82 0 j3) = (s.1 82 0 j4)) => ?_)
  · replace h := (if_pos hc).symm.trans h
    cases h
    exact hQ
  · replace h := (if_neg hc).symm.trans h
    obtain ⟨q5, hq, h⟩ := bnd h
    refine go_call (fun _ hw => c_M_farOf hq hw) ?_
    refine go_brn (fun hc : ¬ (q5 = 0) => ?_) (fun hc : q5 = 0 => ?_)
    · replace h := (if_neg hc).symm.trans h
      obtain ⟨j6, hj, h⟩ := bnd h
      refine go_ix j6 (ix_lt hj) (ix_eq hj) ?_
      obtain ⟨j7, hj, h⟩ := bnd h
      refine go_ix j7 (ix_lt hj) (ix_eq hj) ?_
      refine go_brn (fun hc : ¬ ((s.1 60 0 40) = (Int32.ofInt (-1))) => ?_) (fun hc : (s.1 60 0 40) = (Int32.ofInt (-1)) => ?_)
      · replace h := (if_neg hc).symm.trans h
        obtain ⟨q8, hq, h⟩ := bnd h
        refine go_call (fun _ hw => c_M_farOf hq hw) ?_
        replace h := bnds h
        refine go_ix 0 (Nat.le_of_ble_eq_true rfl) rfl ?_
        replace h := bnds h
        refine go_ix 1 (Nat.le_of_ble_eq_true rfl) rfl ?_
        replace h := bnds h
        refine go_ix 2 (Nat.le_of_ble_eq_true rfl) rfl ?_
        obtain ⟨j12, hj, h⟩ := bnd h
        refine go_ix j12 (ix_lt hj) (ix_eq hj) ?_
        obtain ⟨j13, hj, h⟩ := bnd h
        refine go_ix j13 (ix_lt hj) (ix_eq hj) ?_
        replace h := bnds h
        refine go_ix 3 (Nat.le_of_ble_eq_true rfl) rfl ?_
        obtain ⟨j15, hj, h⟩ := bnd h
        refine go_ix j15 (ix_lt hj) (ix_eq hj) ?_
        obtain ⟨j16, hj, h⟩ := bnd h
        refine go_ix j16 (ix_lt hj) (ix_eq hj) ?_
        replace h := bnds h
        refine go_ix 4 (Nat.le_of_ble_eq_true rfl) rfl ?_
        replace h := bnds h
        refine go_ix 5 (Nat.le_of_ble_eq_true rfl) rfl ?_
        obtain ⟨q19, hq, h⟩ := bnd h
        refine go_call (fun _ hw => c_M_worthOf hq hw) ?_
        cases h
        exact hQ
      · replace h := (if_pos hc).symm.trans h
        refine go_brn (fun hc : ¬ ((s.1 77 0 j6) = 0) => ?_) (fun hc : (s.1 77 0 j6) = 0 => ?_)
        · replace h := (if_neg hc).symm.trans h
          cases h
          exact hQ
        · replace h := (if_pos hc).symm.trans h
          cases h
          exact hQ
    · replace h := (if_pos hc).symm.trans h
      cases h
      exact hQ
/-! M_tie -/
def f_M_tie (a1 : Int32) (a2 : Int32) (s : S2) : Option (S2 × Int32) := (if (bI (g_M_isTie a1 s)) = 0 then some (s, (Int32.ofInt (-1000000))) else (if (bI (g_M_in a2 (Int32.ofInt 0) (Int32.ofInt 4) s)) = 0 then some (s, (Int32.ofInt (-1000000))) else (if (Int32.ofInt 4) ≤ a2 then ((f_M_pullOf a1 s).bind fun q1 => some (q1.1, q1.2)) else ((ix 44 (((Int32.ofInt 4) * a1) + a2)).bind fun j2 => some (s, (s.1 77 0 j2))))))
set_option maxRecDepth 20000 in
set_option maxHeartbeats 4000000 in
theorem c_M_tie {xs : Nat → Int32} {L d : Nat} {a1 : Int32} {a2 : Int32} {s : S2} {res : S2 × Int32} {Q : S2 → Option MV → Prop} (h : f_M_tie a1 a2 s = some res) (hQ : Q res.1 (some (mI res.2))) : kcall (O3 xs L) (d + 6) k_M_tie [mR 60 0, mI a1, mI a2] s Q := by
  refine kc_of (cd := kd_M_tie) (mx := 3) (rt := 1) rfl rfl ?_
  intro P hP
  refine mgo_sound hP [] 260 _ _ _ _ _ ?_
  refine go_call (fun _ hw => c_M_isTie hw) ?_
  refine go_br (fun hc : (bI (g_M_isTie a1 s)) = 0 => ?_) (fun hc : ¬ ((bI (g_M_isTie a1 s)) = 0) => ?_)
  · replace h := (if_pos hc).symm.trans h
    cases h
    exact hQ
  · replace h := (if_neg hc).symm.trans h
    refine go_call (fun _ hw => c_M_in hw) ?_
    refine go_brn (fun hc : ¬ ((bI (g_M_in a2 (Int32.ofInt 0) (Int32.ofInt 4) s)) = 0) => ?_) (fun hc : (bI (g_M_in a2 (Int32.ofInt 0) (Int32.ofInt 4) s)) = 0 => ?_)
    · replace h := (if_neg hc).symm.trans h
      refine go_br (fun hc : (Int32.ofInt 4) ≤ a2 => ?_) (fun hc : ¬ ((Int32.ofInt 4) ≤ a2) => ?_)
      · replace h := (if_pos hc).symm.trans h
        obtain ⟨q1, hq, h⟩ := bnd h
        refine go_call (fun _ hw => c_M_pullOf hq hw) ?_
        cases h
        exact hQ
      · replace h := (if_neg hc).symm.trans h
        obtain ⟨j2, hj, h⟩ := bnd h
        refine go_ix j2 (ix_lt hj) (ix_eq hj) ?_
        cases h
        exact hQ
    · replace h := (if_pos hc).symm.trans h
      cases h
      exact hQ
