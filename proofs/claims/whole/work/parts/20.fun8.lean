/-! M_agrees -/
def f_M_agrees_L102 (k9 : Int32 → Int32 → Int32 → S2 → Option (S2 × Bool)) (k25 : Int32 → Int32 → Int32 → Int32 → S2 → Option (S2 × Bool)) (x1 : Int32) (x3 : Int32) (x4 : Int32) (y0 : Int32) (s : S2) : Option (S2 × Bool) := (k25 x1 y0 x3 (x4 + (Int32.ofInt 1)) s)
def f_M_agrees_L101 (k9 : Int32 → Int32 → Int32 → S2 → Option (S2 × Bool)) (k25 : Int32 → Int32 → Int32 → Int32 → S2 → Option (S2 × Bool)) (x1 : Int32) (x3 : Int32) (x4 : Int32) (s : S2) : Option (S2 × Bool) := (f_M_agrees_L102 k9 k25 x1 x3 x4 (Int32.ofInt 0) s)
def f_M_agrees_L97 (k9 : Int32 → Int32 → Int32 → S2 → Option (S2 × Bool)) (k25 : Int32 → Int32 → Int32 → Int32 → S2 → Option (S2 × Bool)) (x1 : Int32) (x3 : Int32) (x4 : Int32) (s : S2) : Option (S2 × Bool) := (f_M_agrees_L102 k9 k25 x1 x3 x4 (Int32.ofInt 1) s)
def b_M_agrees_L25 (k9 : Int32 → Int32 → Int32 → S2 → Option (S2 × Bool)) (k25 : Int32 → Int32 → Int32 → Int32 → S2 → Option (S2 × Bool)) (x1 : Int32) (x2 : Int32) (x3 : Int32) (x4 : Int32) (s : S2) : Option (S2 × Bool) := (if (s.1 60 0 76) ≤ x4 then (k9 x1 x2 (x3 + (Int32.ofInt 1)) s) else ((ix 20 x4).bind fun j1 => ((ix 6 (s.1 98 0 j1)).bind fun j2 => (if x2 = 0 then (f_M_agrees_L101 k9 k25 x1 x3 x4 s) else ((ix 20 x4).bind fun j3 => (if (s.1 97 0 j3) = x3 then ((ix 6 (s.1 82 0 j2)).bind fun j4 => ((ix 20 x4).bind fun j5 => (if (s.1 79 0 j4) = (s.1 99 0 j5) then ((ix 6 (s.1 82 0 j2)).bind fun j6 => ((ix 20 x4).bind fun j7 => (if (s.1 80 0 j6) = (s.1 100 0 j7) then (f_M_agrees_L97 k9 k25 x1 x3 x4 s) else (f_M_agrees_L101 k9 k25 x1 x3 x4 s)))) else (f_M_agrees_L101 k9 k25 x1 x3 x4 s)))) else (f_M_agrees_L97 k9 k25 x1 x3 x4 s)))))))
def f_M_agrees_L25 (k9 : Int32 → Int32 → Int32 → S2 → Option (S2 × Bool)) : Nat → Int32 → Int32 → Int32 → Int32 → S2 → Option (S2 × Bool)
  | 0 => fun _ _ _ _ _ => none
  | n + 1 => b_M_agrees_L25 k9 (f_M_agrees_L25 k9 n)
def b_M_agrees_L9 (k9 : Int32 → Int32 → Int32 → S2 → Option (S2 × Bool)) (x1 : Int32) (x2 : Int32) (x3 : Int32) (s : S2) : Option (S2 × Bool) := (if x1 < x3 then ((rb x2).bind fun b1 => some (s, b1)) else (if x2 = 0 then ((rb x2).bind fun b2 => some (s, b2)) else ((f_M_pass s).bind fun q3 => (f_M_agrees_L25 k9 FU x1 x2 x3 (Int32.ofInt 0) q3))))
def f_M_agrees_L9 : Nat → Int32 → Int32 → Int32 → S2 → Option (S2 × Bool)
  | 0 => fun _ _ _ _ => none
  | n + 1 => b_M_agrees_L9 (f_M_agrees_L9 n)
def f_M_agrees (s : S2) : Option (S2 × Bool) := ((f_M_lastChart s).bind fun q1 => (f_M_agrees_L9 FU q1 (Int32.ofInt 1) (Int32.ofInt 1) s))
theorem c_M_agrees_L102 {xs : Nat → Int32} {L d : Nat} {P : MK S2} {Q : S2 → Option MV → Prop} {res : S2 × Bool} (hP : MClosed (O3 xs L) (kcall (O3 xs L) (d + 8)) kd_M_agrees 2 Q P) (hQ : Q res.1 (some (mI (bI res.2)))) {k9 : Int32 → Int32 → Int32 → S2 → Option (S2 × Bool)} {k25 : Int32 → Int32 → Int32 → Int32 → S2 → Option (S2 × Bool)} (hk9 : ∀ (x1 : Int32) (x2 : Int32) (x3 : Int32) (x4 : Option Int32) (x5 : Option Int32) (s : S2), k9 x1 x2 x3 s = some res → P 9 [some (mR 60 0), some (mI x1), some (mI x2), some (mI x3), oI x4, oI x5] [] s (0, 0)) (hk25 : ∀ (x1 : Int32) (x2 : Int32) (x3 : Int32) (x4 : Int32) (x5 : Option Int32) (s : S2), k25 x1 x2 x3 x4 s = some res → P 25 [some (mR 60 0), some (mI x1), some (mI x2), some (mI x3), some (mI x4), oI x5] [] s (0, 0)) (x1 : Int32) (x3 : Int32) (x4 : Int32) (y0 : Int32) (x2 : Int32) (x5 : Int32) (s : S2) (h : f_M_agrees_L102 k9 k25 x1 x3 x4 y0 s = some res) : P 102 [some (mR 60 0), some (mI x1), some (mI x2), some (mI x3), some (mI x4), some (mI x5)] [mI y0] s (0, 0) := by
  refine mgo_from hP [9, 25, 97, 101, 102] 260 ?_
  exact hk25 _ _ _ _ (some x5) _ h
theorem c_M_agrees_L101 {xs : Nat → Int32} {L d : Nat} {P : MK S2} {Q : S2 → Option MV → Prop} {res : S2 × Bool} (hP : MClosed (O3 xs L) (kcall (O3 xs L) (d + 8)) kd_M_agrees 2 Q P) (hQ : Q res.1 (some (mI (bI res.2)))) {k9 : Int32 → Int32 → Int32 → S2 → Option (S2 × Bool)} {k25 : Int32 → Int32 → Int32 → Int32 → S2 → Option (S2 × Bool)} (hk9 : ∀ (x1 : Int32) (x2 : Int32) (x3 : Int32) (x4 : Option Int32) (x5 : Option Int32) (s : S2), k9 x1 x2 x3 s = some res → P 9 [some (mR 60 0), some (mI x1), some (mI x2), some (mI x3), oI x4, oI x5] [] s (0, 0)) (hk25 : ∀ (x1 : Int32) (x2 : Int32) (x3 : Int32) (x4 : Int32) (x5 : Option Int32) (s : S2), k25 x1 x2 x3 x4 s = some res → P 25 [some (mR 60 0), some (mI x1), some (mI x2), some (mI x3), some (mI x4), oI x5] [] s (0, 0)) (x1 : Int32) (x3 : Int32) (x4 : Int32) (x2 : Int32) (x5 : Int32) (s : S2) (h : f_M_agrees_L101 k9 k25 x1 x3 x4 s = some res) : P 101 [some (mR 60 0), some (mI x1), some (mI x2), some (mI x3), some (mI x4), some (mI x5)] [] s (0, 0) := by
  refine mgo_from hP [9, 25, 97, 101, 102] 260 ?_
  exact c_M_agrees_L102 hP hQ hk9 hk25 _ _ _ _ _ _ _ h
theorem c_M_agrees_L97 {xs : Nat → Int32} {L d : Nat} {P : MK S2} {Q : S2 → Option MV → Prop} {res : S2 × Bool} (hP : MClosed (O3 xs L) (kcall (O3 xs L) (d + 8)) kd_M_agrees 2 Q P) (hQ : Q res.1 (some (mI (bI res.2)))) {k9 : Int32 → Int32 → Int32 → S2 → Option (S2 × Bool)} {k25 : Int32 → Int32 → Int32 → Int32 → S2 → Option (S2 × Bool)} (hk9 : ∀ (x1 : Int32) (x2 : Int32) (x3 : Int32) (x4 : Option Int32) (x5 : Option Int32) (s : S2), k9 x1 x2 x3 s = some res → P 9 [some (mR 60 0), some (mI x1), some (mI x2), some (mI x3), oI x4, oI x5] [] s (0, 0)) (hk25 : ∀ (x1 : Int32) (x2 : Int32) (x3 : Int32) (x4 : Int32) (x5 : Option Int32) (s : S2), k25 x1 x2 x3 x4 s = some res → P 25 [some (mR 60 0), some (mI x1), some (mI x2), some (mI x3), some (mI x4), oI x5] [] s (0, 0)) (x1 : Int32) (x3 : Int32) (x4 : Int32) (x2 : Int32) (x5 : Int32) (s : S2) (h : f_M_agrees_L97 k9 k25 x1 x3 x4 s = some res) : P 97 [some (mR 60 0), some (mI x1), some (mI x2), some (mI x3), some (mI x4), some (mI x5)] [] s (0, 0) := by
  refine mgo_from hP [9, 25, 97, 101, 102] 260 ?_
  exact c_M_agrees_L102 hP hQ hk9 hk25 _ _ _ _ _ _ _ h
set_option maxRecDepth 20000 in
set_option maxHeartbeats 4000000 in
theorem cb_M_agrees_L25 {xs : Nat → Int32} {L d : Nat} {P : MK S2} {Q : S2 → Option MV → Prop} {res : S2 × Bool} (hP : MClosed (O3 xs L) (kcall (O3 xs L) (d + 8)) kd_M_agrees 2 Q P) (hQ : Q res.1 (some (mI (bI res.2)))) {k9 : Int32 → Int32 → Int32 → S2 → Option (S2 × Bool)} (hk9 : ∀ (x1 : Int32) (x2 : Int32) (x3 : Int32) (x4 : Option Int32) (x5 : Option Int32) (s : S2), k9 x1 x2 x3 s = some res → P 9 [some (mR 60 0), some (mI x1), some (mI x2), some (mI x3), oI x4, oI x5] [] s (0, 0)) {k25 : Int32 → Int32 → Int32 → Int32 → S2 → Option (S2 × Bool)} (hk25 : ∀ (x1 : Int32) (x2 : Int32) (x3 : Int32) (x4 : Int32) (x5 : Option Int32) (s : S2), k25 x1 x2 x3 x4 s = some res → P 25 [some (mR 60 0), some (mI x1), some (mI x2), some (mI x3), some (mI x4), oI x5] [] s (0, 0)) (x1 : Int32) (x2 : Int32) (x3 : Int32) (x4 : Int32) (x5 : Option Int32) (s : S2) (h : b_M_agrees_L25 k9 k25 x1 x2 x3 x4 s = some res) : P 25 [some (mR 60 0), some (mI x1), some (mI x2), some (mI x3), some (mI x4), oI x5] [] s (0, 0) := by
  refine mgo_from hP [9, 25, 97, 101, 102] 260 ?_
  refine go_br (fun hc : (s.1 60 0 76) ≤ x4 => ?_) (fun hc : ¬ ((s.1 60 0 76) ≤ x4) => ?_)
  · replace h := (if_pos hc).symm.trans h
    exact hk9 _ _ _ (some x4) x5 _ h
  · replace h := (if_neg hc).symm.trans h
    obtain ⟨j1, hj, h⟩ := bnd h
    refine go_ix j1 (ix_lt hj) (ix_eq hj) ?_
    obtain ⟨j2, hj, h⟩ := bnd h
    refine go_ix j2 (ix_lt hj) (ix_eq hj) ?_
    refine go_br (fun hc : x2 = 0 => ?_) (fun hc : ¬ (x2 = 0) => ?_)
    · replace h := (if_pos hc).symm.trans h
      exact c_M_agrees_L101 hP hQ hk9 hk25 _ _ _ _ _ _ h
    · replace h := (if_neg hc).symm.trans h
      obtain ⟨j3, hj, h⟩ := bnd h
      refine go_ix j3 (ix_lt hj) (ix_eq hj) ?_
      refine go_brn (fun hc : ¬ ((s.1 97 0 j3) = x3) => ?_) (fun hc : (s.1 97 0 j3) = x3 => ?_)
      · replace h := (if_neg hc).symm.trans h
        exact c_M_agrees_L97 hP hQ hk9 hk25 _ _ _ _ _ _ h
      · replace h := (if_pos hc).symm.trans h
        obtain ⟨j4, hj, h⟩ := bnd h
        refine go_ix j4 (ix_lt hj) (ix_eq hj) ?_
        obtain ⟨j5, hj, h⟩ := bnd h
        refine go_ix j5 (ix_lt hj) (ix_eq hj) ?_
        refine go_brn (fun hc : ¬ ((s.1 79 0 j4) = (s.1 99 0 j5)) => ?_) (fun hc : (s.1 79 0 j4) = (s.1 99 0 j5) => ?_)
        · replace h := (if_neg hc).symm.trans h
          exact c_M_agrees_L101 hP hQ hk9 hk25 _ _ _ _ _ _ h
        · replace h := (if_pos hc).symm.trans h
          obtain ⟨j6, hj, h⟩ := bnd h
          refine go_ix j6 (ix_lt hj) (ix_eq hj) ?_
          obtain ⟨j7, hj, h⟩ := bnd h
          refine go_ix j7 (ix_lt hj) (ix_eq hj) ?_
          refine go_brn (fun hc : ¬ ((s.1 80 0 j6) = (s.1 100 0 j7)) => ?_) (fun hc : (s.1 80 0 j6) = (s.1 100 0 j7) => ?_)
          · replace h := (if_neg hc).symm.trans h
            exact c_M_agrees_L101 hP hQ hk9 hk25 _ _ _ _ _ _ h
          · replace h := (if_pos hc).symm.trans h
            exact c_M_agrees_L97 hP hQ hk9 hk25 _ _ _ _ _ _ h
theorem c_M_agrees_L25 {xs : Nat → Int32} {L d : Nat} {P : MK S2} {Q : S2 → Option MV → Prop} {res : S2 × Bool} (hP : MClosed (O3 xs L) (kcall (O3 xs L) (d + 8)) kd_M_agrees 2 Q P) (hQ : Q res.1 (some (mI (bI res.2)))) {k9 : Int32 → Int32 → Int32 → S2 → Option (S2 × Bool)} (hk9 : ∀ (x1 : Int32) (x2 : Int32) (x3 : Int32) (x4 : Option Int32) (x5 : Option Int32) (s : S2), k9 x1 x2 x3 s = some res → P 9 [some (mR 60 0), some (mI x1), some (mI x2), some (mI x3), oI x4, oI x5] [] s (0, 0)) : ∀ (fu : Nat) (x1 : Int32) (x2 : Int32) (x3 : Int32) (x4 : Int32) (x5 : Option Int32) (s : S2), f_M_agrees_L25 k9 fu x1 x2 x3 x4 s = some res → P 25 [some (mR 60 0), some (mI x1), some (mI x2), some (mI x3), some (mI x4), oI x5] [] s (0, 0)
  | 0, _, _, _, _, _, _, h => by cases h
  | fu + 1, x1, x2, x3, x4, x5, s, h => cb_M_agrees_L25 hP hQ hk9 (c_M_agrees_L25 hP hQ hk9 fu) x1 x2 x3 x4 x5 s h
theorem cb_M_agrees_L9 {xs : Nat → Int32} {L d : Nat} {P : MK S2} {Q : S2 → Option MV → Prop} {res : S2 × Bool} (hP : MClosed (O3 xs L) (kcall (O3 xs L) (d + 8)) kd_M_agrees 2 Q P) (hQ : Q res.1 (some (mI (bI res.2)))) {k9 : Int32 → Int32 → Int32 → S2 → Option (S2 × Bool)} (hk9 : ∀ (x1 : Int32) (x2 : Int32) (x3 : Int32) (x4 : Option Int32) (x5 : Option Int32) (s : S2), k9 x1 x2 x3 s = some res → P 9 [some (mR 60 0), some (mI x1), some (mI x2), some (mI x3), oI x4, oI x5] [] s (0, 0)) (x1 : Int32) (x2 : Int32) (x3 : Int32) (x4 : Option Int32) (x5 : Option Int32) (s : S2) (h : b_M_agrees_L9 k9 x1 x2 x3 s = some res) : P 9 [some (mR 60 0), some (mI x1), some (mI x2), some (mI x3), oI x4, oI x5] [] s (0, 0) := by
  refine mgo_from hP [9, 25, 97, 101, 102] 260 ?_
  refine go_br (fun hc : x1 < x3 => ?_) (fun hc : ¬ (x1 < x3) => ?_)
  · replace h := (if_pos hc).symm.trans h
    obtain ⟨b1, hb, h⟩ := bnd h
    cases h
    exact ret_z hb hQ
  · replace h := (if_neg hc).symm.trans h
    refine go_br (fun hc : x2 = 0 => ?_) (fun hc : ¬ (x2 = 0) => ?_)
    · replace h := (if_pos hc).symm.trans h
      obtain ⟨b2, hb, h⟩ := bnd h
      cases h
      exact ret_z hb hQ
    · replace h := (if_neg hc).symm.trans h
      obtain ⟨q3, hq, h⟩ := bnd h
      refine go_call (fun _ hw => c_M_pass hq hw) ?_
      exact c_M_agrees_L25 hP hQ hk9 FU _ _ _ _ x5 _ h
theorem c_M_agrees_L9 {xs : Nat → Int32} {L d : Nat} {P : MK S2} {Q : S2 → Option MV → Prop} {res : S2 × Bool} (hP : MClosed (O3 xs L) (kcall (O3 xs L) (d + 8)) kd_M_agrees 2 Q P) (hQ : Q res.1 (some (mI (bI res.2)))) : ∀ (fu : Nat) (x1 : Int32) (x2 : Int32) (x3 : Int32) (x4 : Option Int32) (x5 : Option Int32) (s : S2), f_M_agrees_L9 fu x1 x2 x3 s = some res → P 9 [some (mR 60 0), some (mI x1), some (mI x2), some (mI x3), oI x4, oI x5] [] s (0, 0)
  | 0, _, _, _, _, _, _, h => by cases h
  | fu + 1, x1, x2, x3, x4, x5, s, h => cb_M_agrees_L9 hP hQ (c_M_agrees_L9 hP hQ fu) x1 x2 x3 x4 x5 s h
theorem c_M_agrees {xs : Nat → Int32} {L d : Nat} {s : S2} {res : S2 × Bool} {Q : S2 → Option MV → Prop} (h : f_M_agrees s = some res) (hQ : Q res.1 (some (mI (bI res.2)))) : kcall (O3 xs L) (d + 9) k_M_agrees [mR 60 0] s Q := by
  refine kc_of (cd := kd_M_agrees) (mx := 6) (rt := 2) rfl rfl ?_
  intro P hP
  refine mgo_sound hP [9, 25, 97, 101, 102] 260 _ _ _ _ _ ?_
  obtain ⟨q1, hq, h⟩ := bnd h
  refine go_call (fun _ hw => c_M_lastChart hq hw) ?_
  exact c_M_agrees_L9 hP hQ FU _ _ _ none none _ h
/-! M_secret -/
def f_M_secret_L135 (k18 : Int32 → Int32 → Int32 → S2 → Option (S2 × Int32)) (x1 : Int32) (x2 : Int32) (x3 : Int32) (s : S2) : Option (S2 × Int32) := (k18 x1 x2 (x3 + (Int32.ofInt 1)) s)
def b_M_secret_L18 (k18 : Int32 → Int32 → Int32 → S2 → Option (S2 × Int32)) (x1 : Int32) (x2 : Int32) (x3 : Int32) (s : S2) : Option (S2 × Int32) := (if ((Int32.ofInt 1000) * (s.1 60 0 28)) ≤ x3 then (if x1 = (Int32.ofInt (-1)) then some (s, x2) else some (s, (Int32.ofInt (-1)))) else (if (jrem (x3 / (Int32.ofInt 100)) (Int32.ofInt 10)) ≤ (x3 / (Int32.ofInt 1000)) then (f_M_secret_L135 k18 x1 x2 x3 s) else (if (s.1 60 0 28) ≤ (jrem (x3 / (Int32.ofInt 100)) (Int32.ofInt 10)) then (f_M_secret_L135 k18 x1 x2 x3 s) else (if (Int32.ofInt 2) ≤ (jrem (x3 / (Int32.ofInt 10)) (Int32.ofInt 10)) then (f_M_secret_L135 k18 x1 x2 x3 s) else (if (bI (g_M_in (jrem x3 (Int32.ofInt 10)) (Int32.ofInt 1) (Int32.ofInt 3) s)) = 0 then (f_M_secret_L135 k18 x1 x2 x3 s) else ((f_M_putAside s).bind fun q1 => ((f_M_deal (x3 / (Int32.ofInt 1000)) (jrem (x3 / (Int32.ofInt 100)) (Int32.ofInt 10)) (jrem (x3 / (Int32.ofInt 10)) (Int32.ofInt 10)) (jrem x3 (Int32.ofInt 10)) q1).bind fun q2 => ((f_M_agrees q2).bind fun q3 => ((f_M_takeBack q3.1).bind fun q4 => (if (bI q3.2) = 0 then (f_M_secret_L135 k18 x1 x2 x3 q4) else (if x2 = x1 then some (q4, x3) else (f_M_secret_L135 k18 x1 (x2 + (Int32.ofInt 1)) x3 q4))))))))))))
def f_M_secret_L18 : Nat → Int32 → Int32 → Int32 → S2 → Option (S2 × Int32)
  | 0 => fun _ _ _ _ => none
  | n + 1 => b_M_secret_L18 (f_M_secret_L18 n)
def f_M_secret (a1 : Int32) (s : S2) : Option (S2 × Int32) := (if (s.1 60 0 28) = 0 then some (s, (Int32.ofInt (-1))) else (if (Int32.ofInt (-1)) ≤ a1 then (f_M_secret_L18 FU a1 (Int32.ofInt 0) (Int32.ofInt 0) s) else some (s, (Int32.ofInt (-1)))))
theorem c_M_secret_L135 {xs : Nat → Int32} {L d : Nat} {P : MK S2} {Q : S2 → Option MV → Prop} {res : S2 × Int32} (hP : MClosed (O3 xs L) (kcall (O3 xs L) (d + 9)) kd_M_secret 1 Q P) (hQ : Q res.1 (some (mI res.2))) {k18 : Int32 → Int32 → Int32 → S2 → Option (S2 × Int32)} (hk18 : ∀ (x1 : Int32) (x2 : Int32) (x3 : Int32) (x4 : Option Int32) (x5 : Option Int32) (x6 : Option Int32) (x7 : Option Int32) (s : S2), k18 x1 x2 x3 s = some res → P 18 [some (mR 60 0), some (mI x1), some (mI x2), some (mI x3), oI x4, oI x5, oI x6, oI x7] [] s (0, 0)) (x1 : Int32) (x2 : Int32) (x3 : Int32) (x4 : Int32) (x5 : Int32) (x6 : Int32) (x7 : Option Int32) (s : S2) (h : f_M_secret_L135 k18 x1 x2 x3 s = some res) : P 135 [some (mR 60 0), some (mI x1), some (mI x2), some (mI x3), some (mI x4), some (mI x5), some (mI x6), oI x7] [] s (0, 0) := by
  refine mgo_from hP [18, 135] 260 ?_
  exact hk18 _ _ _ (some x4) (some x5) (some x6) x7 _ h
set_option maxRecDepth 20000 in
set_option maxHeartbeats 4000000 in
theorem cb_M_secret_L18 {xs : Nat → Int32} {L d : Nat} {P : MK S2} {Q : S2 → Option MV → Prop} {res : S2 × Int32} (hP : MClosed (O3 xs L) (kcall (O3 xs L) (d + 9)) kd_M_secret 1 Q P) (hQ : Q res.1 (some (mI res.2))) {k18 : Int32 → Int32 → Int32 → S2 → Option (S2 × Int32)} (hk18 : ∀ (x1 : Int32) (x2 : Int32) (x3 : Int32) (x4 : Option Int32) (x5 : Option Int32) (x6 : Option Int32) (x7 : Option Int32) (s : S2), k18 x1 x2 x3 s = some res → P 18 [some (mR 60 0), some (mI x1), some (mI x2), some (mI x3), oI x4, oI x5, oI x6, oI x7] [] s (0, 0)) (x1 : Int32) (x2 : Int32) (x3 : Int32) (x4 : Option Int32) (x5 : Option Int32) (x6 : Option Int32) (x7 : Option Int32) (s : S2) (h : b_M_secret_L18 k18 x1 x2 x3 s = some res) : P 18 [some (mR 60 0), some (mI x1), some (mI x2), some (mI x3), oI x4, oI x5, oI x6, oI x7] [] s (0, 0) := by
  refine mgo_from hP [18, 135] 260 ?_
  refine go_br (fun hc : ((Int32.ofInt 1000) * (s.1 60 0 28)) ≤ x3 => ?_) (fun hc : ¬ (((Int32.ofInt 1000) * (s.1 60 0 28)) ≤ x3) => ?_)
  · replace h := (if_pos hc).symm.trans h
    refine go_brn (fun hc : ¬ (x1 = (Int32.ofInt (-1))) => ?_) (fun hc : x1 = (Int32.ofInt (-1)) => ?_)
    · replace h := (if_neg hc).symm.trans h
      cases h
      exact hQ
    · replace h := (if_pos hc).symm.trans h
      cases h
      exact hQ
  · replace h := (if_neg hc).symm.trans h
    refine go_and (by decide) ?_
    refine go_and (by decide) ?_
    refine go_and (by decide) ?_
    refine go_and (by decide) ?_
    refine go_br (fun hc : (jrem (x3 / (Int32.ofInt 100)) (Int32.ofInt 10)) ≤ (x3 / (Int32.ofInt 1000)) => ?_) (fun hc : ¬ ((jrem (x3 / (Int32.ofInt 100)) (Int32.ofInt 10)) ≤ (x3 / (Int32.ofInt 1000))) => ?_)
    · replace h := (if_pos hc).symm.trans h
      exact c_M_secret_L135 hP hQ hk18 _ _ _ _ _ _ x7 _ h
    · replace h := (if_neg hc).symm.trans h
      refine go_br (fun hc : (s.1 60 0 28) ≤ (jrem (x3 / (Int32.ofInt 100)) (Int32.ofInt 10)) => ?_) (fun hc : ¬ ((s.1 60 0 28) ≤ (jrem (x3 / (Int32.ofInt 100)) (Int32.ofInt 10))) => ?_)
      · replace h := (if_pos hc).symm.trans h
        exact c_M_secret_L135 hP hQ hk18 _ _ _ _ _ _ x7 _ h
      · replace h := (if_neg hc).symm.trans h
        refine go_and (by decide) ?_
        refine go_and (by decide) ?_
        refine go_br (fun hc : (Int32.ofInt 2) ≤ (jrem (x3 / (Int32.ofInt 10)) (Int32.ofInt 10)) => ?_) (fun hc : ¬ ((Int32.ofInt 2) ≤ (jrem (x3 / (Int32.ofInt 10)) (Int32.ofInt 10))) => ?_)
        · replace h := (if_pos hc).symm.trans h
          exact c_M_secret_L135 hP hQ hk18 _ _ _ _ _ _ x7 _ h
        · replace h := (if_neg hc).symm.trans h
          refine go_call (fun _ hw => c_M_in hw) ?_
          refine go_br (fun hc : (bI (g_M_in (jrem x3 (Int32.ofInt 10)) (Int32.ofInt 1) (Int32.ofInt 3) s)) = 0 => ?_) (fun hc : ¬ ((bI (g_M_in (jrem x3 (Int32.ofInt 10)) (Int32.ofInt 1) (Int32.ofInt 3) s)) = 0) => ?_)
          · replace h := (if_pos hc).symm.trans h
            exact c_M_secret_L135 hP hQ hk18 _ _ _ _ _ _ x7 _ h
          · replace h := (if_neg hc).symm.trans h
            obtain ⟨q1, hq, h⟩ := bnd h
            refine go_call (fun _ hw => c_M_putAside hq hw) ?_
            refine go_and (by decide) ?_
            refine go_and (by decide) ?_
            obtain ⟨q2, hq, h⟩ := bnd h
            refine go_call (fun _ hw => c_M_deal hq hw) ?_
            obtain ⟨q3, hq, h⟩ := bnd h
            refine go_call (fun _ hw => c_M_agrees hq hw) ?_
            obtain ⟨q4, hq, h⟩ := bnd h
            refine go_call (fun _ hw => c_M_takeBack hq hw) ?_
            refine go_br (fun hc : (bI q3.2) = 0 => ?_) (fun hc : ¬ ((bI q3.2) = 0) => ?_)
            · replace h := (if_pos hc).symm.trans h
              exact c_M_secret_L135 hP hQ hk18 _ _ _ _ _ _ (some (bI q3.2)) _ h
            · replace h := (if_neg hc).symm.trans h
              refine go_brn (fun hc : ¬ (x2 = x1) => ?_) (fun hc : x2 = x1 => ?_)
              · replace h := (if_neg hc).symm.trans h
                exact c_M_secret_L135 hP hQ hk18 _ _ _ _ _ _ (some (bI q3.2)) _ h
              · replace h := (if_pos hc).symm.trans h
                cases h
                exact hQ
theorem c_M_secret_L18 {xs : Nat → Int32} {L d : Nat} {P : MK S2} {Q : S2 → Option MV → Prop} {res : S2 × Int32} (hP : MClosed (O3 xs L) (kcall (O3 xs L) (d + 9)) kd_M_secret 1 Q P) (hQ : Q res.1 (some (mI res.2))) : ∀ (fu : Nat) (x1 : Int32) (x2 : Int32) (x3 : Int32) (x4 : Option Int32) (x5 : Option Int32) (x6 : Option Int32) (x7 : Option Int32) (s : S2), f_M_secret_L18 fu x1 x2 x3 s = some res → P 18 [some (mR 60 0), some (mI x1), some (mI x2), some (mI x3), oI x4, oI x5, oI x6, oI x7] [] s (0, 0)
  | 0, _, _, _, _, _, _, _, _, h => by cases h
  | fu + 1, x1, x2, x3, x4, x5, x6, x7, s, h => cb_M_secret_L18 hP hQ (c_M_secret_L18 hP hQ fu) x1 x2 x3 x4 x5 x6 x7 s h
theorem c_M_secret {xs : Nat → Int32} {L d : Nat} {a1 : Int32} {s : S2} {res : S2 × Int32} {Q : S2 → Option MV → Prop} (h : f_M_secret a1 s = some res) (hQ : Q res.1 (some (mI res.2))) : kcall (O3 xs L) (d + 10) k_M_secret [mR 60 0, mI a1] s Q := by
  refine kc_of (cd := kd_M_secret) (mx := 8) (rt := 1) rfl rfl ?_
  intro P hP
  refine mgo_sound hP [18, 135] 260 _ _ _ _ _ ?_
  refine go_br (fun hc : (s.1 60 0 28) = 0 => ?_) (fun hc : ¬ ((s.1 60 0 28) = 0) => ?_)
  · replace h := (if_pos hc).symm.trans h
    cases h
    exact hQ
  · replace h := (if_neg hc).symm.trans h
    refine go_br (fun hc : (Int32.ofInt (-1)) ≤ a1 => ?_) (fun hc : ¬ ((Int32.ofInt (-1)) ≤ a1) => ?_)
    · replace h := (if_pos hc).symm.trans h
      exact c_M_secret_L18 hP hQ FU _ _ _ none none none none _ h
    · replace h := (if_neg hc).symm.trans h
      cases h
      exact hQ
/-! M_when -/
def f_M_when_L109 (x4 : Int32) (s : S2) : Option (S2 × Int32) := ((f_M_takeBack s).bind fun q1 => some (q1, x4))
def f_M_when_L101 (k62 : Int32 → Int32 → Int32 → Int32 → Int32 → S2 → Option (S2 × Int32)) (x1 : Int32) (x2 : Int32) (x3 : Int32) (x5 : Int32) (y0 : Int32) (s : S2) : Option (S2 × Int32) := (k62 x1 x2 x3 y0 (x5 + (Int32.ofInt 1)) s)
def b_M_when_L62 (k62 : Int32 → Int32 → Int32 → Int32 → Int32 → S2 → Option (S2 × Int32)) (x1 : Int32) (x2 : Int32) (x3 : Int32) (x4 : Int32) (x5 : Int32) (s : S2) : Option (S2 × Int32) := (if x3 < x5 then (f_M_when_L109 x4 s) else (if x4 = (Int32.ofInt (-1)) then ((f_M_pass s).bind fun q1 => ((f_M_fromAll x2 q1).bind fun q2 => ((ix 6 x1).bind fun j3 => (if (bI (g_M_has q2 (q1.1 82 0 j3) q1)) = 0 then (f_M_when_L101 k62 x1 x2 x3 x5 (Int32.ofInt (-1)) q1) else (f_M_when_L101 k62 x1 x2 x3 x5 x5 q1))))) else (f_M_when_L109 x4 s)))
def f_M_when_L62 : Nat → Int32 → Int32 → Int32 → Int32 → Int32 → S2 → Option (S2 × Int32)
  | 0 => fun _ _ _ _ _ _ => none
  | n + 1 => b_M_when_L62 (f_M_when_L62 n)
def f_M_when_L57 (x1 : Int32) (x2 : Int32) (x3 : Int32) (y0 : Int32) (s : S2) : Option (S2 × Int32) := (f_M_when_L62 FU x1 x2 x3 y0 (Int32.ofInt 1) s)
def f_M_when (a1 : Int32) (a2 : Int32) (a3 : Int32) (s : S2) : Option (S2 × Int32) := (if (bI (g_M_isIsle a1 s)) = 0 then some (s, (Int32.ofInt (-1))) else (if (bI (g_M_in a2 (Int32.ofInt 0) (Int32.ofInt 999) s)) = 0 then some (s, (Int32.ofInt (-1))) else (if (bI (g_M_in a3 (Int32.ofInt 0) (Int32.ofInt 60) s)) = 0 then some (s, (Int32.ofInt (-1))) else ((f_M_putAside s).bind fun q1 => ((f_M_fromAll a2 q1).bind fun q2 => ((ix 6 a1).bind fun j3 => (if (bI (g_M_has q2 (q1.1 82 0 j3) q1)) = 0 then (f_M_when_L57 a1 a2 a3 (Int32.ofInt (-1)) q1) else (f_M_when_L57 a1 a2 a3 (Int32.ofInt 0) q1))))))))
theorem c_M_when_L109 {xs : Nat → Int32} {L d : Nat} {P : MK S2} {Q : S2 → Option MV → Prop} {res : S2 × Int32} (hP : MClosed (O3 xs L) (kcall (O3 xs L) (d + 8)) kd_M_when 1 Q P) (hQ : Q res.1 (some (mI res.2))) (x4 : Int32) (x1 : Int32) (x2 : Int32) (x3 : Int32) (x5 : Int32) (s : S2) (h : f_M_when_L109 x4 s = some res) : P 109 [some (mR 60 0), some (mI x1), some (mI x2), some (mI x3), some (mI x4), some (mI x5)] [] s (0, 0) := by
  refine mgo_from hP [57, 62, 101, 109] 260 ?_
  obtain ⟨q1, hq, h⟩ := bnd h
  refine go_call (fun _ hw => c_M_takeBack hq hw) ?_
  cases h
  exact hQ
theorem c_M_when_L101 {xs : Nat → Int32} {L d : Nat} {P : MK S2} {Q : S2 → Option MV → Prop} {res : S2 × Int32} (hP : MClosed (O3 xs L) (kcall (O3 xs L) (d + 8)) kd_M_when 1 Q P) (hQ : Q res.1 (some (mI res.2))) {k62 : Int32 → Int32 → Int32 → Int32 → Int32 → S2 → Option (S2 × Int32)} (hk62 : ∀ (x1 : Int32) (x2 : Int32) (x3 : Int32) (x4 : Int32) (x5 : Int32) (s : S2), k62 x1 x2 x3 x4 x5 s = some res → P 62 [some (mR 60 0), some (mI x1), some (mI x2), some (mI x3), some (mI x4), some (mI x5)] [] s (0, 0)) (x1 : Int32) (x2 : Int32) (x3 : Int32) (x5 : Int32) (y0 : Int32) (x4 : Int32) (s : S2) (h : f_M_when_L101 k62 x1 x2 x3 x5 y0 s = some res) : P 101 [some (mR 60 0), some (mI x1), some (mI x2), some (mI x3), some (mI x4), some (mI x5)] [mI y0] s (0, 0) := by
  refine mgo_from hP [57, 62, 101, 109] 260 ?_
  exact hk62 _ _ _ _ _ _ h
theorem cb_M_when_L62 {xs : Nat → Int32} {L d : Nat} {P : MK S2} {Q : S2 → Option MV → Prop} {res : S2 × Int32} (hP : MClosed (O3 xs L) (kcall (O3 xs L) (d + 8)) kd_M_when 1 Q P) (hQ : Q res.1 (some (mI res.2))) {k62 : Int32 → Int32 → Int32 → Int32 → Int32 → S2 → Option (S2 × Int32)} (hk62 : ∀ (x1 : Int32) (x2 : Int32) (x3 : Int32) (x4 : Int32) (x5 : Int32) (s : S2), k62 x1 x2 x3 x4 x5 s = some res → P 62 [some (mR 60 0), some (mI x1), some (mI x2), some (mI x3), some (mI x4), some (mI x5)] [] s (0, 0)) (x1 : Int32) (x2 : Int32) (x3 : Int32) (x4 : Int32) (x5 : Int32) (s : S2) (h : b_M_when_L62 k62 x1 x2 x3 x4 x5 s = some res) : P 62 [some (mR 60 0), some (mI x1), some (mI x2), some (mI x3), some (mI x4), some (mI x5)] [] s (0, 0) := by
  refine mgo_from hP [57, 62, 101, 109] 260 ?_
  refine go_br (fun hc : x3 < x5 => ?_) (fun hc : ¬ (x3 < x5) => ?_)
  · replace h := (if_pos hc).symm.trans h
    exact c_M_when_L109 hP hQ _ _ _ _ _ _ h
  · replace h := (if_neg hc).symm.trans h
    refine go_brn (fun hc : ¬ (x4 = (Int32.ofInt (-1))) => ?_) (fun hc : x4 = (Int32.ofInt (-1)) => ?_)
    · replace h := (if_neg hc).symm.trans h
      exact c_M_when_L109 hP hQ _ _ _ _ _ _ h
    · replace h := (if_pos hc).symm.trans h
      obtain ⟨q1, hq, h⟩ := bnd h
      refine go_call (fun _ hw => c_M_pass hq hw) ?_
      obtain ⟨q2, hq, h⟩ := bnd h
      refine go_call (fun _ hw => c_M_fromAll hq hw) ?_
      obtain ⟨j3, hj, h⟩ := bnd h
      refine go_ix j3 (ix_lt hj) (ix_eq hj) ?_
      refine go_call (fun _ hw => c_M_has hw) ?_
      refine go_br (fun hc : (bI (g_M_has q2 (q1.1 82 0 j3) q1)) = 0 => ?_) (fun hc : ¬ ((bI (g_M_has q2 (q1.1 82 0 j3) q1)) = 0) => ?_)
      · replace h := (if_pos hc).symm.trans h
        exact c_M_when_L101 hP hQ hk62 _ _ _ _ _ _ _ h
      · replace h := (if_neg hc).symm.trans h
        exact c_M_when_L101 hP hQ hk62 _ _ _ _ _ _ _ h
theorem c_M_when_L62 {xs : Nat → Int32} {L d : Nat} {P : MK S2} {Q : S2 → Option MV → Prop} {res : S2 × Int32} (hP : MClosed (O3 xs L) (kcall (O3 xs L) (d + 8)) kd_M_when 1 Q P) (hQ : Q res.1 (some (mI res.2))) : ∀ (fu : Nat) (x1 : Int32) (x2 : Int32) (x3 : Int32) (x4 : Int32) (x5 : Int32) (s : S2), f_M_when_L62 fu x1 x2 x3 x4 x5 s = some res → P 62 [some (mR 60 0), some (mI x1), some (mI x2), some (mI x3), some (mI x4), some (mI x5)] [] s (0, 0)
  | 0, _, _, _, _, _, _, h => by cases h
  | fu + 1, x1, x2, x3, x4, x5, s, h => cb_M_when_L62 hP hQ (c_M_when_L62 hP hQ fu) x1 x2 x3 x4 x5 s h
theorem c_M_when_L57 {xs : Nat → Int32} {L d : Nat} {P : MK S2} {Q : S2 → Option MV → Prop} {res : S2 × Int32} (hP : MClosed (O3 xs L) (kcall (O3 xs L) (d + 8)) kd_M_when 1 Q P) (hQ : Q res.1 (some (mI res.2))) (x1 : Int32) (x2 : Int32) (x3 : Int32) (y0 : Int32) (s : S2) (h : f_M_when_L57 x1 x2 x3 y0 s = some res) : P 57 [some (mR 60 0), some (mI x1), some (mI x2), some (mI x3), none, none] [mI y0] s (0, 0) := by
  refine mgo_from hP [57, 62, 101, 109] 260 ?_
  exact c_M_when_L62 hP hQ FU _ _ _ _ _ _ h
set_option maxRecDepth 20000 in
set_option maxHeartbeats 4000000 in
theorem c_M_when {xs : Nat → Int32} {L d : Nat} {a1 : Int32} {a2 : Int32} {a3 : Int32} {s : S2} {res : S2 × Int32} {Q : S2 → Option MV → Prop} (h : f_M_when a1 a2 a3 s = some res) (hQ : Q res.1 (some (mI res.2))) : kcall (O3 xs L) (d + 9) k_M_when [mR 60 0, mI a1, mI a2, mI a3] s Q := by
  refine kc_of (cd := kd_M_when) (mx := 6) (rt := 1) rfl rfl ?_
  intro P hP
  refine mgo_sound hP [57, 62, 101, 109] 260 _ _ _ _ _ ?_
  refine go_call (fun _ hw => c_M_isIsle hw) ?_
  refine go_br (fun hc : (bI (g_M_isIsle a1 s)) = 0 => ?_) (fun hc : ¬ ((bI (g_M_isIsle a1 s)) = 0) => ?_)
  · replace h := (if_pos hc).symm.trans h
    cases h
    exact hQ
  · replace h := (if_neg hc).symm.trans h
    refine go_call (fun _ hw => c_M_in hw) ?_
    refine go_br (fun hc : (bI (g_M_in a2 (Int32.ofInt 0) (Int32.ofInt 999) s)) = 0 => ?_) (fun hc : ¬ ((bI (g_M_in a2 (Int32.ofInt 0) (Int32.ofInt 999) s)) = 0) => ?_)
    · replace h := (if_pos hc).symm.trans h
      cases h
      exact hQ
    · replace h := (if_neg hc).symm.trans h
      refine go_call (fun _ hw => c_M_in hw) ?_
      refine go_brn (fun hc : ¬ ((bI (g_M_in a3 (Int32.ofInt 0) (Int32.ofInt 60) s)) = 0) => ?_) (fun hc : (bI (g_M_in a3 (Int32.ofInt 0) (Int32.ofInt 60) s)) = 0 => ?_)
      · replace h := (if_neg hc).symm.trans h
        obtain ⟨q1, hq, h⟩ := bnd h
        refine go_call (fun _ hw => c_M_putAside hq hw) ?_
        obtain ⟨q2, hq, h⟩ := bnd h
        refine go_call (fun _ hw => c_M_fromAll hq hw) ?_
        obtain ⟨j3, hj, h⟩ := bnd h
        refine go_ix j3 (ix_lt hj) (ix_eq hj) ?_
        refine go_call (fun _ hw => c_M_has hw) ?_
        refine go_br (fun hc : (bI (g_M_has q2 (q1.1 82 0 j3) q1)) = 0 => ?_) (fun hc : ¬ ((bI (g_M_has q2 (q1.1 82 0 j3) q1)) = 0) => ?_)
        · replace h := (if_pos hc).symm.trans h
          exact c_M_when_L57 hP hQ _ _ _ _ _ h
        · replace h := (if_neg hc).symm.trans h
          exact c_M_when_L57 hP hQ _ _ _ _ _ h
      · replace h := (if_pos hc).symm.trans h
        cases h
        exact hQ
/-! M_go -/
def b_M_go_L15 (k15 : Int32 → Int32 → S2 → Option (S2 × Int32)) (x1 : Int32) (x2 : Int32) (s : S2) : Option (S2 × Int32) := (if x1 ≤ x2 then some (s, (s.1 60 0 37)) else ((f_M_keep s).bind fun q1 => ((f_M_pass q1).bind fun q2 => ((f_M_note q2).bind fun q3 => (k15 x1 (x2 + (Int32.ofInt 1)) q3)))))
def f_M_go_L15 : Nat → Int32 → Int32 → S2 → Option (S2 × Int32)
  | 0 => fun _ _ _ => none
  | n + 1 => b_M_go_L15 (f_M_go_L15 n)
def f_M_go (a1 : Int32) (s : S2) : Option (S2 × Int32) := (if (bI (g_M_areSeasons a1 (Int32.ofInt 1) (Int32.ofInt 60) s)) = 0 then some (s, (Int32.ofInt (-1))) else (f_M_go_L15 FU a1 (Int32.ofInt 0) s))
theorem cb_M_go_L15 {xs : Nat → Int32} {L d : Nat} {P : MK S2} {Q : S2 → Option MV → Prop} {res : S2 × Int32} (hP : MClosed (O3 xs L) (kcall (O3 xs L) (d + 8)) kd_M_go 1 Q P) (hQ : Q res.1 (some (mI res.2))) {k15 : Int32 → Int32 → S2 → Option (S2 × Int32)} (hk15 : ∀ (x1 : Int32) (x2 : Int32) (s : S2), k15 x1 x2 s = some res → P 15 [some (mR 60 0), some (mI x1), some (mI x2)] [] s (0, 0)) (x1 : Int32) (x2 : Int32) (s : S2) (h : b_M_go_L15 k15 x1 x2 s = some res) : P 15 [some (mR 60 0), some (mI x1), some (mI x2)] [] s (0, 0) := by
  refine mgo_from hP [15] 260 ?_
  refine go_br (fun hc : x1 ≤ x2 => ?_) (fun hc : ¬ (x1 ≤ x2) => ?_)
  · replace h := (if_pos hc).symm.trans h
    cases h
    exact hQ
  · replace h := (if_neg hc).symm.trans h
    obtain ⟨q1, hq, h⟩ := bnd h
    refine go_call (fun _ hw => c_M_keep hq hw) ?_
    obtain ⟨q2, hq, h⟩ := bnd h
    refine go_call (fun _ hw => c_M_pass hq hw) ?_
    obtain ⟨q3, hq, h⟩ := bnd h
    refine go_call (fun _ hw => c_M_note hq hw) ?_
    exact hk15 _ _ _ h
theorem c_M_go_L15 {xs : Nat → Int32} {L d : Nat} {P : MK S2} {Q : S2 → Option MV → Prop} {res : S2 × Int32} (hP : MClosed (O3 xs L) (kcall (O3 xs L) (d + 8)) kd_M_go 1 Q P) (hQ : Q res.1 (some (mI res.2))) : ∀ (fu : Nat) (x1 : Int32) (x2 : Int32) (s : S2), f_M_go_L15 fu x1 x2 s = some res → P 15 [some (mR 60 0), some (mI x1), some (mI x2)] [] s (0, 0)
  | 0, _, _, _, h => by cases h
  | fu + 1, x1, x2, s, h => cb_M_go_L15 hP hQ (c_M_go_L15 hP hQ fu) x1 x2 s h
theorem c_M_go {xs : Nat → Int32} {L d : Nat} {a1 : Int32} {s : S2} {res : S2 × Int32} {Q : S2 → Option MV → Prop} (h : f_M_go a1 s = some res) (hQ : Q res.1 (some (mI res.2))) : kcall (O3 xs L) (d + 9) k_M_go [mR 60 0, mI a1] s Q := by
  refine kc_of (cd := kd_M_go) (mx := 3) (rt := 1) rfl rfl ?_
  intro P hP
  refine mgo_sound hP [15] 260 _ _ _ _ _ ?_
  refine go_call (fun _ hw => c_M_areSeasons hw) ?_
  refine go_brn (fun hc : ¬ ((bI (g_M_areSeasons a1 (Int32.ofInt 1) (Int32.ofInt 60) s)) = 0) => ?_) (fun hc : (bI (g_M_areSeasons a1 (Int32.ofInt 1) (Int32.ofInt 60) s)) = 0 => ?_)
  · replace h := (if_neg hc).symm.trans h
    exact c_M_go_L15 hP hQ FU _ _ _ h
  · replace h := (if_pos hc).symm.trans h
    cases h
    exact hQ
/-! M_ahead -/
def f_M_ahead_L83 (y0 : Int32) (s : S2) : Option (S2 × Int32) := ((f_M_takeBack s).bind fun q1 => some (q1, y0))
def f_M_ahead (a1 : Int32) (a2 : Int32) (a3 : Int32) (s : S2) : Option (S2 × Int32) := (if (bI (g_M_isIsle a1 s)) = 0 then some (s, (Int32.ofInt (-1000000))) else (if (bI (g_M_in a2 (Int32.ofInt 1) (Int32.ofInt 60) s)) = 0 then some (s, (Int32.ofInt (-1000000))) else (if (bI (g_M_in a3 (Int32.ofInt 0) (Int32.ofInt 2) s)) = 0 then some (s, (Int32.ofInt (-1000000))) else ((f_M_putAside s).bind fun q1 => ((f_M_passAll a2 q1).bind fun q2 => (if a3 = 0 then ((ix 6 a1).bind fun j6 => ((ix 6 (q2.1 82 0 j6)).bind fun j7 => (f_M_ahead_L83 (q2.1 79 0 j7) q2))) else (if a3 = (Int32.ofInt 1) then ((ix 6 a1).bind fun j4 => ((ix 6 (q2.1 82 0 j4)).bind fun j5 => (f_M_ahead_L83 (q2.1 80 0 j5) q2))) else ((ix 6 a1).bind fun j3 => (f_M_ahead_L83 (q2.1 82 0 j3) q2)))))))))
theorem c_M_ahead_L83 {xs : Nat → Int32} {L d : Nat} {P : MK S2} {Q : S2 → Option MV → Prop} {res : S2 × Int32} (hP : MClosed (O3 xs L) (kcall (O3 xs L) (d + 9)) kd_M_ahead 1 Q P) (hQ : Q res.1 (some (mI res.2))) (y0 : Int32) (x1 : Int32) (x2 : Int32) (x3 : Int32) (s : S2) (h : f_M_ahead_L83 y0 s = some res) : P 83 [some (mR 60 0), some (mI x1), some (mI x2), some (mI x3), none] [mI y0] s (0, 0) := by
  refine mgo_from hP [83] 260 ?_
  obtain ⟨q1, hq, h⟩ := bnd h
  refine go_call (fun _ hw => c_M_takeBack hq hw) ?_
  cases h
  exact hQ
set_option maxRecDepth 20000 in
set_option maxHeartbeats 4000000 in
theorem c_M_ahead {xs : Nat → Int32} {L d : Nat} {a1 : Int32} {a2 : Int32} {a3 : Int32} {s : S2} {res : S2 × Int32} {Q : S2 → Option MV → Prop} (h : f_M_ahead a1 a2 a3 s = some res) (hQ : Q res.1 (some (mI res.2))) : kcall (O3 xs L) (d + 10) k_M_ahead [mR 60 0, mI a1, mI a2, mI a3] s Q := by
  refine kc_of (cd := kd_M_ahead) (mx := 5) (rt := 1) rfl rfl ?_
  intro P hP
  refine mgo_sound hP [83] 260 _ _ _ _ _ ?_
  refine go_call (fun _ hw => c_M_isIsle hw) ?_
  refine go_br (fun hc : (bI (g_M_isIsle a1 s)) = 0 => ?_) (fun hc : ¬ ((bI (g_M_isIsle a1 s)) = 0) => ?_)
  · replace h := (if_pos hc).symm.trans h
    cases h
    exact hQ
  · replace h := (if_neg hc).symm.trans h
    refine go_call (fun _ hw => c_M_in hw) ?_
    refine go_br (fun hc : (bI (g_M_in a2 (Int32.ofInt 1) (Int32.ofInt 60) s)) = 0 => ?_) (fun hc : ¬ ((bI (g_M_in a2 (Int32.ofInt 1) (Int32.ofInt 60) s)) = 0) => ?_)
    · replace h := (if_pos hc).symm.trans h
      cases h
      exact hQ
    · replace h := (if_neg hc).symm.trans h
      refine go_call (fun _ hw => c_M_in hw) ?_
      refine go_brn (fun hc : ¬ ((bI (g_M_in a3 (Int32.ofInt 0) (Int32.ofInt 2) s)) = 0) => ?_) (fun hc : (bI (g_M_in a3 (Int32.ofInt 0) (Int32.ofInt 2) s)) = 0 => ?_)
      · replace h := (if_neg hc).symm.trans h
        obtain ⟨q1, hq, h⟩ := bnd h
        refine go_call (fun _ hw => c_M_putAside hq hw) ?_
        obtain ⟨q2, hq, h⟩ := bnd h
        refine go_call (fun _ hw => c_M_passAll hq hw) ?_
        refine go_brn (fun hc : ¬ (a3 = 0) => ?_) (fun hc : a3 = 0 => ?_)
        · replace h := (if_neg hc).symm.trans h
          refine go_brn (fun hc : ¬ (a3 = (Int32.ofInt 1)) => ?_) (fun hc : a3 = (Int32.ofInt 1) => ?_)
          · replace h := (if_neg hc).symm.trans h
            obtain ⟨j3, hj, h⟩ := bnd h
            refine go_ix j3 (ix_lt hj) (ix_eq hj) ?_
            exact c_M_ahead_L83 hP hQ _ _ _ _ _ h
          · replace h := (if_pos hc).symm.trans h
            obtain ⟨j4, hj, h⟩ := bnd h
            refine go_ix j4 (ix_lt hj) (ix_eq hj) ?_
            obtain ⟨j5, hj, h⟩ := bnd h
            refine go_ix j5 (ix_lt hj) (ix_eq hj) ?_
            exact c_M_ahead_L83 hP hQ _ _ _ _ _ h
        · replace h := (if_pos hc).symm.trans h
          obtain ⟨j6, hj, h⟩ := bnd h
          refine go_ix j6 (ix_lt hj) (ix_eq hj) ?_
          obtain ⟨j7, hj, h⟩ := bnd h
          refine go_ix j7 (ix_lt hj) (ix_eq hj) ?_
          exact c_M_ahead_L83 hP hQ _ _ _ _ _ h
      · replace h := (if_pos hc).symm.trans h
        cases h
        exact hQ
/-! M_sail -/
def f_M_sail_L51 (s : S2) : Option (S2 × Int32) := some (s, (s.1 60 0 60))
def f_M_sail (a1 : Int32) (a2 : Int32) (a3 : Int32) (a4 : Int32) (s : S2) : Option (S2 × Int32) := (if (bI (g_M_areTwo a1 a2 s)) = 0 then some (s, (Int32.ofInt (-1))) else (if (bI (g_M_in a3 (Int32.ofInt 1) (Int32.ofInt 99) s)) = 0 then some (s, (Int32.ofInt (-1))) else (if (bI (g_M_in a4 (Int32.ofInt 0) (Int32.ofInt 1) s)) = 0 then some (s, (Int32.ofInt (-1))) else ((f_M_sailAll a1 a2 a3 s).bind fun q1 => (if (q1.1 60 0 60) = (Int32.ofInt (-1)) then (f_M_sail_L51 q1) else (if a4 = 0 then (f_M_sail_L51 q1) else (if (q1.1 60 0 61) = 0 then some (q1, (Int32.ofInt 0)) else some (q1, (Int32.ofInt 1)))))))))
theorem c_M_sail_L51 {xs : Nat → Int32} {L d : Nat} {P : MK S2} {Q : S2 → Option MV → Prop} {res : S2 × Int32} (hP : MClosed (O3 xs L) (kcall (O3 xs L) (d + 9)) kd_M_sail 1 Q P) (hQ : Q res.1 (some (mI res.2))) (x1 : Int32) (x2 : Int32) (x3 : Int32) (x4 : Int32) (s : S2) (h : f_M_sail_L51 s = some res) : P 51 [some (mR 60 0), some (mI x1), some (mI x2), some (mI x3), some (mI x4)] [] s (0, 0) := by
  refine mgo_from hP [51] 260 ?_
  cases h
  exact hQ
set_option maxRecDepth 20000 in
set_option maxHeartbeats 4000000 in
theorem c_M_sail {xs : Nat → Int32} {L d : Nat} {a1 : Int32} {a2 : Int32} {a3 : Int32} {a4 : Int32} {s : S2} {res : S2 × Int32} {Q : S2 → Option MV → Prop} (h : f_M_sail a1 a2 a3 a4 s = some res) (hQ : Q res.1 (some (mI res.2))) : kcall (O3 xs L) (d + 10) k_M_sail [mR 60 0, mI a1, mI a2, mI a3, mI a4] s Q := by
  refine kc_of (cd := kd_M_sail) (mx := 5) (rt := 1) rfl rfl ?_
  intro P hP
  refine mgo_sound hP [51] 260 _ _ _ _ _ ?_
  refine go_call (fun _ hw => c_M_areTwo hw) ?_
  refine go_br (fun hc : (bI (g_M_areTwo a1 a2 s)) = 0 => ?_) (fun hc : ¬ ((bI (g_M_areTwo a1 a2 s)) = 0) => ?_)
  · replace h := (if_pos hc).symm.trans h
    cases h
    exact hQ
  · replace h := (if_neg hc).symm.trans h
    refine go_call (fun _ hw => c_M_in hw) ?_
    refine go_br (fun hc : (bI (g_M_in a3 (Int32.ofInt 1) (Int32.ofInt 99) s)) = 0 => ?_) (fun hc : ¬ ((bI (g_M_in a3 (Int32.ofInt 1) (Int32.ofInt 99) s)) = 0) => ?_)
    · replace h := (if_pos hc).symm.trans h
      cases h
      exact hQ
    · replace h := (if_neg hc).symm.trans h
      refine go_call (fun _ hw => c_M_in hw) ?_
      refine go_brn (fun hc : ¬ ((bI (g_M_in a4 (Int32.ofInt 0) (Int32.ofInt 1) s)) = 0) => ?_) (fun hc : (bI (g_M_in a4 (Int32.ofInt 0) (Int32.ofInt 1) s)) = 0 => ?_)
      · replace h := (if_neg hc).symm.trans h
        obtain ⟨q1, hq, h⟩ := bnd h
        refine go_call (fun _ hw => c_M_sailAll hq hw) ?_
        refine go_br (fun hc : (q1.1 60 0 60) = (Int32.ofInt (-1)) => ?_) (fun hc : ¬ ((q1.1 60 0 60) = (Int32.ofInt (-1))) => ?_)
        · replace h := (if_pos hc).symm.trans h
          exact c_M_sail_L51 hP hQ _ _ _ _ _ h
        · replace h := (if_neg hc).symm.trans h
          refine go_brn (fun hc : ¬ (a4 = 0) => ?_) (fun hc : a4 = 0 => ?_)
          · replace h := (if_neg hc).symm.trans h
            refine go_br (fun hc : (q1.1 60 0 61) = 0 => ?_) (fun hc : ¬ ((q1.1 60 0 61) = 0) => ?_)
            · replace h := (if_pos hc).symm.trans h
              cases h
              exact hQ
            · replace h := (if_neg hc).symm.trans h
              cases h
              exact hQ
          · replace h := (if_pos hc).symm.trans h
            exact c_M_sail_L51 hP hQ _ _ _ _ _ h
      · replace h := (if_pos hc).symm.trans h
        cases h
        exact hQ
/-! M_tryTreaties -/
def f_M_tryTreaties_L46 (c5 : Nat) (i5 : Nat) (n5 : Nat) (g_M_tryTreaties : Int32 → Int32 → Int32 → Int32 → Nat → Nat → Nat → S2 → Option S2) (y1 : Int32) (s : S2) : Option S2 := ((some (pkS s 60 0 62 y1)).bind fun s1 => some s1)
def f_M_tryTreaties_L112 (c5 : Nat) (i5 : Nat) (n5 : Nat) (g_M_tryTreaties : Int32 → Int32 → Int32 → Int32 → Nat → Nat → Nat → S2 → Option S2) (k53 : Int32 → Int32 → Int32 → Int32 → S2 → Option S2) (x2 : Int32) (x3 : Int32) (x4 : Int32) (x6 : Int32) (s : S2) : Option S2 := (k53 x2 x3 x4 (x6 + (Int32.ofInt 1)) s)
def b_M_tryTreaties_L53 (c5 : Nat) (i5 : Nat) (n5 : Nat) (g_M_tryTreaties : Int32 → Int32 → Int32 → Int32 → Nat → Nat → Nat → S2 → Option S2) (k53 : Int32 → Int32 → Int32 → Int32 → S2 → Option S2) (x2 : Int32) (x3 : Int32) (x4 : Int32) (x6 : Int32) (s : S2) : Option S2 := (if ((Int32.ofInt 10) * (s.1 60 0 28)) ≤ x6 then some s else (if (jrem x6 (Int32.ofInt 10)) ≤ (x6 / (Int32.ofInt 10)) then (f_M_tryTreaties_L112 c5 i5 n5 g_M_tryTreaties k53 x2 x3 x4 x6 s) else (if (s.1 60 0 28) ≤ (jrem x6 (Int32.ofInt 10)) then (f_M_tryTreaties_L112 c5 i5 n5 g_M_tryTreaties k53 x2 x3 x4 x6 s) else ((g_M_tryTreaties (x6 + (Int32.ofInt 1)) (((Int32.ofInt 100) * x2) + x6) (x3 + (Int32.ofInt 1)) x4 c5 i5 n5 s).bind fun q1 => (f_M_tryTreaties_L112 c5 i5 n5 g_M_tryTreaties k53 x2 x3 x4 x6 q1)))))
def f_M_tryTreaties_L53 (c5 : Nat) (i5 : Nat) (n5 : Nat) (g_M_tryTreaties : Int32 → Int32 → Int32 → Int32 → Nat → Nat → Nat → S2 → Option S2) : Nat → Int32 → Int32 → Int32 → Int32 → S2 → Option S2
  | 0 => fun _ _ _ _ _ => none
  | n + 1 => b_M_tryTreaties_L53 c5 i5 n5 g_M_tryTreaties (f_M_tryTreaties_L53 c5 i5 n5 g_M_tryTreaties n)
def fb_M_tryTreaties (g_M_tryTreaties : Int32 → Int32 → Int32 → Int32 → Nat → Nat → Nat → S2 → Option S2) (a1 : Int32) (a2 : Int32) (a3 : Int32) (a4 : Int32) (c5 : Nat) (i5 : Nat) (n5 : Nat) (s : S2) : Option S2 := (if (s.1 60 0 62) = (Int32.ofInt (-1)) then (if a3 = a4 then ((ix n5 (Int32.ofInt 0)).bind fun j1 => ((ix n5 (Int32.ofInt 1)).bind fun j2 => ((ix n5 (Int32.ofInt 2)).bind fun j3 => ((ix n5 (Int32.ofInt 3)).bind fun j4 => ((f_M_doesTreat a2 a3 (s.1 c5 i5 j1) (s.1 c5 i5 j2) (s.1 c5 i5 j3) (s.1 c5 i5 j4) s).bind fun q5 => (if (bI q5.2) = 0 then (f_M_tryTreaties_L46 c5 i5 n5 g_M_tryTreaties (Int32.ofInt (-1)) q5.1) else (f_M_tryTreaties_L46 c5 i5 n5 g_M_tryTreaties a2 q5.1))))))) else (f_M_tryTreaties_L53 c5 i5 n5 g_M_tryTreaties FU a2 a3 a4 a1 s)) else some s)
def f_M_tryTreaties : Nat → Int32 → Int32 → Int32 → Int32 → Nat → Nat → Nat → S2 → Option S2
  | 0 => fun _ _ _ _ _ _ _ _ => none
  | n + 1 => fb_M_tryTreaties (f_M_tryTreaties n)
theorem c_M_tryTreaties_95_L46 {xs : Nat → Int32} {L d : Nat} {i5 : Nat} {g_M_tryTreaties : Int32 → Int32 → Int32 → Int32 → Nat → Nat → Nat → S2 → Option S2} {P : MK S2} {Q : S2 → Option MV → Prop} {res : S2} (hP : MClosed (O3 xs L) (kcall (O3 xs L) (d + 11)) kd_M_tryTreaties 0 Q P) (hQ : Q res none) (hg_M_tryTreaties : ∀ {e : Nat}, d + 11 ≤ e → ∀ (a1 : Int32) (a2 : Int32) (a3 : Int32) (a4 : Int32) (i5 : Nat) (s : S2) {res : S2} {Q : S2 → Option MV → Prop}, g_M_tryTreaties a1 a2 a3 a4 95 i5 4 s = some res → Q res none → kcall (O3 xs L) e k_M_tryTreaties [mR 60 0, mI a1, mI a2, mI a3, mI a4, mR 95 i5] s Q) (y1 : Int32) (x1 : Int32) (x2 : Int32) (x3 : Int32) (x4 : Int32) (s : S2) (h : f_M_tryTreaties_L46 95 i5 4 g_M_tryTreaties y1 s = some res) : P 46 [some (mR 60 0), some (mI x1), some (mI x2), some (mI x3), some (mI x4), some (mR 95 i5), none] [mI y1, mR 60 0] s (0, 0) := by
  refine mgo_from hP [46, 53, 112] 260 ?_
  replace h := bnds h
  cases h
  exact hQ
theorem c_M_tryTreaties_95_L112 {xs : Nat → Int32} {L d : Nat} {i5 : Nat} {g_M_tryTreaties : Int32 → Int32 → Int32 → Int32 → Nat → Nat → Nat → S2 → Option S2} {P : MK S2} {Q : S2 → Option MV → Prop} {res : S2} (hP : MClosed (O3 xs L) (kcall (O3 xs L) (d + 11)) kd_M_tryTreaties 0 Q P) (hQ : Q res none) (hg_M_tryTreaties : ∀ {e : Nat}, d + 11 ≤ e → ∀ (a1 : Int32) (a2 : Int32) (a3 : Int32) (a4 : Int32) (i5 : Nat) (s : S2) {res : S2} {Q : S2 → Option MV → Prop}, g_M_tryTreaties a1 a2 a3 a4 95 i5 4 s = some res → Q res none → kcall (O3 xs L) e k_M_tryTreaties [mR 60 0, mI a1, mI a2, mI a3, mI a4, mR 95 i5] s Q) {k53 : Int32 → Int32 → Int32 → Int32 → S2 → Option S2} (hk53 : ∀ (x2 : Int32) (x3 : Int32) (x4 : Int32) (x6 : Int32) (x1 : Int32) (s : S2), k53 x2 x3 x4 x6 s = some res → P 53 [some (mR 60 0), some (mI x1), some (mI x2), some (mI x3), some (mI x4), some (mR 95 i5), some (mI x6)] [] s (0, 0)) (x2 : Int32) (x3 : Int32) (x4 : Int32) (x6 : Int32) (x1 : Int32) (s : S2) (h : f_M_tryTreaties_L112 95 i5 4 g_M_tryTreaties k53 x2 x3 x4 x6 s = some res) : P 112 [some (mR 60 0), some (mI x1), some (mI x2), some (mI x3), some (mI x4), some (mR 95 i5), some (mI x6)] [] s (0, 0) := by
  refine mgo_from hP [46, 53, 112] 260 ?_
  exact hk53 _ _ _ _ _ _ h
theorem cb_M_tryTreaties_95_L53 {xs : Nat → Int32} {L d : Nat} {i5 : Nat} {g_M_tryTreaties : Int32 → Int32 → Int32 → Int32 → Nat → Nat → Nat → S2 → Option S2} {P : MK S2} {Q : S2 → Option MV → Prop} {res : S2} (hP : MClosed (O3 xs L) (kcall (O3 xs L) (d + 11)) kd_M_tryTreaties 0 Q P) (hQ : Q res none) (hg_M_tryTreaties : ∀ {e : Nat}, d + 11 ≤ e → ∀ (a1 : Int32) (a2 : Int32) (a3 : Int32) (a4 : Int32) (i5 : Nat) (s : S2) {res : S2} {Q : S2 → Option MV → Prop}, g_M_tryTreaties a1 a2 a3 a4 95 i5 4 s = some res → Q res none → kcall (O3 xs L) e k_M_tryTreaties [mR 60 0, mI a1, mI a2, mI a3, mI a4, mR 95 i5] s Q) {k53 : Int32 → Int32 → Int32 → Int32 → S2 → Option S2} (hk53 : ∀ (x2 : Int32) (x3 : Int32) (x4 : Int32) (x6 : Int32) (x1 : Int32) (s : S2), k53 x2 x3 x4 x6 s = some res → P 53 [some (mR 60 0), some (mI x1), some (mI x2), some (mI x3), some (mI x4), some (mR 95 i5), some (mI x6)] [] s (0, 0)) (x2 : Int32) (x3 : Int32) (x4 : Int32) (x6 : Int32) (x1 : Int32) (s : S2) (h : b_M_tryTreaties_L53 95 i5 4 g_M_tryTreaties k53 x2 x3 x4 x6 s = some res) : P 53 [some (mR 60 0), some (mI x1), some (mI x2), some (mI x3), some (mI x4), some (mR 95 i5), some (mI x6)] [] s (0, 0) := by
  refine mgo_from hP [46, 53, 112] 260 ?_
  refine go_br (fun hc : ((Int32.ofInt 10) * (s.1 60 0 28)) ≤ x6 => ?_) (fun hc : ¬ (((Int32.ofInt 10) * (s.1 60 0 28)) ≤ x6) => ?_)
  · replace h := (if_pos hc).symm.trans h
    cases h
    exact hQ
  · replace h := (if_neg hc).symm.trans h
    refine go_and (by decide) ?_
    refine go_and (by decide) ?_
    refine go_br (fun hc : (jrem x6 (Int32.ofInt 10)) ≤ (x6 / (Int32.ofInt 10)) => ?_) (fun hc : ¬ ((jrem x6 (Int32.ofInt 10)) ≤ (x6 / (Int32.ofInt 10))) => ?_)
    · replace h := (if_pos hc).symm.trans h
      exact c_M_tryTreaties_95_L112 hP hQ hg_M_tryTreaties hk53 _ _ _ _ _ _ h
    · replace h := (if_neg hc).symm.trans h
      refine go_and (by decide) ?_
      refine go_br (fun hc : (s.1 60 0 28) ≤ (jrem x6 (Int32.ofInt 10)) => ?_) (fun hc : ¬ ((s.1 60 0 28) ≤ (jrem x6 (Int32.ofInt 10))) => ?_)
      · replace h := (if_pos hc).symm.trans h
        exact c_M_tryTreaties_95_L112 hP hQ hg_M_tryTreaties hk53 _ _ _ _ _ _ h
      · replace h := (if_neg hc).symm.trans h
        obtain ⟨q1, hq, h⟩ := bnd h
        refine go_call (fun _ hw => hg_M_tryTreaties (by omega) _ _ _ _ _ _ hq hw) ?_
        exact c_M_tryTreaties_95_L112 hP hQ hg_M_tryTreaties hk53 _ _ _ _ _ _ h
theorem c_M_tryTreaties_95_L53 {xs : Nat → Int32} {L d : Nat} {i5 : Nat} {g_M_tryTreaties : Int32 → Int32 → Int32 → Int32 → Nat → Nat → Nat → S2 → Option S2} {P : MK S2} {Q : S2 → Option MV → Prop} {res : S2} (hP : MClosed (O3 xs L) (kcall (O3 xs L) (d + 11)) kd_M_tryTreaties 0 Q P) (hQ : Q res none) (hg_M_tryTreaties : ∀ {e : Nat}, d + 11 ≤ e → ∀ (a1 : Int32) (a2 : Int32) (a3 : Int32) (a4 : Int32) (i5 : Nat) (s : S2) {res : S2} {Q : S2 → Option MV → Prop}, g_M_tryTreaties a1 a2 a3 a4 95 i5 4 s = some res → Q res none → kcall (O3 xs L) e k_M_tryTreaties [mR 60 0, mI a1, mI a2, mI a3, mI a4, mR 95 i5] s Q) : ∀ (fu : Nat) (x2 : Int32) (x3 : Int32) (x4 : Int32) (x6 : Int32) (x1 : Int32) (s : S2), f_M_tryTreaties_L53 95 i5 4 g_M_tryTreaties fu x2 x3 x4 x6 s = some res → P 53 [some (mR 60 0), some (mI x1), some (mI x2), some (mI x3), some (mI x4), some (mR 95 i5), some (mI x6)] [] s (0, 0)
  | 0, _, _, _, _, _, _, h => by cases h
  | fu + 1, x2, x3, x4, x6, x1, s, h => cb_M_tryTreaties_95_L53 hP hQ hg_M_tryTreaties (c_M_tryTreaties_95_L53 hP hQ hg_M_tryTreaties fu) x2 x3 x4 x6 x1 s h
set_option maxRecDepth 20000 in
set_option maxHeartbeats 4000000 in
theorem cb_M_tryTreaties_95 {xs : Nat → Int32} {L d : Nat} {g_M_tryTreaties : Int32 → Int32 → Int32 → Int32 → Nat → Nat → Nat → S2 → Option S2} {a1 : Int32} {a2 : Int32} {a3 : Int32} {a4 : Int32} {i5 : Nat} {s : S2} {res : S2} {Q : S2 → Option MV → Prop} (hg_M_tryTreaties : ∀ {e : Nat}, d + 11 ≤ e → ∀ (a1 : Int32) (a2 : Int32) (a3 : Int32) (a4 : Int32) (i5 : Nat) (s : S2) {res : S2} {Q : S2 → Option MV → Prop}, g_M_tryTreaties a1 a2 a3 a4 95 i5 4 s = some res → Q res none → kcall (O3 xs L) e k_M_tryTreaties [mR 60 0, mI a1, mI a2, mI a3, mI a4, mR 95 i5] s Q) (h : fb_M_tryTreaties g_M_tryTreaties a1 a2 a3 a4 95 i5 4 s = some res) (hQ : Q res none) : kcall (O3 xs L) (d + 12) k_M_tryTreaties [mR 60 0, mI a1, mI a2, mI a3, mI a4, mR 95 i5] s Q := by
  refine kc_of (cd := kd_M_tryTreaties) (mx := 7) (rt := 0) rfl rfl ?_
  intro P hP
  refine mgo_sound hP [46, 53, 112] 260 _ _ _ _ _ ?_
  refine go_br (fun hc : (s.1 60 0 62) = (Int32.ofInt (-1)) => ?_) (fun hc : ¬ ((s.1 60 0 62) = (Int32.ofInt (-1))) => ?_)
  · replace h := (if_pos hc).symm.trans h
    refine go_brn (fun hc : ¬ (a3 = a4) => ?_) (fun hc : a3 = a4 => ?_)
    · replace h := (if_neg hc).symm.trans h
      exact c_M_tryTreaties_95_L53 hP hQ hg_M_tryTreaties FU _ _ _ _ _ _ h
    · replace h := (if_pos hc).symm.trans h
      obtain ⟨j1, hj, h⟩ := bnd h
      refine go_ix j1 (ix_lt hj) (ix_eq hj) ?_
      obtain ⟨j2, hj, h⟩ := bnd h
      refine go_ix j2 (ix_lt hj) (ix_eq hj) ?_
      obtain ⟨j3, hj, h⟩ := bnd h
      refine go_ix j3 (ix_lt hj) (ix_eq hj) ?_
      obtain ⟨j4, hj, h⟩ := bnd h
      refine go_ix j4 (ix_lt hj) (ix_eq hj) ?_
      obtain ⟨q5, hq, h⟩ := bnd h
      refine go_call (fun _ hw => c_M_doesTreat hq hw) ?_
      refine go_br (fun hc : (bI q5.2) = 0 => ?_) (fun hc : ¬ ((bI q5.2) = 0) => ?_)
      · replace h := (if_pos hc).symm.trans h
        exact c_M_tryTreaties_95_L46 hP hQ hg_M_tryTreaties _ _ _ _ _ _ h
      · replace h := (if_neg hc).symm.trans h
        exact c_M_tryTreaties_95_L46 hP hQ hg_M_tryTreaties _ _ _ _ _ _ h
  · replace h := (if_neg hc).symm.trans h
    cases h
    exact hQ
theorem cn_M_tryTreaties_95 {xs : Nat → Int32} {L : Nat} : ∀ (n : Nat) {e : Nat}, n * 20 + 12 ≤ e → ∀ (a1 : Int32) (a2 : Int32) (a3 : Int32) (a4 : Int32) (i5 : Nat) (s : S2) {res : S2} {Q : S2 → Option MV → Prop}, f_M_tryTreaties n a1 a2 a3 a4 95 i5 4 s = some res → Q res none → kcall (O3 xs L) e k_M_tryTreaties [mR 60 0, mI a1, mI a2, mI a3, mI a4, mR 95 i5] s Q
  | 0, _, _, _, _, _, _, _, _, _, _, h, _ => by cases h
  | n + 1, e, he, a1, a2, a3, a4, i5, s, res, Q, h, hQ => by
    obtain ⟨d, rfl⟩ : ∃ d, e = d + 12 := ⟨e - 12, by omega⟩
    exact cb_M_tryTreaties_95 (fun {e} he => cn_M_tryTreaties_95 n (by omega)) h hQ
theorem c_M_tryTreaties_95 {xs : Nat → Int32} {L d : Nat} {a1 : Int32} {a2 : Int32} {a3 : Int32} {a4 : Int32} {i5 : Nat} {s : S2} {res : S2} {Q : S2 → Option MV → Prop} (h : f_M_tryTreaties 9 a1 a2 a3 a4 95 i5 4 s = some res) (hQ : Q res none) : kcall (O3 xs L) (d + 192) k_M_tryTreaties [mR 60 0, mI a1, mI a2, mI a3, mI a4, mR 95 i5] s Q := cn_M_tryTreaties_95 9 (by omega) _ _ _ _ _ _ h hQ
/-! M_bicker -/
def f_M_bicker_L121 (s : S2) : Option (S2 × Int32) := some (s, (s.1 60 0 65))
def f_M_bicker (a1 : Int32) (a2 : Int32) (a3 : Int32) (a4 : Int32) (a5 : Int32) (a6 : Int32) (s : S2) : Option (S2 × Int32) := (if (bI (g_M_areCodes a1 s)) = 0 then some (s, (Int32.ofInt (-1))) else (if (bI (g_M_in a2 (Int32.ofInt 0) (Int32.ofInt 999) s)) = 0 then some (s, (Int32.ofInt (-1))) else (if (bI (g_M_in a3 (Int32.ofInt 0) (Int32.ofInt 999) s)) = 0 then some (s, (Int32.ofInt (-1))) else (if (bI (g_M_in a4 (Int32.ofInt 1) (Int32.ofInt 6) s)) = 0 then some (s, (Int32.ofInt (-1))) else (if (bI (g_M_in a5 (Int32.ofInt 1) (Int32.ofInt 9) s)) = 0 then some (s, (Int32.ofInt (-1))) else (if (bI (g_M_in a6 (Int32.ofInt 0) (Int32.ofInt 1) s)) = 0 then some (s, (Int32.ofInt (-1))) else ((some (pkS s 60 0 69 a1)).bind fun s1 => ((some (pkS s1 60 0 70 a2)).bind fun s2 => ((some (pkS s2 60 0 71 a3)).bind fun s3 => ((some (pkS s3 60 0 67 a4)).bind fun s4 => ((some (pkS s4 60 0 68 a5)).bind fun s5 => ((some (pkS s5 60 0 65 (Int32.ofInt (-1)))).bind fun s6 => ((some (pkS s6 60 0 66 (Int32.ofInt 0))).bind fun s7 => ((f_M_bickerFrom 9 (Int32.ofInt 0) (Int32.ofInt 0) (Int32.ofInt 0) s7).bind fun q8 => (if (q8.1 60 0 65) = (Int32.ofInt (-1)) then (f_M_bicker_L121 q8) else (if a6 = 0 then (f_M_bicker_L121 q8) else some (q8, (q8.1 60 0 66))))))))))))))))))
theorem c_M_bicker_L121 {xs : Nat → Int32} {L d : Nat} {P : MK S2} {Q : S2 → Option MV → Prop} {res : S2 × Int32} (hP : MClosed (O3 xs L) (kcall (O3 xs L) (d + 190)) kd_M_bicker 1 Q P) (hQ : Q res.1 (some (mI res.2))) (x1 : Int32) (x2 : Int32) (x3 : Int32) (x4 : Int32) (x5 : Int32) (x6 : Int32) (s : S2) (h : f_M_bicker_L121 s = some res) : P 121 [some (mR 60 0), some (mI x1), some (mI x2), some (mI x3), some (mI x4), some (mI x5), some (mI x6)] [] s (0, 0) := by
  refine mgo_from hP [121] 260 ?_
  cases h
  exact hQ
set_option maxRecDepth 20000 in
set_option maxHeartbeats 4000000 in
theorem c_M_bicker {xs : Nat → Int32} {L d : Nat} {a1 : Int32} {a2 : Int32} {a3 : Int32} {a4 : Int32} {a5 : Int32} {a6 : Int32} {s : S2} {res : S2 × Int32} {Q : S2 → Option MV → Prop} (h : f_M_bicker a1 a2 a3 a4 a5 a6 s = some res) (hQ : Q res.1 (some (mI res.2))) : kcall (O3 xs L) (d + 191) k_M_bicker [mR 60 0, mI a1, mI a2, mI a3, mI a4, mI a5, mI a6] s Q := by
  refine kc_of (cd := kd_M_bicker) (mx := 7) (rt := 1) rfl rfl ?_
  intro P hP
  refine mgo_sound hP [121] 260 _ _ _ _ _ ?_
  refine go_call (fun _ hw => c_M_areCodes hw) ?_
  refine go_br (fun hc : (bI (g_M_areCodes a1 s)) = 0 => ?_) (fun hc : ¬ ((bI (g_M_areCodes a1 s)) = 0) => ?_)
  · replace h := (if_pos hc).symm.trans h
    cases h
    exact hQ
  · replace h := (if_neg hc).symm.trans h
    refine go_call (fun _ hw => c_M_in hw) ?_
    refine go_br (fun hc : (bI (g_M_in a2 (Int32.ofInt 0) (Int32.ofInt 999) s)) = 0 => ?_) (fun hc : ¬ ((bI (g_M_in a2 (Int32.ofInt 0) (Int32.ofInt 999) s)) = 0) => ?_)
    · replace h := (if_pos hc).symm.trans h
      cases h
      exact hQ
    · replace h := (if_neg hc).symm.trans h
      refine go_call (fun _ hw => c_M_in hw) ?_
      refine go_br (fun hc : (bI (g_M_in a3 (Int32.ofInt 0) (Int32.ofInt 999) s)) = 0 => ?_) (fun hc : ¬ ((bI (g_M_in a3 (Int32.ofInt 0) (Int32.ofInt 999) s)) = 0) => ?_)
      · replace h := (if_pos hc).symm.trans h
        cases h
        exact hQ
      · replace h := (if_neg hc).symm.trans h
        refine go_call (fun _ hw => c_M_in hw) ?_
        refine go_br (fun hc : (bI (g_M_in a4 (Int32.ofInt 1) (Int32.ofInt 6) s)) = 0 => ?_) (fun hc : ¬ ((bI (g_M_in a4 (Int32.ofInt 1) (Int32.ofInt 6) s)) = 0) => ?_)
        · replace h := (if_pos hc).symm.trans h
          cases h
          exact hQ
        · replace h := (if_neg hc).symm.trans h
          refine go_call (fun _ hw => c_M_in hw) ?_
          refine go_br (fun hc : (bI (g_M_in a5 (Int32.ofInt 1) (Int32.ofInt 9) s)) = 0 => ?_) (fun hc : ¬ ((bI (g_M_in a5 (Int32.ofInt 1) (Int32.ofInt 9) s)) = 0) => ?_)
          · replace h := (if_pos hc).symm.trans h
            cases h
            exact hQ
          · replace h := (if_neg hc).symm.trans h
            refine go_call (fun _ hw => c_M_in hw) ?_
            refine go_brn (fun hc : ¬ ((bI (g_M_in a6 (Int32.ofInt 0) (Int32.ofInt 1) s)) = 0) => ?_) (fun hc : (bI (g_M_in a6 (Int32.ofInt 0) (Int32.ofInt 1) s)) = 0 => ?_)
            · replace h := (if_neg hc).symm.trans h
              replace h := bnds h
              replace h := bnds h
              replace h := bnds h
              replace h := bnds h
              replace h := bnds h
              replace h := bnds h
              replace h := bnds h
              obtain ⟨q8, hq, h⟩ := bnd h
              refine go_call (fun _ hw => c_M_bickerFrom hq hw) ?_
              refine go_br (fun hc : (q8.1 60 0 65) = (Int32.ofInt (-1)) => ?_) (fun hc : ¬ ((q8.1 60 0 65) = (Int32.ofInt (-1))) => ?_)
              · replace h := (if_pos hc).symm.trans h
                exact c_M_bicker_L121 hP hQ _ _ _ _ _ _ _ h
              · replace h := (if_neg hc).symm.trans h
                refine go_brn (fun hc : ¬ (a6 = 0) => ?_) (fun hc : a6 = 0 => ?_)
                · replace h := (if_neg hc).symm.trans h
                  cases h
                  exact hQ
                · replace h := (if_pos hc).symm.trans h
                  exact c_M_bicker_L121 hP hQ _ _ _ _ _ _ _ h
            · replace h := (if_pos hc).symm.trans h
              cases h
              exact hQ
/-! M_fits -/
def f_M_fits_L74 (k28 : Int32 → Int32 → Int32 → Int32 → S2 → Option (S2 × Int32)) (x1 : Int32) (x2 : Int32) (x3 : Int32) (x4 : Int32) (s : S2) : Option (S2 × Int32) := (k28 x1 x2 x3 (x4 + (Int32.ofInt 1)) s)
def b_M_fits_L28 (k28 : Int32 → Int32 → Int32 → Int32 → S2 → Option (S2 × Int32)) (x1 : Int32) (x2 : Int32) (x3 : Int32) (x4 : Int32) (s : S2) : Option (S2 × Int32) := (if x3 < x4 then (if x1 = (Int32.ofInt (-1)) then some (s, x2) else some (s, (Int32.ofInt (-1)))) else ((f_M_putAside s).bind fun q1 => ((some (pkS q1 60 0 41 (x3 &&& (x4 ^^^ (Int32.ofInt (-1)))))).bind fun s2 => ((f_M_agrees s2).bind fun q3 => ((f_M_takeBack q3.1).bind fun q4 => (if (bI q3.2) = 0 then (f_M_fits_L74 k28 x1 x2 x3 x4 q4) else (if x2 = x1 then some (q4, x4) else (f_M_fits_L74 k28 x1 (x2 + (Int32.ofInt 1)) x3 x4 q4))))))))
def f_M_fits_L28 : Nat → Int32 → Int32 → Int32 → Int32 → S2 → Option (S2 × Int32)
  | 0 => fun _ _ _ _ _ => none
  | n + 1 => b_M_fits_L28 (f_M_fits_L28 n)
def f_M_fits (a1 : Int32) (s : S2) : Option (S2 × Int32) := (if (s.1 60 0 28) = 0 then some (s, (Int32.ofInt (-1))) else (if (Int32.ofInt (-1)) ≤ a1 then (f_M_fits_L28 FU a1 (Int32.ofInt 0) (((Int32.ofInt 1) <<< ((s.1 60 0 29) &&& 31)) - (Int32.ofInt 1)) (Int32.ofInt 0) s) else some (s, (Int32.ofInt (-1)))))
theorem c_M_fits_L74 {xs : Nat → Int32} {L d : Nat} {P : MK S2} {Q : S2 → Option MV → Prop} {res : S2 × Int32} (hP : MClosed (O3 xs L) (kcall (O3 xs L) (d + 9)) kd_M_fits 1 Q P) (hQ : Q res.1 (some (mI res.2))) {k28 : Int32 → Int32 → Int32 → Int32 → S2 → Option (S2 × Int32)} (hk28 : ∀ (x1 : Int32) (x2 : Int32) (x3 : Int32) (x4 : Int32) (x5 : Option Int32) (s : S2), k28 x1 x2 x3 x4 s = some res → P 28 [some (mR 60 0), some (mI x1), some (mI x2), some (mI x3), some (mI x4), oI x5] [] s (0, 0)) (x1 : Int32) (x2 : Int32) (x3 : Int32) (x4 : Int32) (x5 : Int32) (s : S2) (h : f_M_fits_L74 k28 x1 x2 x3 x4 s = some res) : P 74 [some (mR 60 0), some (mI x1), some (mI x2), some (mI x3), some (mI x4), some (mI x5)] [] s (0, 0) := by
  refine mgo_from hP [28, 74] 260 ?_
  exact hk28 _ _ _ _ (some x5) _ h
set_option maxRecDepth 20000 in
set_option maxHeartbeats 4000000 in
theorem cb_M_fits_L28 {xs : Nat → Int32} {L d : Nat} {P : MK S2} {Q : S2 → Option MV → Prop} {res : S2 × Int32} (hP : MClosed (O3 xs L) (kcall (O3 xs L) (d + 9)) kd_M_fits 1 Q P) (hQ : Q res.1 (some (mI res.2))) {k28 : Int32 → Int32 → Int32 → Int32 → S2 → Option (S2 × Int32)} (hk28 : ∀ (x1 : Int32) (x2 : Int32) (x3 : Int32) (x4 : Int32) (x5 : Option Int32) (s : S2), k28 x1 x2 x3 x4 s = some res → P 28 [some (mR 60 0), some (mI x1), some (mI x2), some (mI x3), some (mI x4), oI x5] [] s (0, 0)) (x1 : Int32) (x2 : Int32) (x3 : Int32) (x4 : Int32) (x5 : Option Int32) (s : S2) (h : b_M_fits_L28 k28 x1 x2 x3 x4 s = some res) : P 28 [some (mR 60 0), some (mI x1), some (mI x2), some (mI x3), some (mI x4), oI x5] [] s (0, 0) := by
  refine mgo_from hP [28, 74] 260 ?_
  refine go_br (fun hc : x3 < x4 => ?_) (fun hc : ¬ (x3 < x4) => ?_)
  · replace h := (if_pos hc).symm.trans h
    refine go_brn (fun hc : ¬ (x1 = (Int32.ofInt (-1))) => ?_) (fun hc : x1 = (Int32.ofInt (-1)) => ?_)
    · replace h := (if_neg hc).symm.trans h
      cases h
      exact hQ
    · replace h := (if_pos hc).symm.trans h
      cases h
      exact hQ
  · replace h := (if_neg hc).symm.trans h
    obtain ⟨q1, hq, h⟩ := bnd h
    refine go_call (fun _ hw => c_M_putAside hq hw) ?_
    replace h := bnds h
    obtain ⟨q3, hq, h⟩ := bnd h
    refine go_call (fun _ hw => c_M_agrees hq hw) ?_
    obtain ⟨q4, hq, h⟩ := bnd h
    refine go_call (fun _ hw => c_M_takeBack hq hw) ?_
    refine go_br (fun hc : (bI q3.2) = 0 => ?_) (fun hc : ¬ ((bI q3.2) = 0) => ?_)
    · replace h := (if_pos hc).symm.trans h
      exact c_M_fits_L74 hP hQ hk28 _ _ _ _ _ _ h
    · replace h := (if_neg hc).symm.trans h
      refine go_brn (fun hc : ¬ (x2 = x1) => ?_) (fun hc : x2 = x1 => ?_)
      · replace h := (if_neg hc).symm.trans h
        exact c_M_fits_L74 hP hQ hk28 _ _ _ _ _ _ h
      · replace h := (if_pos hc).symm.trans h
        cases h
        exact hQ
theorem c_M_fits_L28 {xs : Nat → Int32} {L d : Nat} {P : MK S2} {Q : S2 → Option MV → Prop} {res : S2 × Int32} (hP : MClosed (O3 xs L) (kcall (O3 xs L) (d + 9)) kd_M_fits 1 Q P) (hQ : Q res.1 (some (mI res.2))) : ∀ (fu : Nat) (x1 : Int32) (x2 : Int32) (x3 : Int32) (x4 : Int32) (x5 : Option Int32) (s : S2), f_M_fits_L28 fu x1 x2 x3 x4 s = some res → P 28 [some (mR 60 0), some (mI x1), some (mI x2), some (mI x3), some (mI x4), oI x5] [] s (0, 0)
  | 0, _, _, _, _, _, _, h => by cases h
  | fu + 1, x1, x2, x3, x4, x5, s, h => cb_M_fits_L28 hP hQ (c_M_fits_L28 hP hQ fu) x1 x2 x3 x4 x5 s h
theorem c_M_fits {xs : Nat → Int32} {L d : Nat} {a1 : Int32} {s : S2} {res : S2 × Int32} {Q : S2 → Option MV → Prop} (h : f_M_fits a1 s = some res) (hQ : Q res.1 (some (mI res.2))) : kcall (O3 xs L) (d + 10) k_M_fits [mR 60 0, mI a1] s Q := by
  refine kc_of (cd := kd_M_fits) (mx := 6) (rt := 1) rfl rfl ?_
  intro P hP
  refine mgo_sound hP [28, 74] 260 _ _ _ _ _ ?_
  refine go_br (fun hc : (s.1 60 0 28) = 0 => ?_) (fun hc : ¬ ((s.1 60 0 28) = 0) => ?_)
  · replace h := (if_pos hc).symm.trans h
    cases h
    exact hQ
  · replace h := (if_neg hc).symm.trans h
    refine go_br (fun hc : (Int32.ofInt (-1)) ≤ a1 => ?_) (fun hc : ¬ ((Int32.ofInt (-1)) ≤ a1) => ?_)
    · replace h := (if_pos hc).symm.trans h
      exact c_M_fits_L28 hP hQ FU _ _ _ _ none _ h
    · replace h := (if_neg hc).symm.trans h
      cases h
      exact hQ
/-! M_treaty -/
def f_M_treaty_L112 (s : S2) : Option (S2 × Int32) := some (s, (s.1 60 0 62))
def b_M_treaty_L79 (k79 : Int32 → S2 → Option (S2 × Int32)) (x5 : Int32) (s : S2) : Option (S2 × Int32) := (if (Int32.ofInt 3) < x5 then (f_M_treaty_L112 s) else (if (s.1 60 0 62) = (Int32.ofInt (-1)) then ((f_M_tryTreaties 9 (Int32.ofInt 0) (Int32.ofInt 0) (Int32.ofInt 0) x5 95 0 4 s).bind fun q1 => (k79 (x5 + (Int32.ofInt 1)) q1)) else (f_M_treaty_L112 s)))
def f_M_treaty_L79 : Nat → Int32 → S2 → Option (S2 × Int32)
  | 0 => fun _ _ => none
  | n + 1 => b_M_treaty_L79 (f_M_treaty_L79 n)
def f_M_treaty (a1 : Int32) (a2 : Int32) (a3 : Int32) (a4 : Int32) (s : S2) : Option (S2 × Int32) := (if (bI (g_M_areCodes a1 s)) = 0 then some (s, (Int32.ofInt (-1))) else (if (bI (g_M_in a2 (Int32.ofInt 0) (Int32.ofInt 999) s)) = 0 then some (s, (Int32.ofInt (-1))) else (if (bI (g_M_in a3 (Int32.ofInt 1) (Int32.ofInt 20) s)) = 0 then some (s, (Int32.ofInt (-1))) else (if (bI (g_M_in a4 (Int32.ofInt 1) (Int32.ofInt 9) s)) = 0 then some (s, (Int32.ofInt (-1))) else ((some (pkS s 95 0 0 a4)).bind fun s1 => ((some (pkS s1 95 0 1 a1)).bind fun s2 => ((some (pkS s2 95 0 2 a2)).bind fun s3 => ((some (pkS s3 95 0 3 a3)).bind fun s4 => ((some (pkS s4 60 0 62 (Int32.ofInt (-1)))).bind fun s5 => (f_M_treaty_L79 FU (Int32.ofInt 0) s5))))))))))
theorem c_M_treaty_L112 {xs : Nat → Int32} {L d : Nat} {P : MK S2} {Q : S2 → Option MV → Prop} {res : S2 × Int32} (hP : MClosed (O3 xs L) (kcall (O3 xs L) (d + 192)) kd_M_treaty 1 Q P) (hQ : Q res.1 (some (mI res.2))) (x1 : Int32) (x2 : Int32) (x3 : Int32) (x4 : Int32) (x5 : Int32) (s : S2) (h : f_M_treaty_L112 s = some res) : P 112 [some (mR 60 0), some (mI x1), some (mI x2), some (mI x3), some (mI x4), some (mI x5)] [] s (0, 0) := by
  refine mgo_from hP [79, 112] 260 ?_
  cases h
  exact hQ
theorem cb_M_treaty_L79 {xs : Nat → Int32} {L d : Nat} {P : MK S2} {Q : S2 → Option MV → Prop} {res : S2 × Int32} (hP : MClosed (O3 xs L) (kcall (O3 xs L) (d + 192)) kd_M_treaty 1 Q P) (hQ : Q res.1 (some (mI res.2))) {k79 : Int32 → S2 → Option (S2 × Int32)} (hk79 : ∀ (x5 : Int32) (x1 : Int32) (x2 : Int32) (x3 : Int32) (x4 : Int32) (s : S2), k79 x5 s = some res → P 79 [some (mR 60 0), some (mI x1), some (mI x2), some (mI x3), some (mI x4), some (mI x5)] [] s (0, 0)) (x5 : Int32) (x1 : Int32) (x2 : Int32) (x3 : Int32) (x4 : Int32) (s : S2) (h : b_M_treaty_L79 k79 x5 s = some res) : P 79 [some (mR 60 0), some (mI x1), some (mI x2), some (mI x3), some (mI x4), some (mI x5)] [] s (0, 0) := by
  refine mgo_from hP [79, 112] 260 ?_
  refine go_br (fun hc : (Int32.ofInt 3) < x5 => ?_) (fun hc : ¬ ((Int32.ofInt 3) < x5) => ?_)
  · replace h := (if_pos hc).symm.trans h
    exact c_M_treaty_L112 hP hQ _ _ _ _ _ _ h
  · replace h := (if_neg hc).symm.trans h
    refine go_brn (fun hc : ¬ ((s.1 60 0 62) = (Int32.ofInt (-1))) => ?_) (fun hc : (s.1 60 0 62) = (Int32.ofInt (-1)) => ?_)
    · replace h := (if_neg hc).symm.trans h
      exact c_M_treaty_L112 hP hQ _ _ _ _ _ _ h
    · replace h := (if_pos hc).symm.trans h
      obtain ⟨q1, hq, h⟩ := bnd h
      refine go_call (fun _ hw => c_M_tryTreaties_95 hq hw) ?_
      exact hk79 _ _ _ _ _ _ h
theorem c_M_treaty_L79 {xs : Nat → Int32} {L d : Nat} {P : MK S2} {Q : S2 → Option MV → Prop} {res : S2 × Int32} (hP : MClosed (O3 xs L) (kcall (O3 xs L) (d + 192)) kd_M_treaty 1 Q P) (hQ : Q res.1 (some (mI res.2))) : ∀ (fu : Nat) (x5 : Int32) (x1 : Int32) (x2 : Int32) (x3 : Int32) (x4 : Int32) (s : S2), f_M_treaty_L79 fu x5 s = some res → P 79 [some (mR 60 0), some (mI x1), some (mI x2), some (mI x3), some (mI x4), some (mI x5)] [] s (0, 0)
  | 0, _, _, _, _, _, _, h => by cases h
  | fu + 1, x5, x1, x2, x3, x4, s, h => cb_M_treaty_L79 hP hQ (c_M_treaty_L79 hP hQ fu) x5 x1 x2 x3 x4 s h
set_option maxRecDepth 20000 in
set_option maxHeartbeats 4000000 in
theorem c_M_treaty {xs : Nat → Int32} {L d : Nat} {a1 : Int32} {a2 : Int32} {a3 : Int32} {a4 : Int32} {s : S2} {res : S2 × Int32} {Q : S2 → Option MV → Prop} (h : f_M_treaty a1 a2 a3 a4 s = some res) (hQ : Q res.1 (some (mI res.2))) : kcall (O3 xs L) (d + 193) k_M_treaty [mR 60 0, mI a1, mI a2, mI a3, mI a4] s Q := by
  refine kc_of (cd := kd_M_treaty) (mx := 6) (rt := 1) rfl rfl ?_
  intro P hP
  refine mgo_sound hP [79, 112] 260 _ _ _ _ _ ?_
  refine go_call (fun _ hw => c_M_areCodes hw) ?_
  refine go_br (fun hc : (bI (g_M_areCodes a1 s)) = 0 => ?_) (fun hc : ¬ ((bI (g_M_areCodes a1 s)) = 0) => ?_)
  · replace h := (if_pos hc).symm.trans h
    cases h
    exact hQ
  · replace h := (if_neg hc).symm.trans h
    refine go_call (fun _ hw => c_M_in hw) ?_
    refine go_br (fun hc : (bI (g_M_in a2 (Int32.ofInt 0) (Int32.ofInt 999) s)) = 0 => ?_) (fun hc : ¬ ((bI (g_M_in a2 (Int32.ofInt 0) (Int32.ofInt 999) s)) = 0) => ?_)
    · replace h := (if_pos hc).symm.trans h
      cases h
      exact hQ
    · replace h := (if_neg hc).symm.trans h
      refine go_call (fun _ hw => c_M_in hw) ?_
      refine go_br (fun hc : (bI (g_M_in a3 (Int32.ofInt 1) (Int32.ofInt 20) s)) = 0 => ?_) (fun hc : ¬ ((bI (g_M_in a3 (Int32.ofInt 1) (Int32.ofInt 20) s)) = 0) => ?_)
      · replace h := (if_pos hc).symm.trans h
        cases h
        exact hQ
      · replace h := (if_neg hc).symm.trans h
        refine go_call (fun _ hw => c_M_in hw) ?_
        refine go_brn (fun hc : ¬ ((bI (g_M_in a4 (Int32.ofInt 1) (Int32.ofInt 9) s)) = 0) => ?_) (fun hc : (bI (g_M_in a4 (Int32.ofInt 1) (Int32.ofInt 9) s)) = 0 => ?_)
        · replace h := (if_neg hc).symm.trans h
          replace h := bnds h
          refine go_ix 0 (Nat.le_of_ble_eq_true rfl) rfl ?_
          replace h := bnds h
          refine go_ix 1 (Nat.le_of_ble_eq_true rfl) rfl ?_
          replace h := bnds h
          refine go_ix 2 (Nat.le_of_ble_eq_true rfl) rfl ?_
          replace h := bnds h
          refine go_ix 3 (Nat.le_of_ble_eq_true rfl) rfl ?_
          replace h := bnds h
          exact c_M_treaty_L79 hP hQ FU _ _ _ _ _ _ h
        · replace h := (if_pos hc).symm.trans h
          cases h
          exact hQ
