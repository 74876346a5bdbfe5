/-! Rule_worth -/
def f_Rule_worth_L236 (r0 : Nat) (c1 : Nat) (i1 : Nat) (n1 : Nat) (k7 : Int32 → Int32 → Int32 → S2 → Option (S2 × Int32)) (x2 : Int32) (x3 : Int32) (x4 : Int32) (s : S2) : Option (S2 × Int32) := (k7 x2 x3 (x4 + (Int32.ofInt 1)) s)
def f_Rule_worth_L94 (r0 : Nat) (c1 : Nat) (i1 : Nat) (n1 : Nat) (k7 : Int32 → Int32 → Int32 → S2 → Option (S2 × Int32)) (x2 : Int32) (x3 : Int32) (x4 : Int32) (y1 : Int32) (y2 : Int32) (s : S2) : Option (S2 × Int32) := ((ix 32 y1).bind fun j2 => (some (pkS s 19 r0 j2 y2)).bind fun s1 => (f_Rule_worth_L236 r0 c1 i1 n1 k7 (x2 + (Int32.ofInt 1)) x3 x4 s1))
def f_Rule_worth_L60 (r0 : Nat) (c1 : Nat) (i1 : Nat) (n1 : Nat) (k7 : Int32 → Int32 → Int32 → S2 → Option (S2 × Int32)) (x2 : Int32) (x3 : Int32) (x4 : Int32) (x5 : Int32) (s : S2) : Option (S2 × Int32) := (if x2 < (Int32.ofInt 32) then (if x5 < (Int32.ofInt 256) then ((ix n1 x5).bind fun j1 => (f_Rule_worth_L94 r0 c1 i1 n1 k7 x2 x3 x4 x2 (s.1 c1 i1 j1) s)) else (f_Rule_worth_L94 r0 c1 i1 n1 k7 x2 x3 x4 x2 (x5 - (Int32.ofInt 256)) s)) else some (s, (Int32.ofInt 0)))
def f_Rule_worth_L148 (r0 : Nat) (c1 : Nat) (i1 : Nat) (n1 : Nat) (k7 : Int32 → Int32 → Int32 → S2 → Option (S2 × Int32)) (x2 : Int32) (x4 : Int32) (y0 : Int32) (s : S2) : Option (S2 × Int32) := (f_Rule_worth_L236 r0 c1 i1 n1 k7 x2 y0 x4 s)
def f_Rule_worth_L41 (r0 : Nat) (c1 : Nat) (i1 : Nat) (n1 : Nat) (k7 : Int32 → Int32 → Int32 → S2 → Option (S2 × Int32)) (x2 : Int32) (x4 : Int32) (y0 : Int32) (s : S2) : Option (S2 × Int32) := (f_Rule_worth_L236 r0 c1 i1 n1 k7 x2 y0 x4 s)
def b_Rule_worth_L7 (r0 : Nat) (c1 : Nat) (i1 : Nat) (n1 : Nat) (k7 : Int32 → Int32 → Int32 → S2 → Option (S2 × Int32)) (x2 : Int32) (x3 : Int32) (x4 : Int32) (s : S2) : Option (S2 × Int32) := (if (s.1 17 r0 2) ≤ x4 then some (s, (Int32.ofInt 0)) else ((ix 241 x4).bind fun j1 => (if x3 = 0 then (if (Int32.ofInt 256) ≤ (s.1 18 r0 j1) then (f_Rule_worth_L60 r0 c1 i1 n1 k7 x2 x3 x4 (s.1 18 r0 j1) s) else (if (Int32.ofInt 6) ≤ (s.1 18 r0 j1) then (if (Int32.ofInt 1) ≤ x2 then (if (s.1 18 r0 j1) = (Int32.ofInt 59) then ((ix 32 (x2 - (Int32.ofInt 1))).bind fun j11 => some (s, (s.1 19 r0 j11))) else (if (s.1 18 r0 j1) = (Int32.ofInt 63) then ((ix 32 (x2 + (Int32.ofInt (-1)))).bind fun j10 => (if (s.1 19 r0 j10) = 0 then (f_Rule_worth_L148 r0 c1 i1 n1 k7 (x2 + (Int32.ofInt (-1))) x4 (Int32.ofInt 1) s) else (f_Rule_worth_L148 r0 c1 i1 n1 k7 (x2 + (Int32.ofInt (-1))) x4 (Int32.ofInt 0) s))) else (if (s.1 18 r0 j1) = (Int32.ofInt 33) then ((ix 32 (x2 - (Int32.ofInt 1))).bind fun j7 => ((ix 32 (x2 - (Int32.ofInt 1))).bind fun j9 => (some (pkS s 19 r0 j9 ((Int32.ofInt 1) - (s.1 19 r0 j7)))).bind fun s8 => (f_Rule_worth_L236 r0 c1 i1 n1 k7 x2 x3 x4 s8))) else (if (Int32.ofInt 2) ≤ x2 then ((ix 32 ((x2 + (Int32.ofInt (-1))) - (Int32.ofInt 1))).bind fun j2 => ((ix 32 (x2 + (Int32.ofInt (-1)))).bind fun j3 => ((f_Rule_join (s.1 18 r0 j1) (Int32.toInt64 (s.1 19 r0 j2)) (Int32.toInt64 (s.1 19 r0 j3)) s).bind fun q4 => ((ix 32 ((x2 + (Int32.ofInt (-1))) - (Int32.ofInt 1))).bind fun j6 => (some (pkS s 19 r0 j6 (Int64.toInt32 (jmaxL (Int64.ofInt (-1000000)) (jminL (Int64.ofInt 1000000) q4))))).bind fun s5 => (f_Rule_worth_L236 r0 c1 i1 n1 k7 (x2 + (Int32.ofInt (-1))) x3 x4 s5))))) else some (s, (Int32.ofInt 0)))))) else some (s, (Int32.ofInt 0))) else (f_Rule_worth_L60 r0 c1 i1 n1 k7 x2 x3 x4 (s.1 18 r0 j1) s))) else (if (s.1 18 r0 j1) = (Int32.ofInt 59) then (f_Rule_worth_L41 r0 c1 i1 n1 k7 x2 x4 (Int32.ofInt 0) s) else (f_Rule_worth_L41 r0 c1 i1 n1 k7 x2 x4 (Int32.ofInt 1) s)))))
def f_Rule_worth_L7 (r0 : Nat) (c1 : Nat) (i1 : Nat) (n1 : Nat) : Nat → Int32 → Int32 → Int32 → S2 → Option (S2 × Int32)
  | 0 => fun _ _ _ _ => none
  | n + 1 => b_Rule_worth_L7 r0 c1 i1 n1 (f_Rule_worth_L7 r0 c1 i1 n1 n)
def f_Rule_worth (r0 : Nat) (c1 : Nat) (i1 : Nat) (n1 : Nat) (s : S2) : Option (S2 × Int32) := (f_Rule_worth_L7 r0 c1 i1 n1 FU (Int32.ofInt 0) (Int32.ofInt 0) (Int32.ofInt 0) s)
theorem c_Rule_worth_32_L236 {xs : Nat → Int32} {L d : Nat} {r0 i1 : Nat} {P : MK S2} {Q : S2 → Option MV → Prop} {res : S2 × Int32} (hP : MClosed (O3 xs L) (kcall (O3 xs L) (d + 1)) kd_Rule_worth 1 Q P) (hQ : Q res.1 (some (mI res.2))) {k7 : Int32 → Int32 → Int32 → S2 → Option (S2 × Int32)} (hk7 : ∀ (x2 : Int32) (x3 : Int32) (x4 : Int32) (x5 : Option Int32) (x6 : Option Int64) (s : S2), k7 x2 x3 x4 s = some res → P 7 [some (mR 17 r0), some (mR 32 i1), some (mI x2), some (mI x3), some (mI x4), oI x5, oL x6, none] [] s (0, 0)) (x2 : Int32) (x3 : Int32) (x4 : Int32) (x5 : Int32) (x6 : Option Int64) (s : S2) (h : f_Rule_worth_L236 r0 32 i1 6 k7 x2 x3 x4 s = some res) : P 236 [some (mR 17 r0), some (mR 32 i1), some (mI x2), some (mI x3), some (mI x4), some (mI x5), oL x6, none] [] s (0, 0) := by
  refine mgo_from hP [7, 41, 60, 94, 148, 236] 260 ?_
  exact hk7 _ _ _ (some x5) x6 _ h
theorem c_Rule_worth_32_L94 {xs : Nat → Int32} {L d : Nat} {r0 i1 : Nat} {P : MK S2} {Q : S2 → Option MV → Prop} {res : S2 × Int32} (hP : MClosed (O3 xs L) (kcall (O3 xs L) (d + 1)) kd_Rule_worth 1 Q P) (hQ : Q res.1 (some (mI res.2))) {k7 : Int32 → Int32 → Int32 → S2 → Option (S2 × Int32)} (hk7 : ∀ (x2 : Int32) (x3 : Int32) (x4 : Int32) (x5 : Option Int32) (x6 : Option Int64) (s : S2), k7 x2 x3 x4 s = some res → P 7 [some (mR 17 r0), some (mR 32 i1), some (mI x2), some (mI x3), some (mI x4), oI x5, oL x6, none] [] s (0, 0)) (x2 : Int32) (x3 : Int32) (x4 : Int32) (y1 : Int32) (y2 : Int32) (x5 : Int32) (x6 : Option Int64) (s : S2) (h : f_Rule_worth_L94 r0 32 i1 6 k7 x2 x3 x4 y1 y2 s = some res) : P 94 [some (mR 17 r0), some (mR 32 i1), some (mI x2), some (mI x3), some (mI x4), some (mI x5), oL x6, none] [mI y2, mI y1, mR 19 r0] s (0, 0) := by
  refine mgo_from hP [7, 41, 60, 94, 148, 236] 260 ?_
  obtain ⟨j2, hj, h⟩ := bnd h
  replace h := bnds h
  refine go_ix j2 (ix_lt hj) (ix_eq hj) ?_
  exact c_Rule_worth_32_L236 hP hQ hk7 _ _ _ _ x6 _ h
theorem c_Rule_worth_32_L60 {xs : Nat → Int32} {L d : Nat} {r0 i1 : Nat} {P : MK S2} {Q : S2 → Option MV → Prop} {res : S2 × Int32} (hP : MClosed (O3 xs L) (kcall (O3 xs L) (d + 1)) kd_Rule_worth 1 Q P) (hQ : Q res.1 (some (mI res.2))) {k7 : Int32 → Int32 → Int32 → S2 → Option (S2 × Int32)} (hk7 : ∀ (x2 : Int32) (x3 : Int32) (x4 : Int32) (x5 : Option Int32) (x6 : Option Int64) (s : S2), k7 x2 x3 x4 s = some res → P 7 [some (mR 17 r0), some (mR 32 i1), some (mI x2), some (mI x3), some (mI x4), oI x5, oL x6, none] [] s (0, 0)) (x2 : Int32) (x3 : Int32) (x4 : Int32) (x5 : Int32) (x6 : Option Int64) (s : S2) (h : f_Rule_worth_L60 r0 32 i1 6 k7 x2 x3 x4 x5 s = some res) : P 60 [some (mR 17 r0), some (mR 32 i1), some (mI x2), some (mI x3), some (mI x4), some (mI x5), oL x6, none] [] s (0, 0) := by
  refine mgo_from hP [7, 41, 60, 94, 148, 236] 260 ?_
  refine go_br (fun hc : x2 < (Int32.ofInt 32) => ?_) (fun hc : ¬ (x2 < (Int32.ofInt 32)) => ?_)
  · replace h := (if_pos hc).symm.trans h
    refine go_br (fun hc : x5 < (Int32.ofInt 256) => ?_) (fun hc : ¬ (x5 < (Int32.ofInt 256)) => ?_)
    · replace h := (if_pos hc).symm.trans h
      obtain ⟨j1, hj, h⟩ := bnd h
      refine go_ix j1 (ix_lt hj) (ix_eq hj) ?_
      exact c_Rule_worth_32_L94 hP hQ hk7 _ _ _ _ _ _ x6 _ h
    · replace h := (if_neg hc).symm.trans h
      exact c_Rule_worth_32_L94 hP hQ hk7 _ _ _ _ _ _ x6 _ h
  · replace h := (if_neg hc).symm.trans h
    cases h
    exact hQ
theorem c_Rule_worth_32_L148 {xs : Nat → Int32} {L d : Nat} {r0 i1 : Nat} {P : MK S2} {Q : S2 → Option MV → Prop} {res : S2 × Int32} (hP : MClosed (O3 xs L) (kcall (O3 xs L) (d + 1)) kd_Rule_worth 1 Q P) (hQ : Q res.1 (some (mI res.2))) {k7 : Int32 → Int32 → Int32 → S2 → Option (S2 × Int32)} (hk7 : ∀ (x2 : Int32) (x3 : Int32) (x4 : Int32) (x5 : Option Int32) (x6 : Option Int64) (s : S2), k7 x2 x3 x4 s = some res → P 7 [some (mR 17 r0), some (mR 32 i1), some (mI x2), some (mI x3), some (mI x4), oI x5, oL x6, none] [] s (0, 0)) (x2 : Int32) (x4 : Int32) (y0 : Int32) (x3 : Int32) (x5 : Int32) (x6 : Option Int64) (s : S2) (h : f_Rule_worth_L148 r0 32 i1 6 k7 x2 x4 y0 s = some res) : P 148 [some (mR 17 r0), some (mR 32 i1), some (mI x2), some (mI x3), some (mI x4), some (mI x5), oL x6, none] [mI y0] s (0, 0) := by
  refine mgo_from hP [7, 41, 60, 94, 148, 236] 260 ?_
  exact c_Rule_worth_32_L236 hP hQ hk7 _ _ _ _ x6 _ h
theorem c_Rule_worth_32_L41 {xs : Nat → Int32} {L d : Nat} {r0 i1 : Nat} {P : MK S2} {Q : S2 → Option MV → Prop} {res : S2 × Int32} (hP : MClosed (O3 xs L) (kcall (O3 xs L) (d + 1)) kd_Rule_worth 1 Q P) (hQ : Q res.1 (some (mI res.2))) {k7 : Int32 → Int32 → Int32 → S2 → Option (S2 × Int32)} (hk7 : ∀ (x2 : Int32) (x3 : Int32) (x4 : Int32) (x5 : Option Int32) (x6 : Option Int64) (s : S2), k7 x2 x3 x4 s = some res → P 7 [some (mR 17 r0), some (mR 32 i1), some (mI x2), some (mI x3), some (mI x4), oI x5, oL x6, none] [] s (0, 0)) (x2 : Int32) (x4 : Int32) (y0 : Int32) (x3 : Int32) (x5 : Int32) (x6 : Option Int64) (s : S2) (h : f_Rule_worth_L41 r0 32 i1 6 k7 x2 x4 y0 s = some res) : P 41 [some (mR 17 r0), some (mR 32 i1), some (mI x2), some (mI x3), some (mI x4), some (mI x5), oL x6, none] [mI y0] s (0, 0) := by
  refine mgo_from hP [7, 41, 60, 94, 148, 236] 260 ?_
  exact c_Rule_worth_32_L236 hP hQ hk7 _ _ _ _ x6 _ h
set_option maxRecDepth 20000 in
set_option maxHeartbeats 4000000 in
theorem cb_Rule_worth_32_L7 {xs : Nat → Int32} {L d : Nat} {r0 i1 : Nat} {P : MK S2} {Q : S2 → Option MV → Prop} {res : S2 × Int32} (hP : MClosed (O3 xs L) (kcall (O3 xs L) (d + 1)) kd_Rule_worth 1 Q P) (hQ : Q res.1 (some (mI res.2))) {k7 : Int32 → Int32 → Int32 → S2 → Option (S2 × Int32)} (hk7 : ∀ (x2 : Int32) (x3 : Int32) (x4 : Int32) (x5 : Option Int32) (x6 : Option Int64) (s : S2), k7 x2 x3 x4 s = some res → P 7 [some (mR 17 r0), some (mR 32 i1), some (mI x2), some (mI x3), some (mI x4), oI x5, oL x6, none] [] s (0, 0)) (x2 : Int32) (x3 : Int32) (x4 : Int32) (x5 : Option Int32) (x6 : Option Int64) (s : S2) (h : b_Rule_worth_L7 r0 32 i1 6 k7 x2 x3 x4 s = some res) : P 7 [some (mR 17 r0), some (mR 32 i1), some (mI x2), some (mI x3), some (mI x4), oI x5, oL x6, none] [] s (0, 0) := by
  refine mgo_from hP [7, 41, 60, 94, 148, 236] 260 ?_
  refine go_br (fun hc : (s.1 17 r0 2) ≤ x4 => ?_) (fun hc : ¬ ((s.1 17 r0 2) ≤ x4) => ?_)
  · replace h := (if_pos hc).symm.trans h
    cases h
    exact hQ
  · replace h := (if_neg hc).symm.trans h
    obtain ⟨j1, hj, h⟩ := bnd h
    refine go_ix j1 (ix_lt hj) (ix_eq hj) ?_
    refine go_br (fun hc : x3 = 0 => ?_) (fun hc : ¬ (x3 = 0) => ?_)
    · replace h := (if_pos hc).symm.trans h
      refine go_br (fun hc : (Int32.ofInt 256) ≤ (s.1 18 r0 j1) => ?_) (fun hc : ¬ ((Int32.ofInt 256) ≤ (s.1 18 r0 j1)) => ?_)
      · replace h := (if_pos hc).symm.trans h
        exact c_Rule_worth_32_L60 hP hQ hk7 _ _ _ _ x6 _ h
      · replace h := (if_neg hc).symm.trans h
        refine go_br (fun hc : (Int32.ofInt 6) ≤ (s.1 18 r0 j1) => ?_) (fun hc : ¬ ((Int32.ofInt 6) ≤ (s.1 18 r0 j1)) => ?_)
        · replace h := (if_pos hc).symm.trans h
          refine go_br (fun hc : (Int32.ofInt 1) ≤ x2 => ?_) (fun hc : ¬ ((Int32.ofInt 1) ≤ x2) => ?_)
          · replace h := (if_pos hc).symm.trans h
            refine go_brn (fun hc : ¬ ((s.1 18 r0 j1) = (Int32.ofInt 59)) => ?_) (fun hc : (s.1 18 r0 j1) = (Int32.ofInt 59) => ?_)
            · replace h := (if_neg hc).symm.trans h
              refine go_brn (fun hc : ¬ ((s.1 18 r0 j1) = (Int32.ofInt 63)) => ?_) (fun hc : (s.1 18 r0 j1) = (Int32.ofInt 63) => ?_)
              · replace h := (if_neg hc).symm.trans h
                refine go_brn (fun hc : ¬ ((s.1 18 r0 j1) = (Int32.ofInt 33)) => ?_) (fun hc : (s.1 18 r0 j1) = (Int32.ofInt 33) => ?_)
                · replace h := (if_neg hc).symm.trans h
                  refine go_br (fun hc : (Int32.ofInt 2) ≤ x2 => ?_) (fun hc : ¬ ((Int32.ofInt 2) ≤ x2) => ?_)
                  · replace h := (if_pos hc).symm.trans h
                    obtain ⟨j2, hj, h⟩ := bnd h
                    refine go_ix j2 (ix_lt hj) (ix_eq hj) ?_
                    obtain ⟨j3, hj, h⟩ := bnd h
                    refine go_ix j3 (ix_lt hj) (ix_eq hj) ?_
                    obtain ⟨q4, hq, h⟩ := bnd h
                    refine go_call (fun _ hw => c_Rule_join hq hw) ?_
                    obtain ⟨j6, hj, h⟩ := bnd h
                    replace h := bnds h
                    refine go_ix j6 (ix_lt hj) (ix_eq hj) ?_
                    exact c_Rule_worth_32_L236 hP hQ hk7 _ _ _ _ (some q4) _ h
                  · replace h := (if_neg hc).symm.trans h
                    cases h
                    exact hQ
                · replace h := (if_pos hc).symm.trans h
                  obtain ⟨j7, hj, h⟩ := bnd h
                  refine go_ix j7 (ix_lt hj) (ix_eq hj) ?_
                  obtain ⟨j9, hj, h⟩ := bnd h
                  replace h := bnds h
                  refine go_ix j9 (ix_lt hj) (ix_eq hj) ?_
                  exact c_Rule_worth_32_L236 hP hQ hk7 _ _ _ _ x6 _ h
              · replace h := (if_pos hc).symm.trans h
                obtain ⟨j10, hj, h⟩ := bnd h
                refine go_ix j10 (ix_lt hj) (ix_eq hj) ?_
                refine go_brn (fun hc : ¬ ((s.1 19 r0 j10) = 0) => ?_) (fun hc : (s.1 19 r0 j10) = 0 => ?_)
                · replace h := (if_neg hc).symm.trans h
                  exact c_Rule_worth_32_L148 hP hQ hk7 _ _ _ _ _ x6 _ h
                · replace h := (if_pos hc).symm.trans h
                  exact c_Rule_worth_32_L148 hP hQ hk7 _ _ _ _ _ x6 _ h
            · replace h := (if_pos hc).symm.trans h
              obtain ⟨j11, hj, h⟩ := bnd h
              refine go_ix j11 (ix_lt hj) (ix_eq hj) ?_
              cases h
              exact hQ
          · replace h := (if_neg hc).symm.trans h
            cases h
            exact hQ
        · replace h := (if_neg hc).symm.trans h
          exact c_Rule_worth_32_L60 hP hQ hk7 _ _ _ _ x6 _ h
    · replace h := (if_neg hc).symm.trans h
      refine go_br (fun hc : (s.1 18 r0 j1) = (Int32.ofInt 59) => ?_) (fun hc : ¬ ((s.1 18 r0 j1) = (Int32.ofInt 59)) => ?_)
      · replace h := (if_pos hc).symm.trans h
        exact c_Rule_worth_32_L41 hP hQ hk7 _ _ _ _ _ x6 _ h
      · replace h := (if_neg hc).symm.trans h
        exact c_Rule_worth_32_L41 hP hQ hk7 _ _ _ _ _ x6 _ h
theorem c_Rule_worth_32_L7 {xs : Nat → Int32} {L d : Nat} {r0 i1 : Nat} {P : MK S2} {Q : S2 → Option MV → Prop} {res : S2 × Int32} (hP : MClosed (O3 xs L) (kcall (O3 xs L) (d + 1)) kd_Rule_worth 1 Q P) (hQ : Q res.1 (some (mI res.2))) : ∀ (fu : Nat) (x2 : Int32) (x3 : Int32) (x4 : Int32) (x5 : Option Int32) (x6 : Option Int64) (s : S2), f_Rule_worth_L7 r0 32 i1 6 fu x2 x3 x4 s = some res → P 7 [some (mR 17 r0), some (mR 32 i1), some (mI x2), some (mI x3), some (mI x4), oI x5, oL x6, none] [] s (0, 0)
  | 0, _, _, _, _, _, _, h => by cases h
  | fu + 1, x2, x3, x4, x5, x6, s, h => cb_Rule_worth_32_L7 hP hQ (c_Rule_worth_32_L7 hP hQ fu) x2 x3 x4 x5 x6 s h
theorem c_Rule_worth_32 {xs : Nat → Int32} {L d : Nat} {r0 : Nat} {i1 : Nat} {s : S2} {res : S2 × Int32} {Q : S2 → Option MV → Prop} (h : f_Rule_worth r0 32 i1 6 s = some res) (hQ : Q res.1 (some (mI res.2))) : kcall (O3 xs L) (d + 2) k_Rule_worth [mR 17 r0, mR 32 i1] s Q := by
  refine kc_of (cd := kd_Rule_worth) (mx := 8) (rt := 1) rfl rfl ?_
  intro P hP
  refine mgo_sound hP [7, 41, 60, 94, 148, 236] 260 _ _ _ _ _ ?_
  exact c_Rule_worth_32_L7 hP hQ FU _ _ _ none none _ h
/-! D_bridge -/
def f_D_bridge (a1 : Int32) (a2 : Int32) (s : S2) : Option Int32 := (if (bI (g_D_isBridge a1 s)) = 0 then some (Int32.ofInt (-1)) else (if a2 = (Int32.ofInt 0) then ((f_Sea_ofBridge 0 a1 (Int32.ofInt 0) s).bind fun q1 => some q1) else (if a2 = (Int32.ofInt 1) then ((f_Sea_ofBridge 0 a1 (Int32.ofInt 1) s).bind fun q2 => some q2) else (if a2 = (Int32.ofInt 2) then ((f_Sea_ofBridge 0 a1 (Int32.ofInt 2) s).bind fun q3 => some q3) else (if a2 = (Int32.ofInt 3) then ((f_State_stands 0 a1 s).bind fun q4 => (if (bI q4) = 0 then some (Int32.ofInt 0) else some (Int32.ofInt 1))) else some (Int32.ofInt (-1)))))))
set_option maxRecDepth 20000 in
set_option maxHeartbeats 4000000 in
theorem c_D_bridge {xs : Nat → Int32} {L d : Nat} {a1 : Int32} {a2 : Int32} {s : S2} {res : Int32} {Q : S2 → Option MV → Prop} (h : f_D_bridge a1 a2 s = some res) (hQ : Q s (some (mI res))) : kcall (O3 xs L) (d + 3) k_D_bridge [mR 10 0, mI a1, mI a2] s Q := by
  refine kc_of (cd := kd_D_bridge) (mx := 3) (rt := 1) rfl rfl ?_
  intro P hP
  refine mgo_sound hP [] 260 _ _ _ _ _ ?_
  refine go_call (fun _ hw => c_D_isBridge hw) ?_
  refine go_brn (fun hc : ¬ ((bI (g_D_isBridge a1 s)) = 0) => ?_) (fun hc : (bI (g_D_isBridge a1 s)) = 0 => ?_)
  · replace h := (if_neg hc).symm.trans h
    refine go_br (fun hc : a2 = (Int32.ofInt 0) => ?_) (fun hc : ¬ (a2 = (Int32.ofInt 0)) => ?_)
    · replace h := (if_pos hc).symm.trans h
      obtain ⟨q1, hq, h⟩ := bnd h
      refine go_call (fun _ hw => c_Sea_ofBridge hq hw) ?_
      cases h
      exact hQ
    · replace h := (if_neg hc).symm.trans h
      refine go_br (fun hc : a2 = (Int32.ofInt 1) => ?_) (fun hc : ¬ (a2 = (Int32.ofInt 1)) => ?_)
      · replace h := (if_pos hc).symm.trans h
        obtain ⟨q2, hq, h⟩ := bnd h
        refine go_call (fun _ hw => c_Sea_ofBridge hq hw) ?_
        cases h
        exact hQ
      · replace h := (if_neg hc).symm.trans h
        refine go_br (fun hc : a2 = (Int32.ofInt 2) => ?_) (fun hc : ¬ (a2 = (Int32.ofInt 2)) => ?_)
        · replace h := (if_pos hc).symm.trans h
          obtain ⟨q3, hq, h⟩ := bnd h
          refine go_call (fun _ hw => c_Sea_ofBridge hq hw) ?_
          cases h
          exact hQ
        · replace h := (if_neg hc).symm.trans h
          refine go_br (fun hc : a2 = (Int32.ofInt 3) => ?_) (fun hc : ¬ (a2 = (Int32.ofInt 3)) => ?_)
          · replace h := (if_pos hc).symm.trans h
            obtain ⟨q4, hq, h⟩ := bnd h
            refine go_call (fun _ hw => c_State_stands hq hw) ?_
            refine go_br (fun hc : (bI q4) = 0 => ?_) (fun hc : ¬ ((bI q4) = 0) => ?_)
            · replace h := (if_pos hc).symm.trans h
              cases h
              exact hQ
            · replace h := (if_neg hc).symm.trans h
              cases h
              exact hQ
          · replace h := (if_neg hc).symm.trans h
            cases h
            exact hQ
  · replace h := (if_pos hc).symm.trans h
    cases h
    exact hQ
/-! D_far -/
def f_D_far (a1 : Int32) (a2 : Int32) (s : S2) : Option Int32 := (if (bI (g_D_isIsle a1 s)) = 0 then some (Int32.ofInt (-1)) else (if (bI (g_D_isIsle a2 s)) = 0 then some (Int32.ofInt (-1)) else ((f_State_apart 0 a1 a2 s).bind fun q1 => some q1)))
theorem c_D_far {xs : Nat → Int32} {L d : Nat} {a1 : Int32} {a2 : Int32} {s : S2} {res : Int32} {Q : S2 → Option MV → Prop} (h : f_D_far a1 a2 s = some res) (hQ : Q s (some (mI res))) : kcall (O3 xs L) (d + 3) k_D_far [mR 10 0, mI a1, mI a2] s Q := by
  refine kc_of (cd := kd_D_far) (mx := 3) (rt := 1) rfl rfl ?_
  intro P hP
  refine mgo_sound hP [] 260 _ _ _ _ _ ?_
  refine go_call (fun _ hw => c_D_isIsle hw) ?_
  refine go_br (fun hc : (bI (g_D_isIsle a1 s)) = 0 => ?_) (fun hc : ¬ ((bI (g_D_isIsle a1 s)) = 0) => ?_)
  · replace h := (if_pos hc).symm.trans h
    cases h
    exact hQ
  · replace h := (if_neg hc).symm.trans h
    refine go_call (fun _ hw => c_D_isIsle hw) ?_
    refine go_br (fun hc : (bI (g_D_isIsle a2 s)) = 0 => ?_) (fun hc : ¬ ((bI (g_D_isIsle a2 s)) = 0) => ?_)
    · replace h := (if_pos hc).symm.trans h
      cases h
      exact hQ
    · replace h := (if_neg hc).symm.trans h
      obtain ⟨q1, hq, h⟩ := bnd h
      refine go_call (fun _ hw => c_State_apart hq hw) ?_
      cases h
      exact hQ
/-! State_heads -/
def f_State_heads_L21 (r0 : Nat) (k4 : Int32 → Int32 → S2 → Option Int32) (x1 : Int32) (x2 : Int32) (s : S2) : Option Int32 := (k4 x1 (x2 + (Int32.ofInt 1)) s)
def b_State_heads_L4 (r0 : Nat) (k4 : Int32 → Int32 → S2 → Option Int32) (x1 : Int32) (x2 : Int32) (s : S2) : Option Int32 := (if (Int32.ofInt 6) ≤ x2 then some x1 else ((f_State_isHead r0 x2 s).bind fun q1 => (if (bI q1) = 0 then (f_State_heads_L21 r0 k4 x1 x2 s) else (f_State_heads_L21 r0 k4 (x1 + (Int32.ofInt 1)) x2 s))))
def f_State_heads_L4 (r0 : Nat) : Nat → Int32 → Int32 → S2 → Option Int32
  | 0 => fun _ _ _ => none
  | n + 1 => b_State_heads_L4 r0 (f_State_heads_L4 r0 n)
def f_State_heads (r0 : Nat) (s : S2) : Option Int32 := (f_State_heads_L4 r0 FU (Int32.ofInt 0) (Int32.ofInt 0) s)
theorem c_State_heads_L21 {xs : Nat → Int32} {L d : Nat} {r0 : Nat} {P : MK S2} {Q : S2 → Option MV → Prop} {res : Int32} {s : S2} (hP : MClosed (O3 xs L) (kcall (O3 xs L) (d + 1)) kd_State_heads 1 Q P) (hQ : Q s (some (mI res))) {k4 : Int32 → Int32 → S2 → Option Int32} (hk4 : ∀ (x1 : Int32) (x2 : Int32), k4 x1 x2 s = some res → P 4 [some (mR 20 r0), some (mI x1), some (mI x2)] [] s (0, 0)) (x1 : Int32) (x2 : Int32) (h : f_State_heads_L21 r0 k4 x1 x2 s = some res) : P 21 [some (mR 20 r0), some (mI x1), some (mI x2)] [] s (0, 0) := by
  refine mgo_from hP [4, 21] 260 ?_
  exact hk4 _ _ h
theorem cb_State_heads_L4 {xs : Nat → Int32} {L d : Nat} {r0 : Nat} {P : MK S2} {Q : S2 → Option MV → Prop} {res : Int32} {s : S2} (hP : MClosed (O3 xs L) (kcall (O3 xs L) (d + 1)) kd_State_heads 1 Q P) (hQ : Q s (some (mI res))) {k4 : Int32 → Int32 → S2 → Option Int32} (hk4 : ∀ (x1 : Int32) (x2 : Int32), k4 x1 x2 s = some res → P 4 [some (mR 20 r0), some (mI x1), some (mI x2)] [] s (0, 0)) (x1 : Int32) (x2 : Int32) (h : b_State_heads_L4 r0 k4 x1 x2 s = some res) : P 4 [some (mR 20 r0), some (mI x1), some (mI x2)] [] s (0, 0) := by
  refine mgo_from hP [4, 21] 260 ?_
  refine go_br (fun hc : (Int32.ofInt 6) ≤ x2 => ?_) (fun hc : ¬ ((Int32.ofInt 6) ≤ x2) => ?_)
  · replace h := (if_pos hc).symm.trans h
    cases h
    exact hQ
  · replace h := (if_neg hc).symm.trans h
    obtain ⟨q1, hq, h⟩ := bnd h
    refine go_call (fun _ hw => c_State_isHead hq hw) ?_
    refine go_br (fun hc : (bI q1) = 0 => ?_) (fun hc : ¬ ((bI q1) = 0) => ?_)
    · replace h := (if_pos hc).symm.trans h
      exact c_State_heads_L21 hP hQ hk4 _ _ h
    · replace h := (if_neg hc).symm.trans h
      exact c_State_heads_L21 hP hQ hk4 _ _ h
theorem c_State_heads_L4 {xs : Nat → Int32} {L d : Nat} {r0 : Nat} {P : MK S2} {Q : S2 → Option MV → Prop} {res : Int32} {s : S2} (hP : MClosed (O3 xs L) (kcall (O3 xs L) (d + 1)) kd_State_heads 1 Q P) (hQ : Q s (some (mI res))) : ∀ (fu : Nat) (x1 : Int32) (x2 : Int32), f_State_heads_L4 r0 fu x1 x2 s = some res → P 4 [some (mR 20 r0), some (mI x1), some (mI x2)] [] s (0, 0)
  | 0, _, _, h => by cases h
  | fu + 1, x1, x2, h => cb_State_heads_L4 hP hQ (c_State_heads_L4 hP hQ fu) x1 x2 h
theorem c_State_heads {xs : Nat → Int32} {L d : Nat} {r0 : Nat} {s : S2} {res : Int32} {Q : S2 → Option MV → Prop} (h : f_State_heads r0 s = some res) (hQ : Q s (some (mI res))) : kcall (O3 xs L) (d + 2) k_State_heads [mR 20 r0] s Q := by
  refine kc_of (cd := kd_State_heads) (mx := 3) (rt := 1) rfl rfl ?_
  intro P hP
  refine mgo_sound hP [4, 21] 260 _ _ _ _ _ ?_
  exact c_State_heads_L4 hP hQ FU _ _ h
/-! D_ofWater -/
def f_D_ofWater (a1 : Int32) (s : S2) : Option Int32 := (if (bI (g_D_hasSea s)) = 0 then some (Int32.ofInt 0) else ((f_Sea_ofWater 0 a1 s).bind fun q1 => some q1))
theorem c_D_ofWater {xs : Nat → Int32} {L d : Nat} {a1 : Int32} {s : S2} {res : Int32} {Q : S2 → Option MV → Prop} (h : f_D_ofWater a1 s = some res) (hQ : Q s (some (mI res))) : kcall (O3 xs L) (d + 3) k_D_ofWater [mR 10 0, mI a1] s Q := by
  refine kc_of (cd := kd_D_ofWater) (mx := 2) (rt := 1) rfl rfl ?_
  intro P hP
  refine mgo_sound hP [] 260 _ _ _ _ _ ?_
  refine go_call (fun _ hw => c_D_hasSea hw) ?_
  refine go_br (fun hc : (bI (g_D_hasSea s)) = 0 => ?_) (fun hc : ¬ ((bI (g_D_hasSea s)) = 0) => ?_)
  · replace h := (if_pos hc).symm.trans h
    cases h
    exact hQ
  · replace h := (if_neg hc).symm.trans h
    obtain ⟨q1, hq, h⟩ := bnd h
    refine go_call (fun _ hw => c_Sea_ofWater hq hw) ?_
    cases h
    exact hQ
/-! D_pull -/
def f_D_pull (a1 : Int32) (s : S2) : Option (S2 × Bool) := (if (bI (g_D_isWithin a1 (Int32.ofInt (-1)) ((s.1 10 0 14) - (Int32.ofInt 1)) s)) = 0 then some (s, false) else ((some (pkS s 10 0 15 a1)).bind fun s1 => (if (bI (g_D_isWithin a1 (Int32.ofInt 0) (Int32.ofInt 3) s1)) = 0 then ((f_Course_holdBy none s1).bind fun s2 => some (s2, true)) else ((ix 4 a1).bind fun j2 => ((f_Course_holdBy (some j2) s1).bind fun s3 => some (s3, true))))))
theorem c_D_pull {xs : Nat → Int32} {L d : Nat} {a1 : Int32} {s : S2} {res : S2 × Bool} {Q : S2 → Option MV → Prop} (h : f_D_pull a1 s = some res) (hQ : Q res.1 (some (mI (bI res.2)))) : kcall (O3 xs L) (d + 3) k_D_pull [mR 10 0, mI a1] s Q := by
  refine kc_of (cd := kd_D_pull) (mx := 2) (rt := 2) rfl rfl ?_
  intro P hP
  refine mgo_sound hP [] 260 _ _ _ _ _ ?_
  refine go_call (fun _ hw => c_D_isWithin hw) ?_
  refine go_brn (fun hc : ¬ (bI (g_D_isWithin a1 (Int32.ofInt (-1)) ((s.1 10 0 14) - (Int32.ofInt 1)) s) = 0) => ?_) (fun hc : bI (g_D_isWithin a1 (Int32.ofInt (-1)) ((s.1 10 0 14) - (Int32.ofInt 1)) s) = 0 => ?_)
  · replace h := (if_neg hc).symm.trans h
    replace h := bnds h
    refine go_call (fun _ hw => c_D_isWithin hw) ?_
    refine go_br (fun hc => ?_) (fun hc => ?_)
    · replace h := (if_pos hc).symm.trans h
      obtain ⟨s2, hq, h⟩ := bnd h
      refine go_call (fun _ hw => c_Course_holdBy0 hq hw) ?_
      cases h
      exact ⟨Or.inr rfl, hQ⟩
    · replace h := (if_neg hc).symm.trans h
      obtain ⟨j2, hj, h⟩ := bnd h
      refine go_ix j2 (ix_lt hj) (ix_eq hj) ?_
      obtain ⟨s2, hq, h⟩ := bnd h
      refine go_call (fun _ hw => c_Course_holdBy1 hq hw) ?_
      cases h
      exact ⟨Or.inr rfl, hQ⟩
  · replace h := (if_pos hc).symm.trans h
    cases h
    exact ⟨Or.inl rfl, hQ⟩
/-! D_turn -/
def f_D_turn (a1 : Int32) (s : S2) : Option (S2 × Bool) := (if (bI (g_D_isTie a1 s)) = 0 then some (s, false) else ((f_State_turnKind 0 a1 s).bind fun q1 => some (q1, true)))
theorem c_D_turn {xs : Nat → Int32} {L d : Nat} {a1 : Int32} {s : S2} {res : S2 × Bool} {Q : S2 → Option MV → Prop} (h : f_D_turn a1 s = some res) (hQ : Q res.1 (some (mI (bI res.2)))) : kcall (O3 xs L) (d + 3) k_D_turn [mR 10 0, mI a1] s Q := by
  refine kc_of (cd := kd_D_turn) (mx := 2) (rt := 2) rfl rfl ?_
  intro P hP
  refine mgo_sound hP [] 260 _ _ _ _ _ ?_
  refine go_call (fun _ hw => c_D_isTie hw) ?_
  refine go_brn (fun hc : ¬ ((bI (g_D_isTie a1 s)) = 0) => ?_) (fun hc : (bI (g_D_isTie a1 s)) = 0 => ?_)
  · replace h := (if_neg hc).symm.trans h
    obtain ⟨q1, hq, h⟩ := bnd h
    refine go_call (fun _ hw => c_State_turnKind hq hw) ?_
    cases h
    exact ⟨Or.inr rfl, hQ⟩
  · replace h := (if_pos hc).symm.trans h
    cases h
    exact ⟨Or.inl rfl, hQ⟩
/-! D_price -/
def f_D_price (a1 : Int32) (a2 : Int32) (s : S2) : Option (S2 × Bool) := (if (bI (g_D_isIsle a1 s)) = 0 then some (s, false) else (if (bI (g_D_isWithin a2 (Int32.ofInt 0) (Int32.ofInt 99) s)) = 0 then some (s, false) else ((f_State_priceOf 0 a1 s).bind fun q1 => (if q1 = a2 then some (s, false) else ((f_State_tellPrice 0 a1 a2 s).bind fun q2 => some (q2, true))))))
set_option maxRecDepth 20000 in
set_option maxHeartbeats 4000000 in
theorem c_D_price {xs : Nat → Int32} {L d : Nat} {a1 : Int32} {a2 : Int32} {s : S2} {res : S2 × Bool} {Q : S2 → Option MV → Prop} (h : f_D_price a1 a2 s = some res) (hQ : Q res.1 (some (mI (bI res.2)))) : kcall (O3 xs L) (d + 3) k_D_price [mR 10 0, mI a1, mI a2] s Q := by
  refine kc_of (cd := kd_D_price) (mx := 3) (rt := 2) rfl rfl ?_
  intro P hP
  refine mgo_sound hP [] 260 _ _ _ _ _ ?_
  refine go_call (fun _ hw => c_D_isIsle hw) ?_
  refine go_br (fun hc : (bI (g_D_isIsle a1 s)) = 0 => ?_) (fun hc : ¬ ((bI (g_D_isIsle a1 s)) = 0) => ?_)
  · replace h := (if_pos hc).symm.trans h
    cases h
    exact ⟨Or.inl rfl, hQ⟩
  · replace h := (if_neg hc).symm.trans h
    refine go_call (fun _ hw => c_D_isWithin hw) ?_
    refine go_br (fun hc : (bI (g_D_isWithin a2 (Int32.ofInt 0) (Int32.ofInt 99) s)) = 0 => ?_) (fun hc : ¬ ((bI (g_D_isWithin a2 (Int32.ofInt 0) (Int32.ofInt 99) s)) = 0) => ?_)
    · replace h := (if_pos hc).symm.trans h
      cases h
      exact ⟨Or.inl rfl, hQ⟩
    · replace h := (if_neg hc).symm.trans h
      obtain ⟨q1, hq, h⟩ := bnd h
      refine go_call (fun _ hw => c_State_priceOf hq hw) ?_
      refine go_brn (fun hc : ¬ (q1 = a2) => ?_) (fun hc : q1 = a2 => ?_)
      · replace h := (if_neg hc).symm.trans h
        obtain ⟨q2, hq, h⟩ := bnd h
        refine go_call (fun _ hw => c_State_tellPrice hq hw) ?_
        cases h
        exact ⟨Or.inr rfl, hQ⟩
      · replace h := (if_pos hc).symm.trans h
        cases h
        exact ⟨Or.inl rfl, hQ⟩
/-! D_chance -/
def f_D_chance (a1 : Int32) (a2 : Int32) (s : S2) : Option (S2 × Bool) := (if (bI (g_D_isWithin a2 (Int32.ofInt 0) (Int32.ofInt 99) s)) = 0 then some (s, false) else ((f_Weather_tell a1 a2 s).bind fun q1 => (if (bI q1.2) = 0 then some (q1.1, false) else some (q1.1, true))))
theorem c_D_chance {xs : Nat → Int32} {L d : Nat} {a1 : Int32} {a2 : Int32} {s : S2} {res : S2 × Bool} {Q : S2 → Option MV → Prop} (h : f_D_chance a1 a2 s = some res) (hQ : Q res.1 (some (mI (bI res.2)))) : kcall (O3 xs L) (d + 2) k_D_chance [mR 10 0, mI a1, mI a2] s Q := by
  refine kc_of (cd := kd_D_chance) (mx := 3) (rt := 2) rfl rfl ?_
  intro P hP
  refine mgo_sound hP [] 260 _ _ _ _ _ ?_
  refine go_call (fun _ hw => c_D_isWithin hw) ?_
  refine go_br (fun hc : (bI (g_D_isWithin a2 (Int32.ofInt 0) (Int32.ofInt 99) s)) = 0 => ?_) (fun hc : ¬ ((bI (g_D_isWithin a2 (Int32.ofInt 0) (Int32.ofInt 99) s)) = 0) => ?_)
  · replace h := (if_pos hc).symm.trans h
    cases h
    exact ⟨Or.inl rfl, hQ⟩
  · replace h := (if_neg hc).symm.trans h
    obtain ⟨q1, hq, h⟩ := bnd h
    refine go_call (fun _ hw => c_Weather_tell hq hw) ?_
    refine go_br (fun hc : (bI q1.2) = 0 => ?_) (fun hc : ¬ ((bI q1.2) = 0) => ?_)
    · replace h := (if_pos hc).symm.trans h
      cases h
      exact ⟨Or.inl rfl, hQ⟩
    · replace h := (if_neg hc).symm.trans h
      cases h
      exact ⟨Or.inr rfl, hQ⟩
/-! D_image -/
def f_D_image (s : S2) : Option (S2 × Int32) := (if (bI (g_D_hasSea s)) = 0 then some (s, (Int32.ofInt (-1))) else ((f_State_copy 1 0 s).bind fun q1 => ((some (pkS q1 10 0 16 (Int32.ofInt 1))).bind fun s2 => some (s2, (g_State_season 0 s2)))))
theorem c_D_image {xs : Nat → Int32} {L d : Nat} {s : S2} {res : S2 × Int32} {Q : S2 → Option MV → Prop} (h : f_D_image s = some res) (hQ : Q res.1 (some (mI res.2))) : kcall (O3 xs L) (d + 3) k_D_image [mR 10 0] s Q := by
  refine kc_of (cd := kd_D_image) (mx := 1) (rt := 1) rfl rfl ?_
  intro P hP
  refine mgo_sound hP [] 260 _ _ _ _ _ ?_
  refine go_call (fun _ hw => c_D_hasSea hw) ?_
  refine go_brn (fun hc : ¬ ((bI (g_D_hasSea s)) = 0) => ?_) (fun hc : (bI (g_D_hasSea s)) = 0 => ?_)
  · replace h := (if_neg hc).symm.trans h
    obtain ⟨q1, hq, h⟩ := bnd h
    refine go_call (fun _ hw => c_State_copy hq hw) ?_
    replace h := bnds h
    refine go_call (fun _ hw => c_State_season hw) ?_
    cases h
    exact hQ
  · replace h := (if_pos hc).symm.trans h
    cases h
    exact hQ
/-! Course_drawTwo -/
def f_Course_drawTwo_L15 (r1 : Nat) (x2 : Int32) (x3 : Int32) (x4 : Int32) (y0 : Int32) (s : S2) : Option S2 := (if y0 = 0 then some s else ((f_State_xOf r1 x3 s).bind fun q1 => ((f_State_xOf r1 x2 s).bind fun q2 => (if y0 = 0 then none else ((f_State_yOf r1 x3 s).bind fun q3 => ((f_State_yOf r1 x2 s).bind fun q4 => (if y0 = 0 then none else ((f_State_headOf r1 x2 s).bind fun q5 => ((f_State_headOf r1 x3 s).bind fun q6 => ((ix 6 q5).bind fun j7 => ((ix 6 q5).bind fun j9 => (some (pkS s 33 0 j9 ((s.1 33 0 j7) + ((x4 * (q1 - q2)) / y0)))).bind fun s8 => ((ix 6 q5).bind fun j10 => ((ix 6 q5).bind fun j12 => (some (pkS s8 34 0 j12 ((s8.1 34 0 j10) + ((x4 * (q3 - q4)) / y0)))).bind fun s11 => ((ix 6 q6).bind fun j13 => ((ix 6 q6).bind fun j15 => (some (pkS s11 33 0 j15 ((s11.1 33 0 j13) - ((x4 * (q1 - q2)) / y0)))).bind fun s14 => ((ix 6 q6).bind fun j16 => ((ix 6 q6).bind fun j18 => (some (pkS s14 34 0 j18 ((s14.1 34 0 j16) - ((x4 * (q3 - q4)) / y0)))).bind fun s17 => some s17)))))))))))))))))
def f_Course_drawTwo (r1 : Nat) (a2 : Int32) (a3 : Int32) (a4 : Int32) (s : S2) : Option S2 := (if a4 = 0 then (f_Course_drawTwo_L15 r1 a2 a3 a4 (Int32.ofInt 0) s) else ((f_State_apart r1 a2 a3 s).bind fun q1 => (f_Course_drawTwo_L15 r1 a2 a3 a4 q1 s)))
set_option maxRecDepth 20000 in
set_option maxHeartbeats 4000000 in
theorem c_Course_drawTwo_L15 {xs : Nat → Int32} {L d : Nat} {r1 : Nat} {P : MK S2} {Q : S2 → Option MV → Prop} {res : S2} (hP : MClosed (O3 xs L) (kcall (O3 xs L) (d + 1)) kd_Course_drawTwo 0 Q P) (hQ : Q res none) (x2 : Int32) (x3 : Int32) (x4 : Int32) (y0 : Int32) (s : S2) (h : f_Course_drawTwo_L15 r1 x2 x3 x4 y0 s = some res) : P 15 [some (mR 31 0), some (mR 20 r1), some (mI x2), some (mI x3), some (mI x4), none, none, none, none, none] [mI y0] s (0, 0) := by
  refine mgo_from hP [15] 260 ?_
  refine go_brn (fun hc : ¬ (y0 = 0) => ?_) (fun hc : y0 = 0 => ?_)
  · replace h := (if_neg hc).symm.trans h
    obtain ⟨q1, hq, h⟩ := bnd h
    refine go_call (fun _ hw => c_State_xOf hq hw) ?_
    obtain ⟨q2, hq, h⟩ := bnd h
    refine go_call (fun _ hw => c_State_xOf hq hw) ?_
    obtain ⟨hz, h⟩ := nif h
    refine go_and hz ?_
    obtain ⟨q3, hq, h⟩ := bnd h
    refine go_call (fun _ hw => c_State_yOf hq hw) ?_
    obtain ⟨q4, hq, h⟩ := bnd h
    refine go_call (fun _ hw => c_State_yOf hq hw) ?_
    obtain ⟨hz, h⟩ := nif h
    refine go_and hz ?_
    obtain ⟨q5, hq, h⟩ := bnd h
    refine go_call (fun _ hw => c_State_headOf hq hw) ?_
    obtain ⟨q6, hq, h⟩ := bnd h
    refine go_call (fun _ hw => c_State_headOf hq hw) ?_
    obtain ⟨j7, hj, h⟩ := bnd h
    refine go_ix j7 (ix_lt hj) (ix_eq hj) ?_
    obtain ⟨j9, hj, h⟩ := bnd h
    replace h := bnds h
    refine go_ix j9 (ix_lt hj) (ix_eq hj) ?_
    obtain ⟨j10, hj, h⟩ := bnd h
    refine go_ix j10 (ix_lt hj) (ix_eq hj) ?_
    obtain ⟨j12, hj, h⟩ := bnd h
    replace h := bnds h
    refine go_ix j12 (ix_lt hj) (ix_eq hj) ?_
    obtain ⟨j13, hj, h⟩ := bnd h
    refine go_ix j13 (ix_lt hj) (ix_eq hj) ?_
    obtain ⟨j15, hj, h⟩ := bnd h
    replace h := bnds h
    refine go_ix j15 (ix_lt hj) (ix_eq hj) ?_
    obtain ⟨j16, hj, h⟩ := bnd h
    refine go_ix j16 (ix_lt hj) (ix_eq hj) ?_
    obtain ⟨j18, hj, h⟩ := bnd h
    replace h := bnds h
    refine go_ix j18 (ix_lt hj) (ix_eq hj) ?_
    cases h
    exact hQ
  · replace h := (if_pos hc).symm.trans h
    cases h
    exact hQ
theorem c_Course_drawTwo {xs : Nat → Int32} {L d : Nat} {r1 : Nat} {a2 : Int32} {a3 : Int32} {a4 : Int32} {s : S2} {res : S2} {Q : S2 → Option MV → Prop} (h : f_Course_drawTwo r1 a2 a3 a4 s = some res) (hQ : Q res none) : kcall (O3 xs L) (d + 2) k_Course_drawTwo [mR 31 0, mR 20 r1, mI a2, mI a3, mI a4] s Q := by
  refine kc_of (cd := kd_Course_drawTwo) (mx := 10) (rt := 0) rfl rfl ?_
  intro P hP
  refine mgo_sound hP [15] 260 _ _ _ _ _ ?_
  refine go_brn (fun hc : ¬ (a4 = 0) => ?_) (fun hc : a4 = 0 => ?_)
  · replace h := (if_neg hc).symm.trans h
    obtain ⟨q1, hq, h⟩ := bnd h
    refine go_call (fun _ hw => c_State_apart hq hw) ?_
    exact c_Course_drawTwo_L15 hP hQ _ _ _ _ _ h
  · replace h := (if_pos hc).symm.trans h
    exact c_Course_drawTwo_L15 hP hQ _ _ _ _ _ h
/-! Trade_buyAll -/
def b_Trade_buyAll_L3 (r0 : Nat) (r1 : Nat) (r2 : Nat) (k3 : Int32 → Int32 → S2 → Option S2) (x3 : Int32) (x4 : Int32) (s : S2) : Option S2 := (if (Int32.ofInt 6) ≤ x4 then some s else ((ix 6 x3).bind fun j1 => (if (s.1 29 r0 j1) ≤ 0 then some s else ((f_Trade_cheapest r0 r1 r2 x3 s).bind fun q2 => (if q2.2 = (Int32.ofInt (-1)) then some q2.1 else ((ix 6 x3).bind fun j3 => ((ix 6 q2.2).bind fun j4 => ((ix 36 ((x3 * (Int32.ofInt 6)) + q2.2)).bind fun j5 => ((ix 36 ((x3 * (Int32.ofInt 6)) + q2.2)).bind fun j7 => (some (pkS q2.1 27 r0 j7 ((q2.1.1 27 r0 j5) + (jmin (q2.1.1 29 r0 j3) (q2.1.1 30 r0 j4))))).bind fun s6 => ((ix 6 x3).bind fun j8 => ((ix 6 x3).bind fun j10 => (some (pkS s6 28 r0 j10 ((s6.1 28 r0 j8) + ((jmin (q2.1.1 29 r0 j3) (q2.1.1 30 r0 j4)) * (s6.1 26 r0 4))))).bind fun s9 => ((ix 6 x3).bind fun j11 => ((ix 6 x3).bind fun j13 => (some (pkS s9 29 r0 j13 ((s9.1 29 r0 j11) - (jmin (q2.1.1 29 r0 j3) (q2.1.1 30 r0 j4))))).bind fun s12 => ((ix 6 q2.2).bind fun j14 => ((ix 6 q2.2).bind fun j16 => (some (pkS s12 30 r0 j16 ((s12.1 30 r0 j14) - (jmin (q2.1.1 29 r0 j3) (q2.1.1 30 r0 j4))))).bind fun s15 => (k3 x3 (x4 + (Int32.ofInt 1)) s15))))))))))))))))
def f_Trade_buyAll_L3 (r0 : Nat) (r1 : Nat) (r2 : Nat) : Nat → Int32 → Int32 → S2 → Option S2
  | 0 => fun _ _ _ => none
  | n + 1 => b_Trade_buyAll_L3 r0 r1 r2 (f_Trade_buyAll_L3 r0 r1 r2 n)
def f_Trade_buyAll (r0 : Nat) (r1 : Nat) (r2 : Nat) (a3 : Int32) (s : S2) : Option S2 := (f_Trade_buyAll_L3 r0 r1 r2 FU a3 (Int32.ofInt 0) s)
set_option maxRecDepth 20000 in
set_option maxHeartbeats 4000000 in
theorem cb_Trade_buyAll_L3 {xs : Nat → Int32} {L d : Nat} {r0 r1 r2 : Nat} {P : MK S2} {Q : S2 → Option MV → Prop} {res : S2} (hP : MClosed (O3 xs L) (kcall (O3 xs L) (d + 2)) kd_Trade_buyAll 0 Q P) (hQ : Q res none) {k3 : Int32 → Int32 → S2 → Option S2} (hk3 : ∀ (x3 : Int32) (x4 : Int32) (x5 : Option Int32) (x6 : Option Int32) (s : S2), k3 x3 x4 s = some res → P 3 [some (mR 26 r0), some (mR 13 r1), some (mR 20 r2), some (mI x3), some (mI x4), oI x5, oI x6] [] s (0, 0)) (x3 : Int32) (x4 : Int32) (x5 : Option Int32) (x6 : Option Int32) (s : S2) (h : b_Trade_buyAll_L3 r0 r1 r2 k3 x3 x4 s = some res) : P 3 [some (mR 26 r0), some (mR 13 r1), some (mR 20 r2), some (mI x3), some (mI x4), oI x5, oI x6] [] s (0, 0) := by
  refine mgo_from hP [3] 260 ?_
  refine go_br (fun hc : (Int32.ofInt 6) ≤ x4 => ?_) (fun hc : ¬ ((Int32.ofInt 6) ≤ x4) => ?_)
  · replace h := (if_pos hc).symm.trans h
    cases h
    exact hQ
  · replace h := (if_neg hc).symm.trans h
    obtain ⟨j1, hj, h⟩ := bnd h
    refine go_ix j1 (ix_lt hj) (ix_eq hj) ?_
    refine go_br (fun hc : (s.1 29 r0 j1) ≤ 0 => ?_) (fun hc : ¬ ((s.1 29 r0 j1) ≤ 0) => ?_)
    · replace h := (if_pos hc).symm.trans h
      cases h
      exact hQ
    · replace h := (if_neg hc).symm.trans h
      obtain ⟨q2, hq, h⟩ := bnd h
      refine go_call (fun _ hw => c_Trade_cheapest hq hw) ?_
      refine go_brn (fun hc : ¬ (q2.2 = (Int32.ofInt (-1))) => ?_) (fun hc : q2.2 = (Int32.ofInt (-1)) => ?_)
      · replace h := (if_neg hc).symm.trans h
        obtain ⟨j3, hj, h⟩ := bnd h
        refine go_ix j3 (ix_lt hj) (ix_eq hj) ?_
        obtain ⟨j4, hj, h⟩ := bnd h
        refine go_ix j4 (ix_lt hj) (ix_eq hj) ?_
        obtain ⟨j5, hj, h⟩ := bnd h
        refine go_ix j5 (ix_lt hj) (ix_eq hj) ?_
        obtain ⟨j7, hj, h⟩ := bnd h
        replace h := bnds h
        refine go_ix j7 (ix_lt hj) (ix_eq hj) ?_
        obtain ⟨j8, hj, h⟩ := bnd h
        refine go_ix j8 (ix_lt hj) (ix_eq hj) ?_
        obtain ⟨j10, hj, h⟩ := bnd h
        replace h := bnds h
        refine go_ix j10 (ix_lt hj) (ix_eq hj) ?_
        obtain ⟨j11, hj, h⟩ := bnd h
        refine go_ix j11 (ix_lt hj) (ix_eq hj) ?_
        obtain ⟨j13, hj, h⟩ := bnd h
        replace h := bnds h
        refine go_ix j13 (ix_lt hj) (ix_eq hj) ?_
        obtain ⟨j14, hj, h⟩ := bnd h
        refine go_ix j14 (ix_lt hj) (ix_eq hj) ?_
        obtain ⟨j16, hj, h⟩ := bnd h
        replace h := bnds h
        refine go_ix j16 (ix_lt hj) (ix_eq hj) ?_
        exact hk3 _ _ (some q2.2) (some (jmin (q2.1.1 29 r0 j3) (q2.1.1 30 r0 j4))) _ h
      · replace h := (if_pos hc).symm.trans h
        cases h
        exact hQ
theorem c_Trade_buyAll_L3 {xs : Nat → Int32} {L d : Nat} {r0 r1 r2 : Nat} {P : MK S2} {Q : S2 → Option MV → Prop} {res : S2} (hP : MClosed (O3 xs L) (kcall (O3 xs L) (d + 2)) kd_Trade_buyAll 0 Q P) (hQ : Q res none) : ∀ (fu : Nat) (x3 : Int32) (x4 : Int32) (x5 : Option Int32) (x6 : Option Int32) (s : S2), f_Trade_buyAll_L3 r0 r1 r2 fu x3 x4 s = some res → P 3 [some (mR 26 r0), some (mR 13 r1), some (mR 20 r2), some (mI x3), some (mI x4), oI x5, oI x6] [] s (0, 0)
  | 0, _, _, _, _, _, h => by cases h
  | fu + 1, x3, x4, x5, x6, s, h => cb_Trade_buyAll_L3 hP hQ (c_Trade_buyAll_L3 hP hQ fu) x3 x4 x5 x6 s h
theorem c_Trade_buyAll {xs : Nat → Int32} {L d : Nat} {r0 : Nat} {r1 : Nat} {r2 : Nat} {a3 : Int32} {s : S2} {res : S2} {Q : S2 → Option MV → Prop} (h : f_Trade_buyAll r0 r1 r2 a3 s = some res) (hQ : Q res none) : kcall (O3 xs L) (d + 3) k_Trade_buyAll [mR 26 r0, mR 13 r1, mR 20 r2, mI a3] s Q := by
  refine kc_of (cd := kd_Trade_buyAll) (mx := 7) (rt := 0) rfl rfl ?_
  intro P hP
  refine mgo_sound hP [3] 260 _ _ _ _ _ ?_
  exact c_Trade_buyAll_L3 hP hQ FU _ _ none none _ h
/-! Course_drawByTrade -/
def f_Course_drawByTrade_L54 (r1 : Nat) (k2 : Int32 → S2 → Option S2) (k15 : Int32 → Int32 → S2 → Option S2) (x2 : Int32) (x3 : Int32) (s : S2) : Option S2 := (k15 x2 (x3 + (Int32.ofInt 1)) s)
def b_Course_drawByTrade_L15 (r1 : Nat) (k2 : Int32 → S2 → Option S2) (k15 : Int32 → Int32 → S2 → Option S2) (x2 : Int32) (x3 : Int32) (s : S2) : Option S2 := (if (g_Sea_isles 0 s) ≤ x3 then (k2 (x2 + (Int32.ofInt 1)) s) else ((f_Trade_bought 1 x2 x3 s).bind fun q1 => (if q1 ≤ 0 then (f_Course_drawByTrade_L54 r1 k2 k15 x2 x3 s) else ((f_Trade_bought 1 x2 x3 s).bind fun q2 => ((f_Course_drawTwo r1 x2 x3 q2 s).bind fun q3 => (f_Course_drawByTrade_L54 r1 k2 k15 x2 x3 q3))))))
def f_Course_drawByTrade_L15 (r1 : Nat) (k2 : Int32 → S2 → Option S2) : Nat → Int32 → Int32 → S2 → Option S2
  | 0 => fun _ _ _ => none
  | n + 1 => b_Course_drawByTrade_L15 r1 k2 (f_Course_drawByTrade_L15 r1 k2 n)
def b_Course_drawByTrade_L2 (r1 : Nat) (k2 : Int32 → S2 → Option S2) (x2 : Int32) (s : S2) : Option S2 := (if (g_Sea_isles 0 s) ≤ x2 then some s else (f_Course_drawByTrade_L15 r1 k2 FU x2 (Int32.ofInt 0) s))
def f_Course_drawByTrade_L2 (r1 : Nat) : Nat → Int32 → S2 → Option S2
  | 0 => fun _ _ => none
  | n + 1 => b_Course_drawByTrade_L2 r1 (f_Course_drawByTrade_L2 r1 n)
def f_Course_drawByTrade (r1 : Nat) (s : S2) : Option S2 := (f_Course_drawByTrade_L2 r1 FU (Int32.ofInt 0) s)
theorem c_Course_drawByTrade_L54 {xs : Nat → Int32} {L d : Nat} {r1 : Nat} {P : MK S2} {Q : S2 → Option MV → Prop} {res : S2} (hP : MClosed (O3 xs L) (kcall (O3 xs L) (d + 2)) kd_Course_drawByTrade 0 Q P) (hQ : Q res none) {k2 : Int32 → S2 → Option S2} {k15 : Int32 → Int32 → S2 → Option S2} (hk2 : ∀ (x2 : Int32) (x3 : Option Int32) (s : S2), k2 x2 s = some res → P 2 [some (mR 31 0), some (mR 20 r1), some (mI x2), oI x3] [] s (0, 0)) (hk15 : ∀ (x2 : Int32) (x3 : Int32) (s : S2), k15 x2 x3 s = some res → P 15 [some (mR 31 0), some (mR 20 r1), some (mI x2), some (mI x3)] [] s (0, 0)) (x2 : Int32) (x3 : Int32) (s : S2) (h : f_Course_drawByTrade_L54 r1 k2 k15 x2 x3 s = some res) : P 54 [some (mR 31 0), some (mR 20 r1), some (mI x2), some (mI x3)] [] s (0, 0) := by
  refine mgo_from hP [2, 15, 54] 260 ?_
  exact hk15 _ _ _ h
theorem cb_Course_drawByTrade_L15 {xs : Nat → Int32} {L d : Nat} {r1 : Nat} {P : MK S2} {Q : S2 → Option MV → Prop} {res : S2} (hP : MClosed (O3 xs L) (kcall (O3 xs L) (d + 2)) kd_Course_drawByTrade 0 Q P) (hQ : Q res none) {k2 : Int32 → S2 → Option S2} (hk2 : ∀ (x2 : Int32) (x3 : Option Int32) (s : S2), k2 x2 s = some res → P 2 [some (mR 31 0), some (mR 20 r1), some (mI x2), oI x3] [] s (0, 0)) {k15 : Int32 → Int32 → S2 → Option S2} (hk15 : ∀ (x2 : Int32) (x3 : Int32) (s : S2), k15 x2 x3 s = some res → P 15 [some (mR 31 0), some (mR 20 r1), some (mI x2), some (mI x3)] [] s (0, 0)) (x2 : Int32) (x3 : Int32) (s : S2) (h : b_Course_drawByTrade_L15 r1 k2 k15 x2 x3 s = some res) : P 15 [some (mR 31 0), some (mR 20 r1), some (mI x2), some (mI x3)] [] s (0, 0) := by
  refine mgo_from hP [2, 15, 54] 260 ?_
  refine go_call (fun _ hw => c_Sea_isles hw) ?_
  refine go_br (fun hc : (g_Sea_isles 0 s) ≤ x3 => ?_) (fun hc : ¬ ((g_Sea_isles 0 s) ≤ x3) => ?_)
  · replace h := (if_pos hc).symm.trans h
    exact hk2 _ (some x3) _ h
  · replace h := (if_neg hc).symm.trans h
    obtain ⟨q1, hq, h⟩ := bnd h
    refine go_call (fun _ hw => c_Trade_bought hq hw) ?_
    refine go_br (fun hc : q1 ≤ 0 => ?_) (fun hc : ¬ (q1 ≤ 0) => ?_)
    · replace h := (if_pos hc).symm.trans h
      exact c_Course_drawByTrade_L54 hP hQ hk2 hk15 _ _ _ h
    · replace h := (if_neg hc).symm.trans h
      obtain ⟨q2, hq, h⟩ := bnd h
      refine go_call (fun _ hw => c_Trade_bought hq hw) ?_
      obtain ⟨q3, hq, h⟩ := bnd h
      refine go_call (fun _ hw => c_Course_drawTwo hq hw) ?_
      exact c_Course_drawByTrade_L54 hP hQ hk2 hk15 _ _ _ h
theorem c_Course_drawByTrade_L15 {xs : Nat → Int32} {L d : Nat} {r1 : Nat} {P : MK S2} {Q : S2 → Option MV → Prop} {res : S2} (hP : MClosed (O3 xs L) (kcall (O3 xs L) (d + 2)) kd_Course_drawByTrade 0 Q P) (hQ : Q res none) {k2 : Int32 → S2 → Option S2} (hk2 : ∀ (x2 : Int32) (x3 : Option Int32) (s : S2), k2 x2 s = some res → P 2 [some (mR 31 0), some (mR 20 r1), some (mI x2), oI x3] [] s (0, 0)) : ∀ (fu : Nat) (x2 : Int32) (x3 : Int32) (s : S2), f_Course_drawByTrade_L15 r1 k2 fu x2 x3 s = some res → P 15 [some (mR 31 0), some (mR 20 r1), some (mI x2), some (mI x3)] [] s (0, 0)
  | 0, _, _, _, h => by cases h
  | fu + 1, x2, x3, s, h => cb_Course_drawByTrade_L15 hP hQ hk2 (c_Course_drawByTrade_L15 hP hQ hk2 fu) x2 x3 s h
theorem cb_Course_drawByTrade_L2 {xs : Nat → Int32} {L d : Nat} {r1 : Nat} {P : MK S2} {Q : S2 → Option MV → Prop} {res : S2} (hP : MClosed (O3 xs L) (kcall (O3 xs L) (d + 2)) kd_Course_drawByTrade 0 Q P) (hQ : Q res none) {k2 : Int32 → S2 → Option S2} (hk2 : ∀ (x2 : Int32) (x3 : Option Int32) (s : S2), k2 x2 s = some res → P 2 [some (mR 31 0), some (mR 20 r1), some (mI x2), oI x3] [] s (0, 0)) (x2 : Int32) (x3 : Option Int32) (s : S2) (h : b_Course_drawByTrade_L2 r1 k2 x2 s = some res) : P 2 [some (mR 31 0), some (mR 20 r1), some (mI x2), oI x3] [] s (0, 0) := by
  refine mgo_from hP [2, 15, 54] 260 ?_
  refine go_call (fun _ hw => c_Sea_isles hw) ?_
  refine go_br (fun hc : (g_Sea_isles 0 s) ≤ x2 => ?_) (fun hc : ¬ ((g_Sea_isles 0 s) ≤ x2) => ?_)
  · replace h := (if_pos hc).symm.trans h
    cases h
    exact hQ
  · replace h := (if_neg hc).symm.trans h
    exact c_Course_drawByTrade_L15 hP hQ hk2 FU _ _ _ h
theorem c_Course_drawByTrade_L2 {xs : Nat → Int32} {L d : Nat} {r1 : Nat} {P : MK S2} {Q : S2 → Option MV → Prop} {res : S2} (hP : MClosed (O3 xs L) (kcall (O3 xs L) (d + 2)) kd_Course_drawByTrade 0 Q P) (hQ : Q res none) : ∀ (fu : Nat) (x2 : Int32) (x3 : Option Int32) (s : S2), f_Course_drawByTrade_L2 r1 fu x2 s = some res → P 2 [some (mR 31 0), some (mR 20 r1), some (mI x2), oI x3] [] s (0, 0)
  | 0, _, _, _, h => by cases h
  | fu + 1, x2, x3, s, h => cb_Course_drawByTrade_L2 hP hQ (c_Course_drawByTrade_L2 hP hQ fu) x2 x3 s h
theorem c_Course_drawByTrade {xs : Nat → Int32} {L d : Nat} {r1 : Nat} {s : S2} {res : S2} {Q : S2 → Option MV → Prop} (h : f_Course_drawByTrade r1 s = some res) (hQ : Q res none) : kcall (O3 xs L) (d + 3) k_Course_drawByTrade [mR 31 0, mR 20 r1] s Q := by
  refine kc_of (cd := kd_Course_drawByTrade) (mx := 4) (rt := 0) rfl rfl ?_
  intro P hP
  refine mgo_sound hP [2, 15, 54] 260 _ _ _ _ _ ?_
  exact c_Course_drawByTrade_L2 hP hQ FU _ none _ h
/-! Course_moveAll -/
def f_Course_moveAll_L128 (r1 : Nat) (k7 : Int32 → S2 → Option S2) (x2 : Int32) (s : S2) : Option S2 := (k7 (x2 + (Int32.ofInt 1)) s)
def b_Course_moveAll_L7 (r1 : Nat) (k7 : Int32 → S2 → Option S2) (x2 : Int32) (s : S2) : Option S2 := (if (Int32.ofInt 6) ≤ x2 then some s else ((f_State_isHead r1 x2 s).bind fun q1 => (if (bI q1) = 0 then (f_Course_moveAll_L128 r1 k7 x2 s) else ((f_State_massOf r1 x2 s).bind fun q2 => ((f_State_xOf r1 x2 s).bind fun q3 => ((ix 6 x2).bind fun j5 => (some (pkS s 35 0 j5 q3)).bind fun s4 => ((f_State_yOf r1 x2 s4).bind fun q6 => ((ix 6 x2).bind fun j8 => (some (pkS s4 36 0 j8 q6)).bind fun s7 => ((ix 6 x2).bind fun j9 => ((ix 6 x2).bind fun j10 => (if (jmax (Int32.ofInt 1) q2) = 0 then none else ((ix 6 x2).bind fun j11 => ((ix 6 x2).bind fun j12 => (if (jmax (Int32.ofInt 1) q2) = 0 then none else ((f_State_putAt r1 x2 ((s7.1 35 0 j9) + ((s7.1 33 0 j10) / (jmax (Int32.ofInt 1) q2))) ((s7.1 36 0 j11) + ((s7.1 34 0 j12) / (jmax (Int32.ofInt 1) q2))) s7).bind fun q13 => ((f_State_xOf r1 x2 q13).bind fun q14 => ((ix 6 x2).bind fun j15 => ((f_State_yOf r1 x2 q13).bind fun q16 => ((ix 6 x2).bind fun j17 => ((some (pkS q13 31 0 16 ((q13.1 31 0 16) + ((jabs (q14 - (q13.1 35 0 j15))) + (jabs (q16 - (q13.1 36 0 j17))))))).bind fun s18 => (f_Course_moveAll_L128 r1 k7 x2 s18)))))))))))))))))))))
def f_Course_moveAll_L7 (r1 : Nat) : Nat → Int32 → S2 → Option S2
  | 0 => fun _ _ => none
  | n + 1 => b_Course_moveAll_L7 r1 (f_Course_moveAll_L7 r1 n)
def f_Course_moveAll (r1 : Nat) (s : S2) : Option S2 := ((some (pkS s 31 0 16 (Int32.ofInt 0))).bind fun s1 => (f_Course_moveAll_L7 r1 FU (Int32.ofInt 0) s1))
theorem c_Course_moveAll_L128 {xs : Nat → Int32} {L d : Nat} {r1 : Nat} {P : MK S2} {Q : S2 → Option MV → Prop} {res : S2} (hP : MClosed (O3 xs L) (kcall (O3 xs L) (d + 2)) kd_Course_moveAll 0 Q P) (hQ : Q res none) {k7 : Int32 → S2 → Option S2} (hk7 : ∀ (x2 : Int32) (x3 : Option Int32) (s : S2), k7 x2 s = some res → P 7 [some (mR 31 0), some (mR 20 r1), some (mI x2), oI x3] [] s (0, 0)) (x2 : Int32) (x3 : Option Int32) (s : S2) (h : f_Course_moveAll_L128 r1 k7 x2 s = some res) : P 128 [some (mR 31 0), some (mR 20 r1), some (mI x2), oI x3] [] s (0, 0) := by
  refine mgo_from hP [7, 128] 260 ?_
  exact hk7 _ x3 _ h
set_option maxRecDepth 20000 in
set_option maxHeartbeats 4000000 in
theorem cb_Course_moveAll_L7 {xs : Nat → Int32} {L d : Nat} {r1 : Nat} {P : MK S2} {Q : S2 → Option MV → Prop} {res : S2} (hP : MClosed (O3 xs L) (kcall (O3 xs L) (d + 2)) kd_Course_moveAll 0 Q P) (hQ : Q res none) {k7 : Int32 → S2 → Option S2} (hk7 : ∀ (x2 : Int32) (x3 : Option Int32) (s : S2), k7 x2 s = some res → P 7 [some (mR 31 0), some (mR 20 r1), some (mI x2), oI x3] [] s (0, 0)) (x2 : Int32) (x3 : Option Int32) (s : S2) (h : b_Course_moveAll_L7 r1 k7 x2 s = some res) : P 7 [some (mR 31 0), some (mR 20 r1), some (mI x2), oI x3] [] s (0, 0) := by
  refine mgo_from hP [7, 128] 260 ?_
  refine go_br (fun hc : (Int32.ofInt 6) ≤ x2 => ?_) (fun hc : ¬ ((Int32.ofInt 6) ≤ x2) => ?_)
  · replace h := (if_pos hc).symm.trans h
    cases h
    exact hQ
  · replace h := (if_neg hc).symm.trans h
    obtain ⟨q1, hq, h⟩ := bnd h
    refine go_call (fun _ hw => c_State_isHead hq hw) ?_
    refine go_br (fun hc : (bI q1) = 0 => ?_) (fun hc : ¬ ((bI q1) = 0) => ?_)
    · replace h := (if_pos hc).symm.trans h
      exact c_Course_moveAll_L128 hP hQ hk7 _ x3 _ h
    · replace h := (if_neg hc).symm.trans h
      obtain ⟨q2, hq, h⟩ := bnd h
      refine go_call (fun _ hw => c_State_massOf hq hw) ?_
      obtain ⟨q3, hq, h⟩ := bnd h
      refine go_call (fun _ hw => c_State_xOf hq hw) ?_
      obtain ⟨j5, hj, h⟩ := bnd h
      replace h := bnds h
      refine go_ix j5 (ix_lt hj) (ix_eq hj) ?_
      obtain ⟨q6, hq, h⟩ := bnd h
      refine go_call (fun _ hw => c_State_yOf hq hw) ?_
      obtain ⟨j8, hj, h⟩ := bnd h
      replace h := bnds h
      refine go_ix j8 (ix_lt hj) (ix_eq hj) ?_
      obtain ⟨j9, hj, h⟩ := bnd h
      refine go_ix j9 (ix_lt hj) (ix_eq hj) ?_
      obtain ⟨j10, hj, h⟩ := bnd h
      refine go_ix j10 (ix_lt hj) (ix_eq hj) ?_
      obtain ⟨hz, h⟩ := nif h
      refine go_and hz ?_
      obtain ⟨j11, hj, h⟩ := bnd h
      refine go_ix j11 (ix_lt hj) (ix_eq hj) ?_
      obtain ⟨j12, hj, h⟩ := bnd h
      refine go_ix j12 (ix_lt hj) (ix_eq hj) ?_
      obtain ⟨hz, h⟩ := nif h
      refine go_and hz ?_
      obtain ⟨q13, hq, h⟩ := bnd h
      refine go_call (fun _ hw => c_State_putAt hq hw) ?_
      obtain ⟨q14, hq, h⟩ := bnd h
      refine go_call (fun _ hw => c_State_xOf hq hw) ?_
      obtain ⟨j15, hj, h⟩ := bnd h
      refine go_ix j15 (ix_lt hj) (ix_eq hj) ?_
      obtain ⟨q16, hq, h⟩ := bnd h
      refine go_call (fun _ hw => c_State_yOf hq hw) ?_
      obtain ⟨j17, hj, h⟩ := bnd h
      refine go_ix j17 (ix_lt hj) (ix_eq hj) ?_
      replace h := bnds h
      exact c_Course_moveAll_L128 hP hQ hk7 _ (some (jmax (Int32.ofInt 1) q2)) _ h
theorem c_Course_moveAll_L7 {xs : Nat → Int32} {L d : Nat} {r1 : Nat} {P : MK S2} {Q : S2 → Option MV → Prop} {res : S2} (hP : MClosed (O3 xs L) (kcall (O3 xs L) (d + 2)) kd_Course_moveAll 0 Q P) (hQ : Q res none) : ∀ (fu : Nat) (x2 : Int32) (x3 : Option Int32) (s : S2), f_Course_moveAll_L7 r1 fu x2 s = some res → P 7 [some (mR 31 0), some (mR 20 r1), some (mI x2), oI x3] [] s (0, 0)
  | 0, _, _, _, h => by cases h
  | fu + 1, x2, x3, s, h => cb_Course_moveAll_L7 hP hQ (c_Course_moveAll_L7 hP hQ fu) x2 x3 s h
theorem c_Course_moveAll {xs : Nat → Int32} {L d : Nat} {r1 : Nat} {s : S2} {res : S2} {Q : S2 → Option MV → Prop} (h : f_Course_moveAll r1 s = some res) (hQ : Q res none) : kcall (O3 xs L) (d + 3) k_Course_moveAll [mR 31 0, mR 20 r1] s Q := by
  refine kc_of (cd := kd_Course_moveAll) (mx := 4) (rt := 0) rfl rfl ?_
  intro P hP
  refine mgo_sound hP [7, 128] 260 _ _ _ _ _ ?_
  replace h := bnds h
  exact c_Course_moveAll_L7 hP hQ FU _ none _ h
/-! Course_joinTwo -/
def f_Course_joinTwo_L75 (r1 : Nat) (y1 : Int32) (y2 : Int32) (y3 : Int32) (s : S2) : Option S2 := ((f_State_becomeOne r1 y1 y2 y3 s).bind fun q1 => some q1)
def f_Course_joinTwo_L60 (r1 : Nat) (x2 : Int32) (x3 : Int32) (y0 : Int32) (s : S2) : Option S2 := (if y0 = 0 then (f_Course_joinTwo_L75 r1 x2 x3 (Int32.ofInt 0) s) else (f_Course_joinTwo_L75 r1 x2 x3 (Int32.ofInt 1) s))
def f_Course_joinTwo (r1 : Nat) (a2 : Int32) (a3 : Int32) (s : S2) : Option S2 := ((ix 6 a2).bind fun j1 => ((ix 6 a3).bind fun j2 => ((ix 6 a2).bind fun j3 => ((ix 6 a3).bind fun j4 => ((f_State_apart r1 a2 a3 s).bind fun q5 => ((f_Sea_ofWater 0 (Int32.ofInt 3) s).bind fun q6 => (if (((jabs ((s.1 35 0 j1) - (s.1 35 0 j2))) + (jabs ((s.1 36 0 j3) - (s.1 36 0 j4)))) - q5) ≤ q6 then (f_Course_joinTwo_L60 r1 a2 a3 (Int32.ofInt 0) s) else (f_Course_joinTwo_L60 r1 a2 a3 (Int32.ofInt 1) s))))))))
theorem c_Course_joinTwo_L75 {xs : Nat → Int32} {L d : Nat} {r1 : Nat} {P : MK S2} {Q : S2 → Option MV → Prop} {res : S2} (hP : MClosed (O3 xs L) (kcall (O3 xs L) (d + 1)) kd_Course_joinTwo 0 Q P) (hQ : Q res none) (y1 : Int32) (y2 : Int32) (y3 : Int32) (x2 : Int32) (x3 : Int32) (x4 : Int32) (x5 : Int32) (s : S2) (h : f_Course_joinTwo_L75 r1 y1 y2 y3 s = some res) : P 75 [some (mR 31 0), some (mR 20 r1), some (mI x2), some (mI x3), some (mI x4), some (mI x5)] [mI y3, mI y2, mI y1, mR 20 r1] s (0, 0) := by
  refine mgo_from hP [60, 75] 260 ?_
  obtain ⟨q1, hq, h⟩ := bnd h
  refine go_call (fun _ hw => c_State_becomeOne hq hw) ?_
  cases h
  exact hQ
theorem c_Course_joinTwo_L60 {xs : Nat → Int32} {L d : Nat} {r1 : Nat} {P : MK S2} {Q : S2 → Option MV → Prop} {res : S2} (hP : MClosed (O3 xs L) (kcall (O3 xs L) (d + 1)) kd_Course_joinTwo 0 Q P) (hQ : Q res none) (x2 : Int32) (x3 : Int32) (y0 : Int32) (x4 : Int32) (s : S2) (h : f_Course_joinTwo_L60 r1 x2 x3 y0 s = some res) : P 60 [some (mR 31 0), some (mR 20 r1), some (mI x2), some (mI x3), some (mI x4), none] [mI y0] s (0, 0) := by
  refine mgo_from hP [60, 75] 260 ?_
  refine go_br (fun hc : y0 = 0 => ?_) (fun hc : ¬ (y0 = 0) => ?_)
  · replace h := (if_pos hc).symm.trans h
    exact c_Course_joinTwo_L75 hP hQ _ _ _ _ _ _ _ _ h
  · replace h := (if_neg hc).symm.trans h
    exact c_Course_joinTwo_L75 hP hQ _ _ _ _ _ _ _ _ h
theorem c_Course_joinTwo {xs : Nat → Int32} {L d : Nat} {r1 : Nat} {a2 : Int32} {a3 : Int32} {s : S2} {res : S2} {Q : S2 → Option MV → Prop} (h : f_Course_joinTwo r1 a2 a3 s = some res) (hQ : Q res none) : kcall (O3 xs L) (d + 2) k_Course_joinTwo [mR 31 0, mR 20 r1, mI a2, mI a3] s Q := by
  refine kc_of (cd := kd_Course_joinTwo) (mx := 6) (rt := 0) rfl rfl ?_
  intro P hP
  refine mgo_sound hP [60, 75] 260 _ _ _ _ _ ?_
  obtain ⟨j1, hj, h⟩ := bnd h
  refine go_ix j1 (ix_lt hj) (ix_eq hj) ?_
  obtain ⟨j2, hj, h⟩ := bnd h
  refine go_ix j2 (ix_lt hj) (ix_eq hj) ?_
  obtain ⟨j3, hj, h⟩ := bnd h
  refine go_ix j3 (ix_lt hj) (ix_eq hj) ?_
  obtain ⟨j4, hj, h⟩ := bnd h
  refine go_ix j4 (ix_lt hj) (ix_eq hj) ?_
  obtain ⟨q5, hq, h⟩ := bnd h
  refine go_call (fun _ hw => c_State_apart hq hw) ?_
  obtain ⟨q6, hq, h⟩ := bnd h
  refine go_call (fun _ hw => c_Sea_ofWater hq hw) ?_
  refine go_br (fun hc : (((jabs ((s.1 35 0 j1) - (s.1 35 0 j2))) + (jabs ((s.1 36 0 j3) - (s.1 36 0 j4)))) - q5) ≤ q6 => ?_) (fun hc : ¬ ((((jabs ((s.1 35 0 j1) - (s.1 35 0 j2))) + (jabs ((s.1 36 0 j3) - (s.1 36 0 j4)))) - q5) ≤ q6) => ?_)
  · replace h := (if_pos hc).symm.trans h
    exact c_Course_joinTwo_L60 hP hQ _ _ _ _ _ h
  · replace h := (if_neg hc).symm.trans h
    exact c_Course_joinTwo_L60 hP hQ _ _ _ _ _ h
/-! Course_snapBridges -/
def f_Course_snapBridges_L77 (r1 : Nat) (k7 : Int32 → S2 → Option S2) (x2 : Int32) (s : S2) : Option S2 := (k7 (x2 + (Int32.ofInt 1)) s)
def b_Course_snapBridges_L7 (r1 : Nat) (k7 : Int32 → S2 → Option S2) (x2 : Int32) (s : S2) : Option S2 := (if (g_Sea_bridges 0 s) ≤ x2 then some s else ((f_Sea_ofBridge 0 x2 (Int32.ofInt 0) s).bind fun q1 => ((f_Sea_ofBridge 0 x2 (Int32.ofInt 1) s).bind fun q2 => ((f_State_apart r1 q1 q2 s).bind fun q3 => ((f_State_stands r1 x2 s).bind fun q4 => (if (bI q4) = 0 then (f_Course_snapBridges_L77 r1 k7 x2 s) else ((f_Sea_ofBridge 0 x2 (Int32.ofInt 2) s).bind fun q5 => (if q3 ≤ q5 then (f_Course_snapBridges_L77 r1 k7 x2 s) else ((f_State_breakBridge r1 x2 s).bind fun q6 => ((some (pkS q6 31 0 15 ((q6.1 31 0 15) + (Int32.ofInt 1)))).bind fun s7 => (f_Course_snapBridges_L77 r1 k7 x2 s7)))))))))))
def f_Course_snapBridges_L7 (r1 : Nat) : Nat → Int32 → S2 → Option S2
  | 0 => fun _ _ => none
  | n + 1 => b_Course_snapBridges_L7 r1 (f_Course_snapBridges_L7 r1 n)
def f_Course_snapBridges (r1 : Nat) (s : S2) : Option S2 := ((some (pkS s 31 0 15 (Int32.ofInt 0))).bind fun s1 => (f_Course_snapBridges_L7 r1 FU (Int32.ofInt 0) s1))
theorem c_Course_snapBridges_L77 {xs : Nat → Int32} {L d : Nat} {r1 : Nat} {P : MK S2} {Q : S2 → Option MV → Prop} {res : S2} (hP : MClosed (O3 xs L) (kcall (O3 xs L) (d + 1)) kd_Course_snapBridges 0 Q P) (hQ : Q res none) {k7 : Int32 → S2 → Option S2} (hk7 : ∀ (x2 : Int32) (x3 : Option Int32) (s : S2), k7 x2 s = some res → P 7 [some (mR 31 0), some (mR 20 r1), some (mI x2), oI x3] [] s (0, 0)) (x2 : Int32) (x3 : Int32) (s : S2) (h : f_Course_snapBridges_L77 r1 k7 x2 s = some res) : P 77 [some (mR 31 0), some (mR 20 r1), some (mI x2), some (mI x3)] [] s (0, 0) := by
  refine mgo_from hP [7, 77] 260 ?_
  exact hk7 _ (some x3) _ h
set_option maxRecDepth 20000 in
set_option maxHeartbeats 4000000 in
theorem cb_Course_snapBridges_L7 {xs : Nat → Int32} {L d : Nat} {r1 : Nat} {P : MK S2} {Q : S2 → Option MV → Prop} {res : S2} (hP : MClosed (O3 xs L) (kcall (O3 xs L) (d + 1)) kd_Course_snapBridges 0 Q P) (hQ : Q res none) {k7 : Int32 → S2 → Option S2} (hk7 : ∀ (x2 : Int32) (x3 : Option Int32) (s : S2), k7 x2 s = some res → P 7 [some (mR 31 0), some (mR 20 r1), some (mI x2), oI x3] [] s (0, 0)) (x2 : Int32) (x3 : Option Int32) (s : S2) (h : b_Course_snapBridges_L7 r1 k7 x2 s = some res) : P 7 [some (mR 31 0), some (mR 20 r1), some (mI x2), oI x3] [] s (0, 0) := by
  refine mgo_from hP [7, 77] 260 ?_
  refine go_call (fun _ hw => c_Sea_bridges hw) ?_
  refine go_br (fun hc : (g_Sea_bridges 0 s) ≤ x2 => ?_) (fun hc : ¬ ((g_Sea_bridges 0 s) ≤ x2) => ?_)
  · replace h := (if_pos hc).symm.trans h
    cases h
    exact hQ
  · replace h := (if_neg hc).symm.trans h
    obtain ⟨q1, hq, h⟩ := bnd h
    refine go_call (fun _ hw => c_Sea_ofBridge hq hw) ?_
    obtain ⟨q2, hq, h⟩ := bnd h
    refine go_call (fun _ hw => c_Sea_ofBridge hq hw) ?_
    obtain ⟨q3, hq, h⟩ := bnd h
    refine go_call (fun _ hw => c_State_apart hq hw) ?_
    obtain ⟨q4, hq, h⟩ := bnd h
    refine go_call (fun _ hw => c_State_stands hq hw) ?_
    refine go_br (fun hc : (bI q4) = 0 => ?_) (fun hc : ¬ ((bI q4) = 0) => ?_)
    · replace h := (if_pos hc).symm.trans h
      exact c_Course_snapBridges_L77 hP hQ hk7 _ _ _ h
    · replace h := (if_neg hc).symm.trans h
      obtain ⟨q5, hq, h⟩ := bnd h
      refine go_call (fun _ hw => c_Sea_ofBridge hq hw) ?_
      refine go_br (fun hc : q3 ≤ q5 => ?_) (fun hc : ¬ (q3 ≤ q5) => ?_)
      · replace h := (if_pos hc).symm.trans h
        exact c_Course_snapBridges_L77 hP hQ hk7 _ _ _ h
      · replace h := (if_neg hc).symm.trans h
        obtain ⟨q6, hq, h⟩ := bnd h
        refine go_call (fun _ hw => c_State_breakBridge hq hw) ?_
        replace h := bnds h
        exact c_Course_snapBridges_L77 hP hQ hk7 _ _ _ h
theorem c_Course_snapBridges_L7 {xs : Nat → Int32} {L d : Nat} {r1 : Nat} {P : MK S2} {Q : S2 → Option MV → Prop} {res : S2} (hP : MClosed (O3 xs L) (kcall (O3 xs L) (d + 1)) kd_Course_snapBridges 0 Q P) (hQ : Q res none) : ∀ (fu : Nat) (x2 : Int32) (x3 : Option Int32) (s : S2), f_Course_snapBridges_L7 r1 fu x2 s = some res → P 7 [some (mR 31 0), some (mR 20 r1), some (mI x2), oI x3] [] s (0, 0)
  | 0, _, _, _, h => by cases h
  | fu + 1, x2, x3, s, h => cb_Course_snapBridges_L7 hP hQ (c_Course_snapBridges_L7 hP hQ fu) x2 x3 s h
theorem c_Course_snapBridges {xs : Nat → Int32} {L d : Nat} {r1 : Nat} {s : S2} {res : S2} {Q : S2 → Option MV → Prop} (h : f_Course_snapBridges r1 s = some res) (hQ : Q res none) : kcall (O3 xs L) (d + 2) k_Course_snapBridges [mR 31 0, mR 20 r1] s Q := by
  refine kc_of (cd := kd_Course_snapBridges) (mx := 4) (rt := 0) rfl rfl ?_
  intro P hP
  refine mgo_sound hP [7, 77] 260 _ _ _ _ _ ?_
  replace h := bnds h
  exact c_Course_snapBridges_L7 hP hQ FU _ none _ h
/-! Weather_toss -/
def f_Weather_toss (r1 : Nat) (s : S2) : Option S2 := ((f_State_heads r1 s).bind fun q1 => ((f_Weather_draw q1 s).bind fun q2 => ((f_State_headByNumber r1 q2.2 q2.1).bind fun q3 => ((f_Weather_draw (Int32.ofInt 19) q2.1).bind fun q4 => ((f_Weather_draw (Int32.ofInt 19) q4.1).bind fun q5 => (if q3 = (Int32.ofInt (-1)) then some q5.1 else ((f_State_xOf r1 q3 q5.1).bind fun q6 => ((f_State_yOf r1 q3 q5.1).bind fun q7 => ((f_State_putAt r1 q3 (q6 + (q4.2 - (Int32.ofInt 9))) (q7 + (q5.2 - (Int32.ofInt 9))) q5.1).bind fun q8 => some q8)))))))))
set_option maxRecDepth 20000 in
set_option maxHeartbeats 4000000 in
theorem c_Weather_toss {xs : Nat → Int32} {L d : Nat} {r1 : Nat} {s : S2} {res : S2} {Q : S2 → Option MV → Prop} (h : f_Weather_toss r1 s = some res) (hQ : Q res none) : kcall (O3 xs L) (d + 3) k_Weather_toss [mR 25 0, mR 20 r1] s Q := by
  refine kc_of (cd := kd_Weather_toss) (mx := 5) (rt := 0) rfl rfl ?_
  intro P hP
  refine mgo_sound hP [] 260 _ _ _ _ _ ?_
  obtain ⟨q1, hq, h⟩ := bnd h
  refine go_call (fun _ hw => c_State_heads hq hw) ?_
  obtain ⟨q2, hq, h⟩ := bnd h
  refine go_call (fun _ hw => c_Weather_draw hq hw) ?_
  obtain ⟨q3, hq, h⟩ := bnd h
  refine go_call (fun _ hw => c_State_headByNumber hq hw) ?_
  obtain ⟨q4, hq, h⟩ := bnd h
  refine go_call (fun _ hw => c_Weather_draw hq hw) ?_
  obtain ⟨q5, hq, h⟩ := bnd h
  refine go_call (fun _ hw => c_Weather_draw hq hw) ?_
  refine go_br (fun hc : q3 = (Int32.ofInt (-1)) => ?_) (fun hc : ¬ (q3 = (Int32.ofInt (-1))) => ?_)
  · replace h := (if_pos hc).symm.trans h
    cases h
    exact hQ
  · replace h := (if_neg hc).symm.trans h
    obtain ⟨q6, hq, h⟩ := bnd h
    refine go_call (fun _ hw => c_State_xOf hq hw) ?_
    obtain ⟨q7, hq, h⟩ := bnd h
    refine go_call (fun _ hw => c_State_yOf hq hw) ?_
    obtain ⟨q8, hq, h⟩ := bnd h
    refine go_call (fun _ hw => c_State_putAt hq hw) ?_
    cases h
    exact hQ
/-! Past_takeBack -/
def f_Past_takeBack (r1 : Nat) (s : S2) : Option (S2 × Bool) := (if (s.1 22 0 2) = 0 then some (s, false) else ((some (pkS s 22 0 3 (jrem (((s.1 22 0 3) + (Int32.ofInt 30)) - (Int32.ofInt 1)) (Int32.ofInt 30)))).bind fun s1 => ((some (pkS s1 22 0 2 ((s1.1 22 0 2) - (Int32.ofInt 1)))).bind fun s2 => ((ix 30 (s2.1 22 0 3)).bind fun j3 => ((f_State_copyButPrices r1 (5 + j3) s2).bind fun q4 => (if (q4.1 22 0 4) ≤ 0 then some (q4, true) else ((some (pkS q4 22 0 5 (jrem (((q4.1 22 0 5) + (Int32.ofInt 60)) - (Int32.ofInt 1)) (Int32.ofInt 60)))).bind fun s5 => ((some (pkS s5 22 0 4 ((s5.1 22 0 4) - (Int32.ofInt 1)))).bind fun s6 => some (s6, true)))))))))
theorem c_Past_takeBack {xs : Nat → Int32} {L d : Nat} {r1 : Nat} {s : S2} {res : S2 × Bool} {Q : S2 → Option MV → Prop} (h : f_Past_takeBack r1 s = some res) (hQ : Q res.1 (some (mI (bI res.2)))) : kcall (O3 xs L) (d + 2) k_Past_takeBack [mR 22 0, mR 20 r1] s Q := by
  refine kc_of (cd := kd_Past_takeBack) (mx := 2) (rt := 2) rfl rfl ?_
  intro P hP
  refine mgo_sound hP [] 260 _ _ _ _ _ ?_
  refine go_brn (fun hc : ¬ ((s.1 22 0 2) = 0) => ?_) (fun hc : (s.1 22 0 2) = 0 => ?_)
  · replace h := (if_neg hc).symm.trans h
    refine go_and (by decide) ?_
    replace h := bnds h
    replace h := bnds h
    obtain ⟨j3, hj, h⟩ := bnd h
    refine go_ix j3 (ix_lt hj) (ix_eq hj) ?_
    obtain ⟨q4, hq, h⟩ := bnd h
    refine go_call (fun _ hw => c_State_copyButPrices hq hw) ?_
    refine go_br (fun hc : (q4.1 22 0 4) ≤ 0 => ?_) (fun hc : ¬ ((q4.1 22 0 4) ≤ 0) => ?_)
    · replace h := (if_pos hc).symm.trans h
      cases h
      exact ⟨Or.inr rfl, hQ⟩
    · replace h := (if_neg hc).symm.trans h
      refine go_and (by decide) ?_
      replace h := bnds h
      replace h := bnds h
      cases h
      exact ⟨Or.inr rfl, hQ⟩
  · replace h := (if_pos hc).symm.trans h
    cases h
    exact ⟨Or.inl rfl, hQ⟩
/-! D_log -/
def f_D_log (a1 : Int32) (a2 : Int32) (s : S2) : Option Int32 := ((f_Past_read a1 a2 s).bind fun q1 => some q1)
theorem c_D_log {xs : Nat → Int32} {L d : Nat} {a1 : Int32} {a2 : Int32} {s : S2} {res : Int32} {Q : S2 → Option MV → Prop} (h : f_D_log a1 a2 s = some res) (hQ : Q s (some (mI res))) : kcall (O3 xs L) (d + 3) k_D_log [mR 10 0, mI a1, mI a2] s Q := by
  refine kc_of (cd := kd_D_log) (mx := 3) (rt := 1) rfl rfl ?_
  intro P hP
  refine mgo_sound hP [] 260 _ _ _ _ _ ?_
  obtain ⟨q1, hq, h⟩ := bnd h
  refine go_call (fun _ hw => c_Past_read hq hw) ?_
  cases h
  exact hQ
/-! Trade_mostSelling -/
def f_Trade_mostSelling_L50 (r0 : Nat) (r1 : Nat) (k8 : Int32 → Int32 → Int32 → Int32 → S2 → Option Int32) (x2 : Int32) (x3 : Int32) (x4 : Int32) (x5 : Int32) (s : S2) : Option Int32 := (k8 x2 x3 x4 (x5 + (Int32.ofInt 1)) s)
def b_Trade_mostSelling_L8 (r0 : Nat) (r1 : Nat) (k8 : Int32 → Int32 → Int32 → Int32 → S2 → Option Int32) (x2 : Int32) (x3 : Int32) (x4 : Int32) (x5 : Int32) (s : S2) : Option Int32 := (if (g_Sea_isles r1 s) ≤ x5 then some x3 else ((f_Sea_ofIsle r1 x5 (Int32.ofInt 3) s).bind fun q1 => (if q1 = x2 then ((f_Trade_soldBy r0 x5 s).bind fun q2 => (if q2 ≤ x4 then (f_Trade_mostSelling_L50 r0 r1 k8 x2 x3 x4 x5 s) else ((f_Trade_soldBy r0 x5 s).bind fun q3 => (f_Trade_mostSelling_L50 r0 r1 k8 x2 x5 q3 x5 s)))) else (f_Trade_mostSelling_L50 r0 r1 k8 x2 x3 x4 x5 s))))
def f_Trade_mostSelling_L8 (r0 : Nat) (r1 : Nat) : Nat → Int32 → Int32 → Int32 → Int32 → S2 → Option Int32
  | 0 => fun _ _ _ _ _ => none
  | n + 1 => b_Trade_mostSelling_L8 r0 r1 (f_Trade_mostSelling_L8 r0 r1 n)
def f_Trade_mostSelling (r0 : Nat) (r1 : Nat) (a2 : Int32) (s : S2) : Option Int32 := (f_Trade_mostSelling_L8 r0 r1 FU a2 (Int32.ofInt (-1)) (Int32.ofInt 0) (Int32.ofInt 0) s)
theorem c_Trade_mostSelling_L50 {xs : Nat → Int32} {L d : Nat} {r0 r1 : Nat} {P : MK S2} {Q : S2 → Option MV → Prop} {res : Int32} {s : S2} (hP : MClosed (O3 xs L) (kcall (O3 xs L) (d + 2)) kd_Trade_mostSelling 1 Q P) (hQ : Q s (some (mI res))) {k8 : Int32 → Int32 → Int32 → Int32 → S2 → Option Int32} (hk8 : ∀ (x2 : Int32) (x3 : Int32) (x4 : Int32) (x5 : Int32), k8 x2 x3 x4 x5 s = some res → P 8 [some (mR 26 r0), some (mR 13 r1), some (mI x2), some (mI x3), some (mI x4), some (mI x5)] [] s (0, 0)) (x2 : Int32) (x3 : Int32) (x4 : Int32) (x5 : Int32) (h : f_Trade_mostSelling_L50 r0 r1 k8 x2 x3 x4 x5 s = some res) : P 50 [some (mR 26 r0), some (mR 13 r1), some (mI x2), some (mI x3), some (mI x4), some (mI x5)] [] s (0, 0) := by
  refine mgo_from hP [8, 50] 260 ?_
  exact hk8 _ _ _ _ h
theorem cb_Trade_mostSelling_L8 {xs : Nat → Int32} {L d : Nat} {r0 r1 : Nat} {P : MK S2} {Q : S2 → Option MV → Prop} {res : Int32} {s : S2} (hP : MClosed (O3 xs L) (kcall (O3 xs L) (d + 2)) kd_Trade_mostSelling 1 Q P) (hQ : Q s (some (mI res))) {k8 : Int32 → Int32 → Int32 → Int32 → S2 → Option Int32} (hk8 : ∀ (x2 : Int32) (x3 : Int32) (x4 : Int32) (x5 : Int32), k8 x2 x3 x4 x5 s = some res → P 8 [some (mR 26 r0), some (mR 13 r1), some (mI x2), some (mI x3), some (mI x4), some (mI x5)] [] s (0, 0)) (x2 : Int32) (x3 : Int32) (x4 : Int32) (x5 : Int32) (h : b_Trade_mostSelling_L8 r0 r1 k8 x2 x3 x4 x5 s = some res) : P 8 [some (mR 26 r0), some (mR 13 r1), some (mI x2), some (mI x3), some (mI x4), some (mI x5)] [] s (0, 0) := by
  refine mgo_from hP [8, 50] 260 ?_
  refine go_call (fun _ hw => c_Sea_isles hw) ?_
  refine go_br (fun hc : (g_Sea_isles r1 s) ≤ x5 => ?_) (fun hc : ¬ ((g_Sea_isles r1 s) ≤ x5) => ?_)
  · replace h := (if_pos hc).symm.trans h
    cases h
    exact hQ
  · replace h := (if_neg hc).symm.trans h
    obtain ⟨q1, hq, h⟩ := bnd h
    refine go_call (fun _ hw => c_Sea_ofIsle hq hw) ?_
    refine go_brn (fun hc : ¬ (q1 = x2) => ?_) (fun hc : q1 = x2 => ?_)
    · replace h := (if_neg hc).symm.trans h
      exact c_Trade_mostSelling_L50 hP hQ hk8 _ _ _ _ h
    · replace h := (if_pos hc).symm.trans h
      obtain ⟨q2, hq, h⟩ := bnd h
      refine go_call (fun _ hw => c_Trade_soldBy hq hw) ?_
      refine go_br (fun hc : q2 ≤ x4 => ?_) (fun hc : ¬ (q2 ≤ x4) => ?_)
      · replace h := (if_pos hc).symm.trans h
        exact c_Trade_mostSelling_L50 hP hQ hk8 _ _ _ _ h
      · replace h := (if_neg hc).symm.trans h
        obtain ⟨q3, hq, h⟩ := bnd h
        refine go_call (fun _ hw => c_Trade_soldBy hq hw) ?_
        exact c_Trade_mostSelling_L50 hP hQ hk8 _ _ _ _ h
theorem c_Trade_mostSelling_L8 {xs : Nat → Int32} {L d : Nat} {r0 r1 : Nat} {P : MK S2} {Q : S2 → Option MV → Prop} {res : Int32} {s : S2} (hP : MClosed (O3 xs L) (kcall (O3 xs L) (d + 2)) kd_Trade_mostSelling 1 Q P) (hQ : Q s (some (mI res))) : ∀ (fu : Nat) (x2 : Int32) (x3 : Int32) (x4 : Int32) (x5 : Int32), f_Trade_mostSelling_L8 r0 r1 fu x2 x3 x4 x5 s = some res → P 8 [some (mR 26 r0), some (mR 13 r1), some (mI x2), some (mI x3), some (mI x4), some (mI x5)] [] s (0, 0)
  | 0, _, _, _, _, h => by cases h
  | fu + 1, x2, x3, x4, x5, h => cb_Trade_mostSelling_L8 hP hQ (c_Trade_mostSelling_L8 hP hQ fu) x2 x3 x4 x5 h
theorem c_Trade_mostSelling {xs : Nat → Int32} {L d : Nat} {r0 : Nat} {r1 : Nat} {a2 : Int32} {s : S2} {res : Int32} {Q : S2 → Option MV → Prop} (h : f_Trade_mostSelling r0 r1 a2 s = some res) (hQ : Q s (some (mI res))) : kcall (O3 xs L) (d + 3) k_Trade_mostSelling [mR 26 r0, mR 13 r1, mI a2] s Q := by
  refine kc_of (cd := kd_Trade_mostSelling) (mx := 6) (rt := 1) rfl rfl ?_
  intro P hP
  refine mgo_sound hP [8, 50] 260 _ _ _ _ _ ?_
  exact c_Trade_mostSelling_L8 hP hQ FU _ _ _ _ h
/-! Deals_aim -/
def f_Deals_aim (a1 : Int32) (a2 : Int32) (a3 : Int32) (a4 : Int32) (a5 : Int32) (a6 : Int32) (s : S2) : Option S2 := ((some (pkS s 45 0 9 a1)).bind fun s1 => ((some (pkS s1 45 0 10 a2)).bind fun s2 => ((some (pkS s2 45 0 11 a3)).bind fun s3 => ((some (pkS s3 45 0 12 a4)).bind fun s4 => ((some (pkS s4 45 0 13 a5)).bind fun s5 => ((some (pkS s5 45 0 14 a6)).bind fun s6 => ((some (pkS s6 45 0 8 (Int32.ofInt 0))).bind fun s7 => ((f_Deals_tellPairs s7).bind fun q8 => some q8))))))))
set_option maxRecDepth 20000 in
set_option maxHeartbeats 4000000 in
theorem c_Deals_aim {xs : Nat → Int32} {L d : Nat} {a1 : Int32} {a2 : Int32} {a3 : Int32} {a4 : Int32} {a5 : Int32} {a6 : Int32} {s : S2} {res : S2} {Q : S2 → Option MV → Prop} (h : f_Deals_aim a1 a2 a3 a4 a5 a6 s = some res) (hQ : Q res none) : kcall (O3 xs L) (d + 3) k_Deals_aim [mR 45 0, mI a1, mI a2, mI a3, mI a4, mI a5, mI a6] s Q := by
  refine kc_of (cd := kd_Deals_aim) (mx := 7) (rt := 0) rfl rfl ?_
  intro P hP
  refine mgo_sound hP [] 260 _ _ _ _ _ ?_
  replace h := bnds h
  replace h := bnds h
  replace h := bnds h
  replace h := bnds h
  replace h := bnds h
  replace h := bnds h
  replace h := bnds h
  obtain ⟨q8, hq, h⟩ := bnd h
  refine go_call (fun _ hw => c_Deals_tellPairs hq hw) ?_
  cases h
  exact hQ
/-! Deals_pickNext -/
def b_Deals_pickNext_L45 (k45 : Int32 → S2 → Option (S2 × Bool)) (x2 : Int32) (s : S2) : Option (S2 × Bool) := (if (s.1 45 0 8) ≤ x2 then some (s, true) else ((ix 3 (x2 - (Int32.ofInt 1))).bind fun j1 => ((ix 3 x2).bind fun j3 => (some (pkS s 48 0 j3 ((s.1 48 0 j1) + (Int32.ofInt 1)))).bind fun s2 => (k45 (x2 + (Int32.ofInt 1)) s2))))
def f_Deals_pickNext_L45 : Nat → Int32 → S2 → Option (S2 × Bool)
  | 0 => fun _ _ => none
  | n + 1 => b_Deals_pickNext_L45 (f_Deals_pickNext_L45 n)
def b_Deals_pickNext_L7 (k7 : Int32 → S2 → Option (S2 × Bool)) (x1 : Int32) (s : S2) : Option (S2 × Bool) := (if x1 < 0 then ((f_Deals_pickFirst ((s.1 45 0 8) + (Int32.ofInt 1)) s).bind fun q1 => some (q1.1, q1.2)) else ((ix 3 x1).bind fun j2 => (if (((s.1 45 0 7) - (s.1 45 0 8)) + x1) ≤ (s.1 48 0 j2) then (k7 (x1 + (Int32.ofInt (-1))) s) else ((ix 3 x1).bind fun j3 => ((ix 3 x1).bind fun j5 => (some (pkS s 48 0 j5 ((s.1 48 0 j3) + (Int32.ofInt 1)))).bind fun s4 => (f_Deals_pickNext_L45 FU (x1 + (Int32.ofInt 1)) s4))))))
def f_Deals_pickNext_L7 : Nat → Int32 → S2 → Option (S2 × Bool)
  | 0 => fun _ _ => none
  | n + 1 => b_Deals_pickNext_L7 (f_Deals_pickNext_L7 n)
def f_Deals_pickNext (s : S2) : Option (S2 × Bool) := (f_Deals_pickNext_L7 FU ((s.1 45 0 8) - (Int32.ofInt 1)) s)
theorem cb_Deals_pickNext_L45 {xs : Nat → Int32} {L d : Nat} {P : MK S2} {Q : S2 → Option MV → Prop} {res : S2 × Bool} (hP : MClosed (O3 xs L) (kcall (O3 xs L) (d + 1)) kd_Deals_pickNext 2 Q P) (hQ : Q res.1 (some (mI (bI res.2)))) {k45 : Int32 → S2 → Option (S2 × Bool)} (hk45 : ∀ (x2 : Int32) (x1 : Int32) (s : S2), k45 x2 s = some res → P 45 [some (mR 45 0), some (mI x1), some (mI x2)] [] s (0, 0)) (x2 : Int32) (x1 : Int32) (s : S2) (h : b_Deals_pickNext_L45 k45 x2 s = some res) : P 45 [some (mR 45 0), some (mI x1), some (mI x2)] [] s (0, 0) := by
  refine mgo_from hP [7, 45] 260 ?_
  refine go_br (fun hc : (s.1 45 0 8) ≤ x2 => ?_) (fun hc : ¬ ((s.1 45 0 8) ≤ x2) => ?_)
  · replace h := (if_pos hc).symm.trans h
    cases h
    exact ⟨Or.inr rfl, hQ⟩
  · replace h := (if_neg hc).symm.trans h
    obtain ⟨j1, hj, h⟩ := bnd h
    refine go_ix j1 (ix_lt hj) (ix_eq hj) ?_
    obtain ⟨j3, hj, h⟩ := bnd h
    replace h := bnds h
    refine go_ix j3 (ix_lt hj) (ix_eq hj) ?_
    exact hk45 _ _ _ h
theorem c_Deals_pickNext_L45 {xs : Nat → Int32} {L d : Nat} {P : MK S2} {Q : S2 → Option MV → Prop} {res : S2 × Bool} (hP : MClosed (O3 xs L) (kcall (O3 xs L) (d + 1)) kd_Deals_pickNext 2 Q P) (hQ : Q res.1 (some (mI (bI res.2)))) : ∀ (fu : Nat) (x2 : Int32) (x1 : Int32) (s : S2), f_Deals_pickNext_L45 fu x2 s = some res → P 45 [some (mR 45 0), some (mI x1), some (mI x2)] [] s (0, 0)
  | 0, _, _, _, h => by cases h
  | fu + 1, x2, x1, s, h => cb_Deals_pickNext_L45 hP hQ (c_Deals_pickNext_L45 hP hQ fu) x2 x1 s h
theorem cb_Deals_pickNext_L7 {xs : Nat → Int32} {L d : Nat} {P : MK S2} {Q : S2 → Option MV → Prop} {res : S2 × Bool} (hP : MClosed (O3 xs L) (kcall (O3 xs L) (d + 1)) kd_Deals_pickNext 2 Q P) (hQ : Q res.1 (some (mI (bI res.2)))) {k7 : Int32 → S2 → Option (S2 × Bool)} (hk7 : ∀ (x1 : Int32) (s : S2), k7 x1 s = some res → P 7 [some (mR 45 0), some (mI x1), none] [] s (0, 0)) (x1 : Int32) (s : S2) (h : b_Deals_pickNext_L7 k7 x1 s = some res) : P 7 [some (mR 45 0), some (mI x1), none] [] s (0, 0) := by
  refine mgo_from hP [7, 45] 260 ?_
  refine go_br (fun hc : x1 < 0 => ?_) (fun hc : ¬ (x1 < 0) => ?_)
  · replace h := (if_pos hc).symm.trans h
    obtain ⟨q1, hq, h⟩ := bnd h
    refine go_call (fun _ hw => c_Deals_pickFirst hq hw) ?_
    cases h
    exact ⟨bI_01 _, hQ⟩
  · replace h := (if_neg hc).symm.trans h
    obtain ⟨j2, hj, h⟩ := bnd h
    refine go_ix j2 (ix_lt hj) (ix_eq hj) ?_
    refine go_br (fun hc : (((s.1 45 0 7) - (s.1 45 0 8)) + x1) ≤ (s.1 48 0 j2) => ?_) (fun hc : ¬ ((((s.1 45 0 7) - (s.1 45 0 8)) + x1) ≤ (s.1 48 0 j2)) => ?_)
    · replace h := (if_pos hc).symm.trans h
      exact hk7 _ _ h
    · replace h := (if_neg hc).symm.trans h
      obtain ⟨j3, hj, h⟩ := bnd h
      refine go_ix j3 (ix_lt hj) (ix_eq hj) ?_
      obtain ⟨j5, hj, h⟩ := bnd h
      replace h := bnds h
      refine go_ix j5 (ix_lt hj) (ix_eq hj) ?_
      exact c_Deals_pickNext_L45 hP hQ FU _ _ _ h
theorem c_Deals_pickNext_L7 {xs : Nat → Int32} {L d : Nat} {P : MK S2} {Q : S2 → Option MV → Prop} {res : S2 × Bool} (hP : MClosed (O3 xs L) (kcall (O3 xs L) (d + 1)) kd_Deals_pickNext 2 Q P) (hQ : Q res.1 (some (mI (bI res.2)))) : ∀ (fu : Nat) (x1 : Int32) (s : S2), f_Deals_pickNext_L7 fu x1 s = some res → P 7 [some (mR 45 0), some (mI x1), none] [] s (0, 0)
  | 0, _, _, h => by cases h
  | fu + 1, x1, s, h => cb_Deals_pickNext_L7 hP hQ (c_Deals_pickNext_L7 hP hQ fu) x1 s h
theorem c_Deals_pickNext {xs : Nat → Int32} {L d : Nat} {s : S2} {res : S2 × Bool} {Q : S2 → Option MV → Prop} (h : f_Deals_pickNext s = some res) (hQ : Q res.1 (some (mI (bI res.2)))) : kcall (O3 xs L) (d + 2) k_Deals_pickNext [mR 45 0] s Q := by
  refine kc_of (cd := kd_Deals_pickNext) (mx := 3) (rt := 2) rfl rfl ?_
  intro P hP
  refine mgo_sound hP [7, 45] 260 _ _ _ _ _ ?_
  exact c_Deals_pickNext_L7 hP hQ FU _ _ h
/-! D_chart -/
def f_D_chart (a1 : Int32) (a2 : Int32) (a3 : Int32) (a4 : Int32) (s : S2) : Option (S2 × Int32) := (if (bI (g_D_isIsle a2 s)) = 0 then some (s, (Int32.ofInt (-1))) else (if (bI (g_D_isWithin a1 (Int32.ofInt 1) (Int32.ofInt 20) s)) = 0 then some (s, (Int32.ofInt (-1))) else (if (bI (g_D_isWithin a3 (Int32.ofInt (-999)) (Int32.ofInt 999) s)) = 0 then some (s, (Int32.ofInt (-1))) else (if (bI (g_D_isWithin a4 (Int32.ofInt (-999)) (Int32.ofInt 999) s)) = 0 then some (s, (Int32.ofInt (-1))) else ((f_Charts_add a1 a2 a3 a4 s).bind fun q1 => (if (bI q1.2) = 0 then some (q1.1, (Int32.ofInt (-1))) else some (q1.1, (g_Charts_many q1.1))))))))
set_option maxRecDepth 20000 in
set_option maxHeartbeats 4000000 in
theorem c_D_chart {xs : Nat → Int32} {L d : Nat} {a1 : Int32} {a2 : Int32} {a3 : Int32} {a4 : Int32} {s : S2} {res : S2 × Int32} {Q : S2 → Option MV → Prop} (h : f_D_chart a1 a2 a3 a4 s = some res) (hQ : Q res.1 (some (mI res.2))) : kcall (O3 xs L) (d + 3) k_D_chart [mR 10 0, mI a1, mI a2, mI a3, mI a4] s Q := by
  refine kc_of (cd := kd_D_chart) (mx := 5) (rt := 1) rfl rfl ?_
  intro P hP
  refine mgo_sound hP [] 260 _ _ _ _ _ ?_
  refine go_call (fun _ hw => c_D_isIsle hw) ?_
  refine go_br (fun hc : (bI (g_D_isIsle a2 s)) = 0 => ?_) (fun hc : ¬ ((bI (g_D_isIsle a2 s)) = 0) => ?_)
  · replace h := (if_pos hc).symm.trans h
    cases h
    exact hQ
  · replace h := (if_neg hc).symm.trans h
    refine go_call (fun _ hw => c_D_isWithin hw) ?_
    refine go_br (fun hc : (bI (g_D_isWithin a1 (Int32.ofInt 1) (Int32.ofInt 20) s)) = 0 => ?_) (fun hc : ¬ ((bI (g_D_isWithin a1 (Int32.ofInt 1) (Int32.ofInt 20) s)) = 0) => ?_)
    · replace h := (if_pos hc).symm.trans h
      cases h
      exact hQ
    · replace h := (if_neg hc).symm.trans h
      refine go_call (fun _ hw => c_D_isWithin hw) ?_
      refine go_br (fun hc : (bI (g_D_isWithin a3 (Int32.ofInt (-999)) (Int32.ofInt 999) s)) = 0 => ?_) (fun hc : ¬ ((bI (g_D_isWithin a3 (Int32.ofInt (-999)) (Int32.ofInt 999) s)) = 0) => ?_)
      · replace h := (if_pos hc).symm.trans h
        cases h
        exact hQ
      · replace h := (if_neg hc).symm.trans h
        refine go_call (fun _ hw => c_D_isWithin hw) ?_
        refine go_brn (fun hc : ¬ ((bI (g_D_isWithin a4 (Int32.ofInt (-999)) (Int32.ofInt 999) s)) = 0) => ?_) (fun hc : (bI (g_D_isWithin a4 (Int32.ofInt (-999)) (Int32.ofInt 999) s)) = 0 => ?_)
        · replace h := (if_neg hc).symm.trans h
          obtain ⟨q1, hq, h⟩ := bnd h
          refine go_call (fun _ hw => c_Charts_add hq hw) ?_
          refine go_br (fun hc : (bI q1.2) = 0 => ?_) (fun hc : ¬ ((bI q1.2) = 0) => ?_)
          · replace h := (if_pos hc).symm.trans h
            cases h
            exact hQ
          · replace h := (if_neg hc).symm.trans h
            refine go_call (fun _ hw => c_Charts_many hw) ?_
            cases h
            exact hQ
        · replace h := (if_pos hc).symm.trans h
          cases h
          exact hQ
/-! D_sees -/
def f_D_sees (a1 : Int32) (a2 : Int32) (s : S2) : Option Int32 := (if (bI (g_D_isIsle a1 s)) = 0 then some (Int32.ofInt (-1)) else (if (bI (g_D_isWithin a2 (Int32.ofInt 0) (Int32.ofInt 999) s)) = 0 then some (Int32.ofInt (-1)) else ((f_State_headOf 0 a1 s).bind fun q1 => ((f_State_seenFrom 0 q1 a2 s).bind fun q2 => some q2))))
theorem c_D_sees {xs : Nat → Int32} {L d : Nat} {a1 : Int32} {a2 : Int32} {s : S2} {res : Int32} {Q : S2 → Option MV → Prop} (h : f_D_sees a1 a2 s = some res) (hQ : Q s (some (mI res))) : kcall (O3 xs L) (d + 3) k_D_sees [mR 10 0, mI a1, mI a2] s Q := by
  refine kc_of (cd := kd_D_sees) (mx := 3) (rt := 1) rfl rfl ?_
  intro P hP
  refine mgo_sound hP [] 260 _ _ _ _ _ ?_
  refine go_call (fun _ hw => c_D_isIsle hw) ?_
  refine go_br (fun hc : (bI (g_D_isIsle a1 s)) = 0 => ?_) (fun hc : ¬ ((bI (g_D_isIsle a1 s)) = 0) => ?_)
  · replace h := (if_pos hc).symm.trans h
    cases h
    exact hQ
  · replace h := (if_neg hc).symm.trans h
    refine go_call (fun _ hw => c_D_isWithin hw) ?_
    refine go_br (fun hc : (bI (g_D_isWithin a2 (Int32.ofInt 0) (Int32.ofInt 999) s)) = 0 => ?_) (fun hc : ¬ ((bI (g_D_isWithin a2 (Int32.ofInt 0) (Int32.ofInt 999) s)) = 0) => ?_)
    · replace h := (if_pos hc).symm.trans h
      cases h
      exact hQ
    · replace h := (if_neg hc).symm.trans h
      obtain ⟨q1, hq, h⟩ := bnd h
      refine go_call (fun _ hw => c_State_headOf hq hw) ?_
      obtain ⟨q2, hq, h⟩ := bnd h
      refine go_call (fun _ hw => c_State_seenFrom hq hw) ?_
      cases h
      exact hQ
/-! State_seenByAll -/
def f_State_seenByAll_L33 (r0 : Nat) (k4 : Int32 → Int32 → Int32 → S2 → Option Int32) (x1 : Int32) (x2 : Int32) (x3 : Int32) (s : S2) : Option Int32 := (k4 x1 x2 (x3 + (Int32.ofInt 1)) s)
def b_State_seenByAll_L4 (r0 : Nat) (k4 : Int32 → Int32 → Int32 → S2 → Option Int32) (x1 : Int32) (x2 : Int32) (x3 : Int32) (s : S2) : Option Int32 := (if (Int32.ofInt 6) ≤ x3 then some x2 else ((f_State_isHead r0 x3 s).bind fun q1 => (if (bI q1) = 0 then (f_State_seenByAll_L33 r0 k4 x1 x2 x3 s) else ((f_State_isSeenByAll r0 x3 x1 s).bind fun q2 => (if (bI q2) = 0 then (f_State_seenByAll_L33 r0 k4 x1 x2 x3 s) else (f_State_seenByAll_L33 r0 k4 x1 (x2 ||| ((Int32.ofInt 1) <<< (x3 &&& 31))) x3 s))))))
def f_State_seenByAll_L4 (r0 : Nat) : Nat → Int32 → Int32 → Int32 → S2 → Option Int32
  | 0 => fun _ _ _ _ => none
  | n + 1 => b_State_seenByAll_L4 r0 (f_State_seenByAll_L4 r0 n)
def f_State_seenByAll (r0 : Nat) (a1 : Int32) (s : S2) : Option Int32 := (f_State_seenByAll_L4 r0 FU a1 (Int32.ofInt 0) (Int32.ofInt 0) s)
theorem c_State_seenByAll_L33 {xs : Nat → Int32} {L d : Nat} {r0 : Nat} {P : MK S2} {Q : S2 → Option MV → Prop} {res : Int32} {s : S2} (hP : MClosed (O3 xs L) (kcall (O3 xs L) (d + 2)) kd_State_seenByAll 1 Q P) (hQ : Q s (some (mI res))) {k4 : Int32 → Int32 → Int32 → S2 → Option Int32} (hk4 : ∀ (x1 : Int32) (x2 : Int32) (x3 : Int32), k4 x1 x2 x3 s = some res → P 4 [some (mR 20 r0), some (mI x1), some (mI x2), some (mI x3)] [] s (0, 0)) (x1 : Int32) (x2 : Int32) (x3 : Int32) (h : f_State_seenByAll_L33 r0 k4 x1 x2 x3 s = some res) : P 33 [some (mR 20 r0), some (mI x1), some (mI x2), some (mI x3)] [] s (0, 0) := by
  refine mgo_from hP [4, 33] 260 ?_
  exact hk4 _ _ _ h
theorem cb_State_seenByAll_L4 {xs : Nat → Int32} {L d : Nat} {r0 : Nat} {P : MK S2} {Q : S2 → Option MV → Prop} {res : Int32} {s : S2} (hP : MClosed (O3 xs L) (kcall (O3 xs L) (d + 2)) kd_State_seenByAll 1 Q P) (hQ : Q s (some (mI res))) {k4 : Int32 → Int32 → Int32 → S2 → Option Int32} (hk4 : ∀ (x1 : Int32) (x2 : Int32) (x3 : Int32), k4 x1 x2 x3 s = some res → P 4 [some (mR 20 r0), some (mI x1), some (mI x2), some (mI x3)] [] s (0, 0)) (x1 : Int32) (x2 : Int32) (x3 : Int32) (h : b_State_seenByAll_L4 r0 k4 x1 x2 x3 s = some res) : P 4 [some (mR 20 r0), some (mI x1), some (mI x2), some (mI x3)] [] s (0, 0) := by
  refine mgo_from hP [4, 33] 260 ?_
  refine go_br (fun hc : (Int32.ofInt 6) ≤ x3 => ?_) (fun hc : ¬ ((Int32.ofInt 6) ≤ x3) => ?_)
  · replace h := (if_pos hc).symm.trans h
    cases h
    exact hQ
  · replace h := (if_neg hc).symm.trans h
    obtain ⟨q1, hq, h⟩ := bnd h
    refine go_call (fun _ hw => c_State_isHead hq hw) ?_
    refine go_br (fun hc : (bI q1) = 0 => ?_) (fun hc : ¬ ((bI q1) = 0) => ?_)
    · replace h := (if_pos hc).symm.trans h
      exact c_State_seenByAll_L33 hP hQ hk4 _ _ _ h
    · replace h := (if_neg hc).symm.trans h
      obtain ⟨q2, hq, h⟩ := bnd h
      refine go_call (fun _ hw => c_State_isSeenByAll hq hw) ?_
      refine go_br (fun hc : (bI q2) = 0 => ?_) (fun hc : ¬ ((bI q2) = 0) => ?_)
      · replace h := (if_pos hc).symm.trans h
        exact c_State_seenByAll_L33 hP hQ hk4 _ _ _ h
      · replace h := (if_neg hc).symm.trans h
        exact c_State_seenByAll_L33 hP hQ hk4 _ _ _ h
theorem c_State_seenByAll_L4 {xs : Nat → Int32} {L d : Nat} {r0 : Nat} {P : MK S2} {Q : S2 → Option MV → Prop} {res : Int32} {s : S2} (hP : MClosed (O3 xs L) (kcall (O3 xs L) (d + 2)) kd_State_seenByAll 1 Q P) (hQ : Q s (some (mI res))) : ∀ (fu : Nat) (x1 : Int32) (x2 : Int32) (x3 : Int32), f_State_seenByAll_L4 r0 fu x1 x2 x3 s = some res → P 4 [some (mR 20 r0), some (mI x1), some (mI x2), some (mI x3)] [] s (0, 0)
  | 0, _, _, _, h => by cases h
  | fu + 1, x1, x2, x3, h => cb_State_seenByAll_L4 hP hQ (c_State_seenByAll_L4 hP hQ fu) x1 x2 x3 h
theorem c_State_seenByAll {xs : Nat → Int32} {L d : Nat} {r0 : Nat} {a1 : Int32} {s : S2} {res : Int32} {Q : S2 → Option MV → Prop} (h : f_State_seenByAll r0 a1 s = some res) (hQ : Q s (some (mI res))) : kcall (O3 xs L) (d + 3) k_State_seenByAll [mR 20 r0, mI a1] s Q := by
  refine kc_of (cd := kd_State_seenByAll) (mx := 4) (rt := 1) rfl rfl ?_
  intro P hP
  refine mgo_sound hP [4, 33] 260 _ _ _ _ _ ?_
  exact c_State_seenByAll_L4 hP hQ FU _ _ _ h
/-! State_landCount -/
def f_State_landCount_L45 (r0 : Nat) (k7 : Int32 → Int32 → Int32 → Int32 → S2 → Option Int32) (x1 : Int32) (x2 : Int32) (x3 : Int32) (x4 : Int32) (s : S2) : Option Int32 := (k7 x1 x2 x3 (x4 + (Int32.ofInt 1)) s)
def b_State_landCount_L7 (r0 : Nat) (k7 : Int32 → Int32 → Int32 → Int32 → S2 → Option Int32) (x1 : Int32) (x2 : Int32) (x3 : Int32) (x4 : Int32) (s : S2) : Option Int32 := (if (Int32.ofInt 6) ≤ x4 then some x2 else ((f_State_isHead r0 x4 s).bind fun q1 => (if (bI q1) = 0 then (f_State_landCount_L45 r0 k7 x1 x2 x3 x4 s) else (if ((x3 >>> (x4 &&& 31)) &&& (Int32.ofInt 1)) = 0 then ((f_State_landOf r0 x4 x1 s).bind fun q2 => (f_State_landCount_L45 r0 k7 x1 (x2 + (Int32.ofInt 1)) (x3 ||| q2) x4 s)) else (f_State_landCount_L45 r0 k7 x1 x2 x3 x4 s)))))
def f_State_landCount_L7 (r0 : Nat) : Nat → Int32 → Int32 → Int32 → Int32 → S2 → Option Int32
  | 0 => fun _ _ _ _ _ => none
  | n + 1 => b_State_landCount_L7 r0 (f_State_landCount_L7 r0 n)
def f_State_landCount (r0 : Nat) (a1 : Int32) (s : S2) : Option Int32 := (f_State_landCount_L7 r0 FU a1 (Int32.ofInt 0) (Int32.ofInt 0) (Int32.ofInt 0) s)
theorem c_State_landCount_L45 {xs : Nat → Int32} {L d : Nat} {r0 : Nat} {P : MK S2} {Q : S2 → Option MV → Prop} {res : Int32} {s : S2} (hP : MClosed (O3 xs L) (kcall (O3 xs L) (d + 3)) kd_State_landCount 1 Q P) (hQ : Q s (some (mI res))) {k7 : Int32 → Int32 → Int32 → Int32 → S2 → Option Int32} (hk7 : ∀ (x1 : Int32) (x2 : Int32) (x3 : Int32) (x4 : Int32), k7 x1 x2 x3 x4 s = some res → P 7 [some (mR 20 r0), some (mI x1), some (mI x2), some (mI x3), some (mI x4)] [] s (0, 0)) (x1 : Int32) (x2 : Int32) (x3 : Int32) (x4 : Int32) (h : f_State_landCount_L45 r0 k7 x1 x2 x3 x4 s = some res) : P 45 [some (mR 20 r0), some (mI x1), some (mI x2), some (mI x3), some (mI x4)] [] s (0, 0) := by
  refine mgo_from hP [7, 45] 260 ?_
  exact hk7 _ _ _ _ h
theorem cb_State_landCount_L7 {xs : Nat → Int32} {L d : Nat} {r0 : Nat} {P : MK S2} {Q : S2 → Option MV → Prop} {res : Int32} {s : S2} (hP : MClosed (O3 xs L) (kcall (O3 xs L) (d + 3)) kd_State_landCount 1 Q P) (hQ : Q s (some (mI res))) {k7 : Int32 → Int32 → Int32 → Int32 → S2 → Option Int32} (hk7 : ∀ (x1 : Int32) (x2 : Int32) (x3 : Int32) (x4 : Int32), k7 x1 x2 x3 x4 s = some res → P 7 [some (mR 20 r0), some (mI x1), some (mI x2), some (mI x3), some (mI x4)] [] s (0, 0)) (x1 : Int32) (x2 : Int32) (x3 : Int32) (x4 : Int32) (h : b_State_landCount_L7 r0 k7 x1 x2 x3 x4 s = some res) : P 7 [some (mR 20 r0), some (mI x1), some (mI x2), some (mI x3), some (mI x4)] [] s (0, 0) := by
  refine mgo_from hP [7, 45] 260 ?_
  refine go_br (fun hc : (Int32.ofInt 6) ≤ x4 => ?_) (fun hc : ¬ ((Int32.ofInt 6) ≤ x4) => ?_)
  · replace h := (if_pos hc).symm.trans h
    cases h
    exact hQ
  · replace h := (if_neg hc).symm.trans h
    obtain ⟨q1, hq, h⟩ := bnd h
    refine go_call (fun _ hw => c_State_isHead hq hw) ?_
    refine go_br (fun hc : (bI q1) = 0 => ?_) (fun hc : ¬ ((bI q1) = 0) => ?_)
    · replace h := (if_pos hc).symm.trans h
      exact c_State_landCount_L45 hP hQ hk7 _ _ _ _ h
    · replace h := (if_neg hc).symm.trans h
      refine go_brn (fun hc : ¬ (((x3 >>> (x4 &&& 31)) &&& (Int32.ofInt 1)) = 0) => ?_) (fun hc : ((x3 >>> (x4 &&& 31)) &&& (Int32.ofInt 1)) = 0 => ?_)
      · replace h := (if_neg hc).symm.trans h
        exact c_State_landCount_L45 hP hQ hk7 _ _ _ _ h
      · replace h := (if_pos hc).symm.trans h
        obtain ⟨q2, hq, h⟩ := bnd h
        refine go_call (fun _ hw => c_State_landOf hq hw) ?_
        exact c_State_landCount_L45 hP hQ hk7 _ _ _ _ h
theorem c_State_landCount_L7 {xs : Nat → Int32} {L d : Nat} {r0 : Nat} {P : MK S2} {Q : S2 → Option MV → Prop} {res : Int32} {s : S2} (hP : MClosed (O3 xs L) (kcall (O3 xs L) (d + 3)) kd_State_landCount 1 Q P) (hQ : Q s (some (mI res))) : ∀ (fu : Nat) (x1 : Int32) (x2 : Int32) (x3 : Int32) (x4 : Int32), f_State_landCount_L7 r0 fu x1 x2 x3 x4 s = some res → P 7 [some (mR 20 r0), some (mI x1), some (mI x2), some (mI x3), some (mI x4)] [] s (0, 0)
  | 0, _, _, _, _, h => by cases h
  | fu + 1, x1, x2, x3, x4, h => cb_State_landCount_L7 hP hQ (c_State_landCount_L7 hP hQ fu) x1 x2 x3 x4 h
theorem c_State_landCount {xs : Nat → Int32} {L d : Nat} {r0 : Nat} {a1 : Int32} {s : S2} {res : Int32} {Q : S2 → Option MV → Prop} (h : f_State_landCount r0 a1 s = some res) (hQ : Q s (some (mI res))) : kcall (O3 xs L) (d + 4) k_State_landCount [mR 20 r0, mI a1] s Q := by
  refine kc_of (cd := kd_State_landCount) (mx := 5) (rt := 1) rfl rfl ?_
  intro P hP
  refine mgo_sound hP [7, 45] 260 _ _ _ _ _ ?_
  exact c_State_landCount_L7 hP hQ FU _ _ _ _ h
/-! State_largestLand -/
def f_State_largestLand_L32 (r0 : Nat) (k4 : Int32 → Int32 → Int32 → S2 → Option Int32) (x1 : Int32) (x2 : Int32) (x3 : Int32) (s : S2) : Option Int32 := (k4 x1 x2 (x3 + (Int32.ofInt 1)) s)
def b_State_largestLand_L4 (r0 : Nat) (k4 : Int32 → Int32 → Int32 → S2 → Option Int32) (x1 : Int32) (x2 : Int32) (x3 : Int32) (s : S2) : Option Int32 := (if (Int32.ofInt 6) ≤ x3 then some x2 else ((f_State_isHead r0 x3 s).bind fun q1 => (if (bI q1) = 0 then (f_State_largestLand_L32 r0 k4 x1 x2 x3 s) else ((f_State_landOf r0 x3 x1 s).bind fun q2 => (f_State_largestLand_L32 r0 k4 x1 (jmax x2 (g_Integer_bitCount q2 s)) x3 s)))))
def f_State_largestLand_L4 (r0 : Nat) : Nat → Int32 → Int32 → Int32 → S2 → Option Int32
  | 0 => fun _ _ _ _ => none
  | n + 1 => b_State_largestLand_L4 r0 (f_State_largestLand_L4 r0 n)
def f_State_largestLand (r0 : Nat) (a1 : Int32) (s : S2) : Option Int32 := (f_State_largestLand_L4 r0 FU a1 (Int32.ofInt 0) (Int32.ofInt 0) s)
theorem c_State_largestLand_L32 {xs : Nat → Int32} {L d : Nat} {r0 : Nat} {P : MK S2} {Q : S2 → Option MV → Prop} {res : Int32} {s : S2} (hP : MClosed (O3 xs L) (kcall (O3 xs L) (d + 3)) kd_State_largestLand 1 Q P) (hQ : Q s (some (mI res))) {k4 : Int32 → Int32 → Int32 → S2 → Option Int32} (hk4 : ∀ (x1 : Int32) (x2 : Int32) (x3 : Int32), k4 x1 x2 x3 s = some res → P 4 [some (mR 20 r0), some (mI x1), some (mI x2), some (mI x3)] [] s (0, 0)) (x1 : Int32) (x2 : Int32) (x3 : Int32) (h : f_State_largestLand_L32 r0 k4 x1 x2 x3 s = some res) : P 32 [some (mR 20 r0), some (mI x1), some (mI x2), some (mI x3)] [] s (0, 0) := by
  refine mgo_from hP [4, 32] 260 ?_
  exact hk4 _ _ _ h
theorem cb_State_largestLand_L4 {xs : Nat → Int32} {L d : Nat} {r0 : Nat} {P : MK S2} {Q : S2 → Option MV → Prop} {res : Int32} {s : S2} (hP : MClosed (O3 xs L) (kcall (O3 xs L) (d + 3)) kd_State_largestLand 1 Q P) (hQ : Q s (some (mI res))) {k4 : Int32 → Int32 → Int32 → S2 → Option Int32} (hk4 : ∀ (x1 : Int32) (x2 : Int32) (x3 : Int32), k4 x1 x2 x3 s = some res → P 4 [some (mR 20 r0), some (mI x1), some (mI x2), some (mI x3)] [] s (0, 0)) (x1 : Int32) (x2 : Int32) (x3 : Int32) (h : b_State_largestLand_L4 r0 k4 x1 x2 x3 s = some res) : P 4 [some (mR 20 r0), some (mI x1), some (mI x2), some (mI x3)] [] s (0, 0) := by
  refine mgo_from hP [4, 32] 260 ?_
  refine go_br (fun hc : (Int32.ofInt 6) ≤ x3 => ?_) (fun hc : ¬ ((Int32.ofInt 6) ≤ x3) => ?_)
  · replace h := (if_pos hc).symm.trans h
    cases h
    exact hQ
  · replace h := (if_neg hc).symm.trans h
    obtain ⟨q1, hq, h⟩ := bnd h
    refine go_call (fun _ hw => c_State_isHead hq hw) ?_
    refine go_br (fun hc : (bI q1) = 0 => ?_) (fun hc : ¬ ((bI q1) = 0) => ?_)
    · replace h := (if_pos hc).symm.trans h
      exact c_State_largestLand_L32 hP hQ hk4 _ _ _ h
    · replace h := (if_neg hc).symm.trans h
      obtain ⟨q2, hq, h⟩ := bnd h
      refine go_call (fun _ hw => c_State_landOf hq hw) ?_
      refine go_call (fun _ hw => c_Integer_bitCount hw) ?_
      exact c_State_largestLand_L32 hP hQ hk4 _ _ _ h
theorem c_State_largestLand_L4 {xs : Nat → Int32} {L d : Nat} {r0 : Nat} {P : MK S2} {Q : S2 → Option MV → Prop} {res : Int32} {s : S2} (hP : MClosed (O3 xs L) (kcall (O3 xs L) (d + 3)) kd_State_largestLand 1 Q P) (hQ : Q s (some (mI res))) : ∀ (fu : Nat) (x1 : Int32) (x2 : Int32) (x3 : Int32), f_State_largestLand_L4 r0 fu x1 x2 x3 s = some res → P 4 [some (mR 20 r0), some (mI x1), some (mI x2), some (mI x3)] [] s (0, 0)
  | 0, _, _, _, h => by cases h
  | fu + 1, x1, x2, x3, h => cb_State_largestLand_L4 hP hQ (c_State_largestLand_L4 hP hQ fu) x1 x2 x3 h
theorem c_State_largestLand {xs : Nat → Int32} {L d : Nat} {r0 : Nat} {a1 : Int32} {s : S2} {res : Int32} {Q : S2 → Option MV → Prop} (h : f_State_largestLand r0 a1 s = some res) (hQ : Q s (some (mI res))) : kcall (O3 xs L) (d + 4) k_State_largestLand [mR 20 r0, mI a1] s Q := by
  refine kc_of (cd := kd_State_largestLand) (mx := 4) (rt := 1) rfl rfl ?_
  intro P hP
  refine mgo_sound hP [4, 32] 260 _ _ _ _ _ ?_
  exact c_State_largestLand_L4 hP hQ FU _ _ _ h
/-! D_wide -/
def f_D_wide_L30 (y1 : Int32) (s : S2) : Option Int32 := ((f_State_widest 0 y1 s).bind fun q1 => some q1)
def f_D_wide (a1 : Int32) (s : S2) : Option Int32 := (if (bI (g_D_hasSea s)) = 0 then some (Int32.ofInt (-1)) else (if (bI (g_D_isWithin a1 (Int32.ofInt 0) (Int32.ofInt 1) s)) = 0 then some (Int32.ofInt (-1)) else (if a1 = (Int32.ofInt 1) then (f_D_wide_L30 (Int32.ofInt 1) s) else (f_D_wide_L30 (Int32.ofInt 0) s))))
theorem c_D_wide_L30 {xs : Nat → Int32} {L d : Nat} {P : MK S2} {Q : S2 → Option MV → Prop} {res : Int32} {s : S2} (hP : MClosed (O3 xs L) (kcall (O3 xs L) (d + 2)) kd_D_wide 1 Q P) (hQ : Q s (some (mI res))) (y1 : Int32) (x1 : Int32) (h : f_D_wide_L30 y1 s = some res) : P 30 [some (mR 10 0), some (mI x1)] [mI y1, mR 20 0] s (0, 0) := by
  refine mgo_from hP [30] 260 ?_
  obtain ⟨q1, hq, h⟩ := bnd h
  refine go_call (fun _ hw => c_State_widest hq hw) ?_
  cases h
  exact hQ
theorem c_D_wide {xs : Nat → Int32} {L d : Nat} {a1 : Int32} {s : S2} {res : Int32} {Q : S2 → Option MV → Prop} (h : f_D_wide a1 s = some res) (hQ : Q s (some (mI res))) : kcall (O3 xs L) (d + 3) k_D_wide [mR 10 0, mI a1] s Q := by
  refine kc_of (cd := kd_D_wide) (mx := 2) (rt := 1) rfl rfl ?_
  intro P hP
  refine mgo_sound hP [30] 260 _ _ _ _ _ ?_
  refine go_call (fun _ hw => c_D_hasSea hw) ?_
  refine go_br (fun hc : (bI (g_D_hasSea s)) = 0 => ?_) (fun hc : ¬ ((bI (g_D_hasSea s)) = 0) => ?_)
  · replace h := (if_pos hc).symm.trans h
    cases h
    exact hQ
  · replace h := (if_neg hc).symm.trans h
    refine go_call (fun _ hw => c_D_isWithin hw) ?_
    refine go_br (fun hc : (bI (g_D_isWithin a1 (Int32.ofInt 0) (Int32.ofInt 1) s)) = 0 => ?_) (fun hc : ¬ ((bI (g_D_isWithin a1 (Int32.ofInt 0) (Int32.ofInt 1) s)) = 0) => ?_)
    · replace h := (if_pos hc).symm.trans h
      cases h
      exact hQ
    · replace h := (if_neg hc).symm.trans h
      refine go_brn (fun hc : ¬ (a1 = (Int32.ofInt 1)) => ?_) (fun hc : a1 = (Int32.ofInt 1) => ?_)
      · replace h := (if_neg hc).symm.trans h
        exact c_D_wide_L30 hP hQ _ _ h
      · replace h := (if_pos hc).symm.trans h
        exact c_D_wide_L30 hP hQ _ _ h
/-! D_isle -/
def f_D_isle_L18 (s : S2) : Option Int32 := none
def f_D_isle (a1 : Int32) (a2 : Int32) (s : S2) : Option Int32 := (if (bI (g_D_isIsle a1 s)) = 0 then (f_D_isle_L18 s) else (if (bI (g_D_isWithin a2 (Int32.ofInt 0) (Int32.ofInt 9) s)) = 0 then (f_D_isle_L18 s) else (if a2 = (Int32.ofInt 0) then ((f_State_xOf 0 a1 s).bind fun q1 => some q1) else (if a2 = (Int32.ofInt 1) then ((f_State_yOf 0 a1 s).bind fun q2 => some q2) else (if a2 = (Int32.ofInt 2) then ((f_State_massOf 0 a1 s).bind fun q3 => some q3) else (if a2 = (Int32.ofInt 3) then ((f_State_headOf 0 a1 s).bind fun q4 => some q4) else (if a2 = (Int32.ofInt 4) then ((f_State_scarsOf 0 a1 s).bind fun q5 => some q5) else (if a2 = (Int32.ofInt 5) then ((f_Sea_ofIsle 0 a1 (Int32.ofInt 3) s).bind fun q6 => some q6) else (if a2 = (Int32.ofInt 6) then ((f_Sea_ofIsle 0 a1 (Int32.ofInt 4) s).bind fun q7 => some q7) else (if a2 = (Int32.ofInt 7) then ((f_Sea_ofIsle 0 a1 (Int32.ofInt 5) s).bind fun q8 => some q8) else (if a2 = (Int32.ofInt 8) then ((f_Sea_ofIsle 0 a1 (Int32.ofInt 6) s).bind fun q9 => some q9) else ((f_State_priceOf 0 a1 s).bind fun q10 => some q10))))))))))))
theorem c_D_isle_L18 {xs : Nat → Int32} {L d : Nat} {P : MK S2} {Q : S2 → Option MV → Prop} {res : Int32} {s : S2} (hP : MClosed (O3 xs L) (kcall (O3 xs L) (d + 2)) kd_D_isle 1 Q P) (hQ : Q s (some (mI res))) (x1 : Int32) (x2 : Int32) (h : f_D_isle_L18 s = some res) : P 18 [some (mR 10 0), some (mI x1), some (mI x2)] [] s (0, 0) := by
  refine mgo_from hP [18] 260 ?_
  cases h
set_option maxRecDepth 20000 in
set_option maxHeartbeats 4000000 in
theorem c_D_isle {xs : Nat → Int32} {L d : Nat} {a1 : Int32} {a2 : Int32} {s : S2} {res : Int32} {Q : S2 → Option MV → Prop} (h : f_D_isle a1 a2 s = some res) (hQ : Q s (some (mI res))) : kcall (O3 xs L) (d + 3) k_D_isle [mR 10 0, mI a1, mI a2] s Q := by
  refine kc_of (cd := kd_D_isle) (mx := 3) (rt := 1) rfl rfl ?_
  intro P hP
  refine mgo_sound hP [18] 260 _ _ _ _ _ ?_
  refine go_call (fun _ hw => c_D_isIsle hw) ?_
  refine go_br (fun hc : (bI (g_D_isIsle a1 s)) = 0 => ?_) (fun hc : ¬ ((bI (g_D_isIsle a1 s)) = 0) => ?_)
  · replace h := (if_pos hc).symm.trans h
    exact c_D_isle_L18 hP hQ _ _ h
  · replace h := (if_neg hc).symm.trans h
    refine go_call (fun _ hw => c_D_isWithin hw) ?_
    refine go_brn (fun hc : ¬ ((bI (g_D_isWithin a2 (Int32.ofInt 0) (Int32.ofInt 9) s)) = 0) => ?_) (fun hc : (bI (g_D_isWithin a2 (Int32.ofInt 0) (Int32.ofInt 9) s)) = 0 => ?_)
    · replace h := (if_neg hc).symm.trans h
      refine go_br (fun hc : a2 = (Int32.ofInt 0) => ?_) (fun hc : ¬ (a2 = (Int32.ofInt 0)) => ?_)
      · replace h := (if_pos hc).symm.trans h
        obtain ⟨q1, hq, h⟩ := bnd h
        refine go_call (fun _ hw => c_State_xOf hq hw) ?_
        cases h
        exact hQ
      · replace h := (if_neg hc).symm.trans h
        refine go_br (fun hc : a2 = (Int32.ofInt 1) => ?_) (fun hc : ¬ (a2 = (Int32.ofInt 1)) => ?_)
        · replace h := (if_pos hc).symm.trans h
          obtain ⟨q2, hq, h⟩ := bnd h
          refine go_call (fun _ hw => c_State_yOf hq hw) ?_
          cases h
          exact hQ
        · replace h := (if_neg hc).symm.trans h
          refine go_br (fun hc : a2 = (Int32.ofInt 2) => ?_) (fun hc : ¬ (a2 = (Int32.ofInt 2)) => ?_)
          · replace h := (if_pos hc).symm.trans h
            obtain ⟨q3, hq, h⟩ := bnd h
            refine go_call (fun _ hw => c_State_massOf hq hw) ?_
            cases h
            exact hQ
          · replace h := (if_neg hc).symm.trans h
            refine go_br (fun hc : a2 = (Int32.ofInt 3) => ?_) (fun hc : ¬ (a2 = (Int32.ofInt 3)) => ?_)
            · replace h := (if_pos hc).symm.trans h
              obtain ⟨q4, hq, h⟩ := bnd h
              refine go_call (fun _ hw => c_State_headOf hq hw) ?_
              cases h
              exact hQ
            · replace h := (if_neg hc).symm.trans h
              refine go_br (fun hc : a2 = (Int32.ofInt 4) => ?_) (fun hc : ¬ (a2 = (Int32.ofInt 4)) => ?_)
              · replace h := (if_pos hc).symm.trans h
                obtain ⟨q5, hq, h⟩ := bnd h
                refine go_call (fun _ hw => c_State_scarsOf hq hw) ?_
                cases h
                exact hQ
              · replace h := (if_neg hc).symm.trans h
                refine go_br (fun hc : a2 = (Int32.ofInt 5) => ?_) (fun hc : ¬ (a2 = (Int32.ofInt 5)) => ?_)
                · replace h := (if_pos hc).symm.trans h
                  obtain ⟨q6, hq, h⟩ := bnd h
                  refine go_call (fun _ hw => c_Sea_ofIsle hq hw) ?_
                  cases h
                  exact hQ
                · replace h := (if_neg hc).symm.trans h
                  refine go_br (fun hc : a2 = (Int32.ofInt 6) => ?_) (fun hc : ¬ (a2 = (Int32.ofInt 6)) => ?_)
                  · replace h := (if_pos hc).symm.trans h
                    obtain ⟨q7, hq, h⟩ := bnd h
                    refine go_call (fun _ hw => c_Sea_ofIsle hq hw) ?_
                    cases h
                    exact hQ
                  · replace h := (if_neg hc).symm.trans h
                    refine go_br (fun hc : a2 = (Int32.ofInt 7) => ?_) (fun hc : ¬ (a2 = (Int32.ofInt 7)) => ?_)
                    · replace h := (if_pos hc).symm.trans h
                      obtain ⟨q8, hq, h⟩ := bnd h
                      refine go_call (fun _ hw => c_Sea_ofIsle hq hw) ?_
                      cases h
                      exact hQ
                    · replace h := (if_neg hc).symm.trans h
                      refine go_br (fun hc : a2 = (Int32.ofInt 8) => ?_) (fun hc : ¬ (a2 = (Int32.ofInt 8)) => ?_)
                      · replace h := (if_pos hc).symm.trans h
                        obtain ⟨q9, hq, h⟩ := bnd h
                        refine go_call (fun _ hw => c_Sea_ofIsle hq hw) ?_
                        cases h
                        exact hQ
                      · replace h := (if_neg hc).symm.trans h
                        obtain ⟨q10, hq, h⟩ := bnd h
                        refine go_call (fun _ hw => c_State_priceOf hq hw) ?_
                        cases h
                        exact hQ
    · replace h := (if_pos hc).symm.trans h
      exact c_D_isle_L18 hP hQ _ _ h
/-! M_feed -/
def f_M_feed_L109 (k62 : Int32 → Int32 → Int32 → Int32 → Int32 → Int32 → S2 → Option (S2 × Int32)) (x1 : Int32) (x2 : Int32) (x3 : Int32) (x4 : Int32) (x5 : Int32) (x7 : Int32) (s : S2) : Option (S2 × Int32) := (k62 x1 x2 x3 x4 x5 (x7 + (Int32.ofInt 1)) s)
def b_M_feed_L62 (k62 : Int32 → Int32 → Int32 → Int32 → Int32 → Int32 → S2 → Option (S2 × Int32)) (x1 : Int32) (x2 : Int32) (x3 : Int32) (x4 : Int32) (x5 : Int32) (x7 : Int32) (s : S2) : Option (S2 × Int32) := (if (Int32.ofInt 20) ≤ x7 then some (s, (s.1 60 0 2)) else (if (g_M_byteOf x1 x2 x3 x4 x5 x7 s) = 0 then (f_M_feed_L109 k62 x1 x2 x3 x4 x5 x7 s) else ((ix 240 (s.1 60 0 2)).bind fun j2 => (some (pkS s 61 0 j2 (g_M_byteOf x1 x2 x3 x4 x5 x7 s))).bind fun s1 => ((some (pkS s1 60 0 2 ((s1.1 60 0 2) + (Int32.ofInt 1)))).bind fun s3 => (f_M_feed_L109 k62 x1 x2 x3 x4 x5 x7 s3)))))
def f_M_feed_L62 : Nat → Int32 → Int32 → Int32 → Int32 → Int32 → Int32 → S2 → Option (S2 × Int32)
  | 0 => fun _ _ _ _ _ _ _ => none
  | n + 1 => b_M_feed_L62 (f_M_feed_L62 n)
def f_M_feed_L35 (k6 : Int32 → Int32 → Int32 → Int32 → Int32 → Int32 → Int32 → S2 → Option (S2 × Int32)) (x1 : Int32) (x2 : Int32) (x3 : Int32) (x4 : Int32) (x5 : Int32) (x7 : Int32) (y0 : Int32) (y1 : Int32) (s : S2) : Option (S2 × Int32) := (k6 x1 x2 x3 x4 x5 (y0 + y1) (x7 + (Int32.ofInt 1)) s)
def b_M_feed_L6 (k6 : Int32 → Int32 → Int32 → Int32 → Int32 → Int32 → Int32 → S2 → Option (S2 × Int32)) (x1 : Int32) (x2 : Int32) (x3 : Int32) (x4 : Int32) (x5 : Int32) (x6 : Int32) (x7 : Int32) (s : S2) : Option (S2 × Int32) := (if (Int32.ofInt 20) ≤ x7 then (if ((s.1 60 0 2) + x6) ≤ (Int32.ofInt 240) then (f_M_feed_L62 FU x1 x2 x3 x4 x5 (Int32.ofInt 0) s) else some (s, (Int32.ofInt (-1)))) else (if (g_M_byteOf x1 x2 x3 x4 x5 x7 s) = 0 then (f_M_feed_L35 k6 x1 x2 x3 x4 x5 x7 x6 (Int32.ofInt 0) s) else (f_M_feed_L35 k6 x1 x2 x3 x4 x5 x7 x6 (Int32.ofInt 1) s)))
def f_M_feed_L6 : Nat → Int32 → Int32 → Int32 → Int32 → Int32 → Int32 → Int32 → S2 → Option (S2 × Int32)
  | 0 => fun _ _ _ _ _ _ _ _ => none
  | n + 1 => b_M_feed_L6 (f_M_feed_L6 n)
def f_M_feed (a1 : Int32) (a2 : Int32) (a3 : Int32) (a4 : Int32) (a5 : Int32) (s : S2) : Option (S2 × Int32) := (f_M_feed_L6 FU a1 a2 a3 a4 a5 (Int32.ofInt 0) (Int32.ofInt 0) s)
theorem c_M_feed_L109 {xs : Nat → Int32} {L d : Nat} {P : MK S2} {Q : S2 → Option MV → Prop} {res : S2 × Int32} (hP : MClosed (O3 xs L) (kcall (O3 xs L) (d + 1)) kd_M_feed 1 Q P) (hQ : Q res.1 (some (mI res.2))) {k62 : Int32 → Int32 → Int32 → Int32 → Int32 → Int32 → S2 → Option (S2 × Int32)} (hk62 : ∀ (x1 : Int32) (x2 : Int32) (x3 : Int32) (x4 : Int32) (x5 : Int32) (x7 : Int32) (x6 : Int32) (x8 : Option Int32) (s : S2), k62 x1 x2 x3 x4 x5 x7 s = some res → P 62 [some (mR 60 0), some (mI x1), some (mI x2), some (mI x3), some (mI x4), some (mI x5), some (mI x6), some (mI x7), oI x8] [] s (0, 0)) (x1 : Int32) (x2 : Int32) (x3 : Int32) (x4 : Int32) (x5 : Int32) (x7 : Int32) (x6 : Int32) (x8 : Int32) (s : S2) (h : f_M_feed_L109 k62 x1 x2 x3 x4 x5 x7 s = some res) : P 109 [some (mR 60 0), some (mI x1), some (mI x2), some (mI x3), some (mI x4), some (mI x5), some (mI x6), some (mI x7), some (mI x8)] [] s (0, 0) := by
  refine mgo_from hP [6, 35, 62, 109] 260 ?_
  exact hk62 _ _ _ _ _ _ _ (some x8) _ h
theorem cb_M_feed_L62 {xs : Nat → Int32} {L d : Nat} {P : MK S2} {Q : S2 → Option MV → Prop} {res : S2 × Int32} (hP : MClosed (O3 xs L) (kcall (O3 xs L) (d + 1)) kd_M_feed 1 Q P) (hQ : Q res.1 (some (mI res.2))) {k62 : Int32 → Int32 → Int32 → Int32 → Int32 → Int32 → S2 → Option (S2 × Int32)} (hk62 : ∀ (x1 : Int32) (x2 : Int32) (x3 : Int32) (x4 : Int32) (x5 : Int32) (x7 : Int32) (x6 : Int32) (x8 : Option Int32) (s : S2), k62 x1 x2 x3 x4 x5 x7 s = some res → P 62 [some (mR 60 0), some (mI x1), some (mI x2), some (mI x3), some (mI x4), some (mI x5), some (mI x6), some (mI x7), oI x8] [] s (0, 0)) (x1 : Int32) (x2 : Int32) (x3 : Int32) (x4 : Int32) (x5 : Int32) (x7 : Int32) (x6 : Int32) (x8 : Option Int32) (s : S2) (h : b_M_feed_L62 k62 x1 x2 x3 x4 x5 x7 s = some res) : P 62 [some (mR 60 0), some (mI x1), some (mI x2), some (mI x3), some (mI x4), some (mI x5), some (mI x6), some (mI x7), oI x8] [] s (0, 0) := by
  refine mgo_from hP [6, 35, 62, 109] 260 ?_
  refine go_br (fun hc : (Int32.ofInt 20) ≤ x7 => ?_) (fun hc : ¬ ((Int32.ofInt 20) ≤ x7) => ?_)
  · replace h := (if_pos hc).symm.trans h
    cases h
    exact hQ
  · replace h := (if_neg hc).symm.trans h
    refine go_call (fun _ hw => c_M_byteOf hw) ?_
    refine go_br (fun hc : (g_M_byteOf x1 x2 x3 x4 x5 x7 s) = 0 => ?_) (fun hc : ¬ ((g_M_byteOf x1 x2 x3 x4 x5 x7 s) = 0) => ?_)
    · replace h := (if_pos hc).symm.trans h
      exact c_M_feed_L109 hP hQ hk62 _ _ _ _ _ _ _ _ _ h
    · replace h := (if_neg hc).symm.trans h
      obtain ⟨j2, hj, h⟩ := bnd h
      replace h := bnds h
      refine go_ix j2 (ix_lt hj) (ix_eq hj) ?_
      replace h := bnds h
      exact c_M_feed_L109 hP hQ hk62 _ _ _ _ _ _ _ _ _ h
theorem c_M_feed_L62 {xs : Nat → Int32} {L d : Nat} {P : MK S2} {Q : S2 → Option MV → Prop} {res : S2 × Int32} (hP : MClosed (O3 xs L) (kcall (O3 xs L) (d + 1)) kd_M_feed 1 Q P) (hQ : Q res.1 (some (mI res.2))) : ∀ (fu : Nat) (x1 : Int32) (x2 : Int32) (x3 : Int32) (x4 : Int32) (x5 : Int32) (x7 : Int32) (x6 : Int32) (x8 : Option Int32) (s : S2), f_M_feed_L62 fu x1 x2 x3 x4 x5 x7 s = some res → P 62 [some (mR 60 0), some (mI x1), some (mI x2), some (mI x3), some (mI x4), some (mI x5), some (mI x6), some (mI x7), oI x8] [] s (0, 0)
  | 0, _, _, _, _, _, _, _, _, _, h => by cases h
  | fu + 1, x1, x2, x3, x4, x5, x7, x6, x8, s, h => cb_M_feed_L62 hP hQ (c_M_feed_L62 hP hQ fu) x1 x2 x3 x4 x5 x7 x6 x8 s h
theorem c_M_feed_L35 {xs : Nat → Int32} {L d : Nat} {P : MK S2} {Q : S2 → Option MV → Prop} {res : S2 × Int32} (hP : MClosed (O3 xs L) (kcall (O3 xs L) (d + 1)) kd_M_feed 1 Q P) (hQ : Q res.1 (some (mI res.2))) {k6 : Int32 → Int32 → Int32 → Int32 → Int32 → Int32 → Int32 → S2 → Option (S2 × Int32)} (hk6 : ∀ (x1 : Int32) (x2 : Int32) (x3 : Int32) (x4 : Int32) (x5 : Int32) (x6 : Int32) (x7 : Int32) (s : S2), k6 x1 x2 x3 x4 x5 x6 x7 s = some res → P 6 [some (mR 60 0), some (mI x1), some (mI x2), some (mI x3), some (mI x4), some (mI x5), some (mI x6), some (mI x7), none] [] s (0, 0)) (x1 : Int32) (x2 : Int32) (x3 : Int32) (x4 : Int32) (x5 : Int32) (x7 : Int32) (y0 : Int32) (y1 : Int32) (x6 : Int32) (s : S2) (h : f_M_feed_L35 k6 x1 x2 x3 x4 x5 x7 y0 y1 s = some res) : P 35 [some (mR 60 0), some (mI x1), some (mI x2), some (mI x3), some (mI x4), some (mI x5), some (mI x6), some (mI x7), none] [mI y1, mI y0] s (0, 0) := by
  refine mgo_from hP [6, 35, 62, 109] 260 ?_
  exact hk6 _ _ _ _ _ _ _ _ h
theorem cb_M_feed_L6 {xs : Nat → Int32} {L d : Nat} {P : MK S2} {Q : S2 → Option MV → Prop} {res : S2 × Int32} (hP : MClosed (O3 xs L) (kcall (O3 xs L) (d + 1)) kd_M_feed 1 Q P) (hQ : Q res.1 (some (mI res.2))) {k6 : Int32 → Int32 → Int32 → Int32 → Int32 → Int32 → Int32 → S2 → Option (S2 × Int32)} (hk6 : ∀ (x1 : Int32) (x2 : Int32) (x3 : Int32) (x4 : Int32) (x5 : Int32) (x6 : Int32) (x7 : Int32) (s : S2), k6 x1 x2 x3 x4 x5 x6 x7 s = some res → P 6 [some (mR 60 0), some (mI x1), some (mI x2), some (mI x3), some (mI x4), some (mI x5), some (mI x6), some (mI x7), none] [] s (0, 0)) (x1 : Int32) (x2 : Int32) (x3 : Int32) (x4 : Int32) (x5 : Int32) (x6 : Int32) (x7 : Int32) (s : S2) (h : b_M_feed_L6 k6 x1 x2 x3 x4 x5 x6 x7 s = some res) : P 6 [some (mR 60 0), some (mI x1), some (mI x2), some (mI x3), some (mI x4), some (mI x5), some (mI x6), some (mI x7), none] [] s (0, 0) := by
  refine mgo_from hP [6, 35, 62, 109] 260 ?_
  refine go_br (fun hc : (Int32.ofInt 20) ≤ x7 => ?_) (fun hc : ¬ ((Int32.ofInt 20) ≤ x7) => ?_)
  · replace h := (if_pos hc).symm.trans h
    refine go_br (fun hc : ((s.1 60 0 2) + x6) ≤ (Int32.ofInt 240) => ?_) (fun hc : ¬ (((s.1 60 0 2) + x6) ≤ (Int32.ofInt 240)) => ?_)
    · replace h := (if_pos hc).symm.trans h
      exact c_M_feed_L62 hP hQ FU _ _ _ _ _ _ _ none _ h
    · replace h := (if_neg hc).symm.trans h
      cases h
      exact hQ
  · replace h := (if_neg hc).symm.trans h
    refine go_call (fun _ hw => c_M_byteOf hw) ?_
    refine go_br (fun hc : (g_M_byteOf x1 x2 x3 x4 x5 x7 s) = 0 => ?_) (fun hc : ¬ ((g_M_byteOf x1 x2 x3 x4 x5 x7 s) = 0) => ?_)
    · replace h := (if_pos hc).symm.trans h
      exact c_M_feed_L35 hP hQ hk6 _ _ _ _ _ _ _ _ _ _ h
    · replace h := (if_neg hc).symm.trans h
      exact c_M_feed_L35 hP hQ hk6 _ _ _ _ _ _ _ _ _ _ h
theorem c_M_feed_L6 {xs : Nat → Int32} {L d : Nat} {P : MK S2} {Q : S2 → Option MV → Prop} {res : S2 × Int32} (hP : MClosed (O3 xs L) (kcall (O3 xs L) (d + 1)) kd_M_feed 1 Q P) (hQ : Q res.1 (some (mI res.2))) : ∀ (fu : Nat) (x1 : Int32) (x2 : Int32) (x3 : Int32) (x4 : Int32) (x5 : Int32) (x6 : Int32) (x7 : Int32) (s : S2), f_M_feed_L6 fu x1 x2 x3 x4 x5 x6 x7 s = some res → P 6 [some (mR 60 0), some (mI x1), some (mI x2), some (mI x3), some (mI x4), some (mI x5), some (mI x6), some (mI x7), none] [] s (0, 0)
  | 0, _, _, _, _, _, _, _, _, h => by cases h
  | fu + 1, x1, x2, x3, x4, x5, x6, x7, s, h => cb_M_feed_L6 hP hQ (c_M_feed_L6 hP hQ fu) x1 x2 x3 x4 x5 x6 x7 s h
theorem c_M_feed {xs : Nat → Int32} {L d : Nat} {a1 : Int32} {a2 : Int32} {a3 : Int32} {a4 : Int32} {a5 : Int32} {s : S2} {res : S2 × Int32} {Q : S2 → Option MV → Prop} (h : f_M_feed a1 a2 a3 a4 a5 s = some res) (hQ : Q res.1 (some (mI res.2))) : kcall (O3 xs L) (d + 2) k_M_feed [mR 60 0, mI a1, mI a2, mI a3, mI a4, mI a5] s Q := by
  refine kc_of (cd := kd_M_feed) (mx := 9) (rt := 1) rfl rfl ?_
  intro P hP
  refine mgo_sound hP [6, 35, 62, 109] 260 _ _ _ _ _ ?_
  exact c_M_feed_L6 hP hQ FU _ _ _ _ _ _ _ _ h
/-! M_look -/
def b_M_look_L0 (k0 : S2 → Option (S2 × Int32)) (s : S2) : Option (S2 × Int32) := ((f_M_here s).bind fun q1 => (if q1 = (Int32.ofInt 32) then ((some (pkS s 60 0 3 ((s.1 60 0 3) + (Int32.ofInt 1)))).bind fun s3 => (k0 s3)) else ((f_M_here s).bind fun q2 => some (s, q2))))
def f_M_look_L0 : Nat → S2 → Option (S2 × Int32)
  | 0 => fun _ => none
  | n + 1 => b_M_look_L0 (f_M_look_L0 n)
def f_M_look (s : S2) : Option (S2 × Int32) := (f_M_look_L0 FU s)
theorem cb_M_look_L0 {xs : Nat → Int32} {L d : Nat} {P : MK S2} {Q : S2 → Option MV → Prop} {res : S2 × Int32} (hP : MClosed (O3 xs L) (kcall (O3 xs L) (d + 1)) kd_M_look 1 Q P) (hQ : Q res.1 (some (mI res.2))) {k0 : S2 → Option (S2 × Int32)} (hk0 : ∀ (s : S2), k0 s = some res → P 0 [some (mR 60 0)] [] s (0, 0)) (s : S2) (h : b_M_look_L0 k0 s = some res) : P 0 [some (mR 60 0)] [] s (0, 0) := by
  refine mgo_from hP [0] 260 ?_
  obtain ⟨q1, hq, h⟩ := bnd h
  refine go_call (fun _ hw => c_M_here hq hw) ?_
  refine go_brn (fun hc : ¬ (q1 = (Int32.ofInt 32)) => ?_) (fun hc : q1 = (Int32.ofInt 32) => ?_)
  · replace h := (if_neg hc).symm.trans h
    obtain ⟨q2, hq, h⟩ := bnd h
    refine go_call (fun _ hw => c_M_here hq hw) ?_
    cases h
    exact hQ
  · replace h := (if_pos hc).symm.trans h
    replace h := bnds h
    exact hk0 _ h
theorem c_M_look_L0 {xs : Nat → Int32} {L d : Nat} {P : MK S2} {Q : S2 → Option MV → Prop} {res : S2 × Int32} (hP : MClosed (O3 xs L) (kcall (O3 xs L) (d + 1)) kd_M_look 1 Q P) (hQ : Q res.1 (some (mI res.2))) : ∀ (fu : Nat) (s : S2), f_M_look_L0 fu s = some res → P 0 [some (mR 60 0)] [] s (0, 0)
  | 0, _, h => by cases h
  | fu + 1, s, h => cb_M_look_L0 hP hQ (c_M_look_L0 hP hQ fu) s h
theorem c_M_look {xs : Nat → Int32} {L d : Nat} {s : S2} {res : S2 × Int32} {Q : S2 → Option MV → Prop} (h : f_M_look s = some res) (hQ : Q res.1 (some (mI res.2))) : kcall (O3 xs L) (d + 2) k_M_look [mR 60 0] s Q := by
  refine kc_of (cd := kd_M_look) (mx := 1) (rt := 1) rfl rfl ?_
  intro P hP
  refine mgo_sound hP [0] 260 _ _ _ _ _ ?_
  exact c_M_look_L0 hP hQ FU _ h
/-! M_number -/
def f_M_number_L67 (x1 : Int32) (x2 : Int32) (x3 : Int32) (s : S2) : Option (S2 × Int32) := ((f_M_here s).bind fun q1 => (if (bI (g_M_isDigit q1 s)) = 0 then (if (bI (g_M_in x3 x1 x2 s)) = 0 then ((some (pkS s 60 0 3 ((s.1 60 0 3) - (Int32.ofInt 1)))).bind fun s2 => ((f_M_bad s2).bind fun q3 => some (q3, x3))) else some (s, x3)) else ((f_M_bad s).bind fun q4 => some (q4, x3))))
def f_M_number (a1 : Int32) (a2 : Int32) (s : S2) : Option (S2 × Int32) := ((f_M_look s).bind fun q1 => (if (bI (g_M_isDigit q1.2 q1.1)) = 0 then ((f_M_bad q1.1).bind fun q7 => some (q7, a1)) else ((f_M_here q1.1).bind fun q2 => ((some (pkS q1.1 60 0 3 ((q1.1.1 60 0 3) + (Int32.ofInt 1)))).bind fun s3 => ((f_M_here s3).bind fun q4 => (if (bI (g_M_isDigit q4 s3)) = 0 then (f_M_number_L67 a1 a2 (q2 - (Int32.ofInt 48)) s3) else ((f_M_here s3).bind fun q5 => ((some (pkS s3 60 0 3 ((s3.1 60 0 3) + (Int32.ofInt 1)))).bind fun s6 => (f_M_number_L67 a1 a2 ((((Int32.ofInt 10) * (q2 - (Int32.ofInt 48))) + q5) - (Int32.ofInt 48)) s6)))))))))
theorem c_M_number_L67 {xs : Nat → Int32} {L d : Nat} {P : MK S2} {Q : S2 → Option MV → Prop} {res : S2 × Int32} (hP : MClosed (O3 xs L) (kcall (O3 xs L) (d + 2)) kd_M_number 1 Q P) (hQ : Q res.1 (some (mI res.2))) (x1 : Int32) (x2 : Int32) (x3 : Int32) (s : S2) (h : f_M_number_L67 x1 x2 x3 s = some res) : P 67 [some (mR 60 0), some (mI x1), some (mI x2), some (mI x3)] [] s (0, 0) := by
  refine mgo_from hP [67] 260 ?_
  obtain ⟨q1, hq, h⟩ := bnd h
  refine go_call (fun _ hw => c_M_here hq hw) ?_
  refine go_call (fun _ hw => c_M_isDigit hw) ?_
  refine go_br (fun hc : (bI (g_M_isDigit q1 s)) = 0 => ?_) (fun hc : ¬ ((bI (g_M_isDigit q1 s)) = 0) => ?_)
  · replace h := (if_pos hc).symm.trans h
    refine go_call (fun _ hw => c_M_in hw) ?_
    refine go_brn (fun hc : ¬ ((bI (g_M_in x3 x1 x2 s)) = 0) => ?_) (fun hc : (bI (g_M_in x3 x1 x2 s)) = 0 => ?_)
    · replace h := (if_neg hc).symm.trans h
      cases h
      exact hQ
    · replace h := (if_pos hc).symm.trans h
      replace h := bnds h
      obtain ⟨q3, hq, h⟩ := bnd h
      refine go_call (fun _ hw => c_M_bad hq hw) ?_
      cases h
      exact hQ
  · replace h := (if_neg hc).symm.trans h
    obtain ⟨q4, hq, h⟩ := bnd h
    refine go_call (fun _ hw => c_M_bad hq hw) ?_
    cases h
    exact hQ
set_option maxRecDepth 20000 in
set_option maxHeartbeats 4000000 in
theorem c_M_number {xs : Nat → Int32} {L d : Nat} {a1 : Int32} {a2 : Int32} {s : S2} {res : S2 × Int32} {Q : S2 → Option MV → Prop} (h : f_M_number a1 a2 s = some res) (hQ : Q res.1 (some (mI res.2))) : kcall (O3 xs L) (d + 3) k_M_number [mR 60 0, mI a1, mI a2] s Q := by
  refine kc_of (cd := kd_M_number) (mx := 4) (rt := 1) rfl rfl ?_
  intro P hP
  refine mgo_sound hP [67] 260 _ _ _ _ _ ?_
  obtain ⟨q1, hq, h⟩ := bnd h
  refine go_call (fun _ hw => c_M_look hq hw) ?_
  refine go_call (fun _ hw => c_M_isDigit hw) ?_
  refine go_brn (fun hc : ¬ ((bI (g_M_isDigit q1.2 q1.1)) = 0) => ?_) (fun hc : (bI (g_M_isDigit q1.2 q1.1)) = 0 => ?_)
  · replace h := (if_neg hc).symm.trans h
    obtain ⟨q2, hq, h⟩ := bnd h
    refine go_call (fun _ hw => c_M_here hq hw) ?_
    replace h := bnds h
    obtain ⟨q4, hq, h⟩ := bnd h
    refine go_call (fun _ hw => c_M_here hq hw) ?_
    refine go_call (fun _ hw => c_M_isDigit hw) ?_
    refine go_br (fun hc => ?_) (fun hc => ?_)
    · replace h := (if_pos hc).symm.trans h
      exact c_M_number_L67 hP hQ _ _ _ _ h
    · replace h := (if_neg hc).symm.trans h
      obtain ⟨q5, hq, h⟩ := bnd h
      refine go_call (fun _ hw => c_M_here hq hw) ?_
      replace h := bnds h
      exact c_M_number_L67 hP hQ _ _ _ _ h
  · replace h := (if_pos hc).symm.trans h
    obtain ⟨q7, hq, h⟩ := bnd h
    refine go_call (fun _ hw => c_M_bad hq hw) ?_
    cases h
    exact hQ
/-! M_isWhole -/
def f_M_isWhole_L109 (k67 : Int32 → Int32 → S2 → Option Bool) (x2 : Int32) (y0 : Int32) (s : S2) : Option Bool := (k67 y0 (x2 + (Int32.ofInt 1)) s)
def f_M_isWhole_L108 (k67 : Int32 → Int32 → S2 → Option Bool) (x2 : Int32) (s : S2) : Option Bool := (f_M_isWhole_L109 k67 x2 (Int32.ofInt 0) s)
def b_M_isWhole_L67 (k67 : Int32 → Int32 → S2 → Option Bool) (x1 : Int32) (x2 : Int32) (s : S2) : Option Bool := (if (s.1 60 0 23) ≤ x2 then ((rb x1).bind fun b1 => some b1) else (if x1 = 0 then (f_M_isWhole_L108 k67 x2 s) else ((ix 12 ((Int32.ofInt 3) * x2)).bind fun j2 => ((ix 12 (((Int32.ofInt 3) * x2) + (Int32.ofInt 1))).bind fun j3 => (if (bI (g_M_areUnlike (s.1 74 0 j2) (s.1 74 0 j3) s)) = 0 then (f_M_isWhole_L108 k67 x2 s) else (f_M_isWhole_L109 k67 x2 (Int32.ofInt 1) s))))))
def f_M_isWhole_L67 : Nat → Int32 → Int32 → S2 → Option Bool
  | 0 => fun _ _ _ => none
  | n + 1 => b_M_isWhole_L67 (f_M_isWhole_L67 n)
def f_M_isWhole_L58 (k16 : Int32 → Int32 → S2 → Option Bool) (x2 : Int32) (y0 : Int32) (s : S2) : Option Bool := (k16 y0 (x2 + (Int32.ofInt 1)) s)
def f_M_isWhole_L57 (k16 : Int32 → Int32 → S2 → Option Bool) (x2 : Int32) (s : S2) : Option Bool := (f_M_isWhole_L58 k16 x2 (Int32.ofInt 0) s)
def b_M_isWhole_L16 (k16 : Int32 → Int32 → S2 → Option Bool) (x1 : Int32) (x2 : Int32) (s : S2) : Option Bool := (if (s.1 60 0 22) ≤ x2 then (f_M_isWhole_L67 FU x1 (Int32.ofInt 0) s) else (if x1 = 0 then (f_M_isWhole_L57 k16 x2 s) else ((ix 32 ((Int32.ofInt 4) * x2)).bind fun j1 => ((ix 32 (((Int32.ofInt 4) * x2) + (Int32.ofInt 1))).bind fun j2 => (if (bI (g_M_areUnlike (s.1 73 0 j1) (s.1 73 0 j2) s)) = 0 then (f_M_isWhole_L57 k16 x2 s) else (f_M_isWhole_L58 k16 x2 (Int32.ofInt 1) s))))))
def f_M_isWhole_L16 : Nat → Int32 → Int32 → S2 → Option Bool
  | 0 => fun _ _ _ => none
  | n + 1 => b_M_isWhole_L16 (f_M_isWhole_L16 n)
def f_M_isWhole_L13 (y0 : Int32) (s : S2) : Option Bool := (f_M_isWhole_L16 FU y0 (Int32.ofInt 0) s)
def f_M_isWhole (s : S2) : Option Bool := (if (s.1 60 0 21) ≤ (Int32.ofInt 1) then (f_M_isWhole_L13 (Int32.ofInt 0) s) else (f_M_isWhole_L13 (Int32.ofInt 1) s))
theorem c_M_isWhole_L109 {xs : Nat → Int32} {L d : Nat} {P : MK S2} {Q : S2 → Option MV → Prop} {res : Bool} {s : S2} (hP : MClosed (O3 xs L) (kcall (O3 xs L) (d + 1)) kd_M_isWhole 2 Q P) (hQ : Q s (some (mI (bI res)))) {k67 : Int32 → Int32 → S2 → Option Bool} (hk67 : ∀ (x1 : Int32) (x2 : Int32), k67 x1 x2 s = some res → P 67 [some (mR 60 0), some (mI x1), some (mI x2)] [] s (0, 0)) (x2 : Int32) (y0 : Int32) (x1 : Int32) (h : f_M_isWhole_L109 k67 x2 y0 s = some res) : P 109 [some (mR 60 0), some (mI x1), some (mI x2)] [mI y0] s (0, 0) := by
  refine mgo_from hP [13, 16, 57, 58, 67, 108, 109] 260 ?_
  exact hk67 _ _ h
theorem c_M_isWhole_L108 {xs : Nat → Int32} {L d : Nat} {P : MK S2} {Q : S2 → Option MV → Prop} {res : Bool} {s : S2} (hP : MClosed (O3 xs L) (kcall (O3 xs L) (d + 1)) kd_M_isWhole 2 Q P) (hQ : Q s (some (mI (bI res)))) {k67 : Int32 → Int32 → S2 → Option Bool} (hk67 : ∀ (x1 : Int32) (x2 : Int32), k67 x1 x2 s = some res → P 67 [some (mR 60 0), some (mI x1), some (mI x2)] [] s (0, 0)) (x2 : Int32) (x1 : Int32) (h : f_M_isWhole_L108 k67 x2 s = some res) : P 108 [some (mR 60 0), some (mI x1), some (mI x2)] [] s (0, 0) := by
  refine mgo_from hP [13, 16, 57, 58, 67, 108, 109] 260 ?_
  exact c_M_isWhole_L109 hP hQ hk67 _ _ _ h
theorem cb_M_isWhole_L67 {xs : Nat → Int32} {L d : Nat} {P : MK S2} {Q : S2 → Option MV → Prop} {res : Bool} {s : S2} (hP : MClosed (O3 xs L) (kcall (O3 xs L) (d + 1)) kd_M_isWhole 2 Q P) (hQ : Q s (some (mI (bI res)))) {k67 : Int32 → Int32 → S2 → Option Bool} (hk67 : ∀ (x1 : Int32) (x2 : Int32), k67 x1 x2 s = some res → P 67 [some (mR 60 0), some (mI x1), some (mI x2)] [] s (0, 0)) (x1 : Int32) (x2 : Int32) (h : b_M_isWhole_L67 k67 x1 x2 s = some res) : P 67 [some (mR 60 0), some (mI x1), some (mI x2)] [] s (0, 0) := by
  refine mgo_from hP [13, 16, 57, 58, 67, 108, 109] 260 ?_
  refine go_br (fun hc : (s.1 60 0 23) ≤ x2 => ?_) (fun hc : ¬ ((s.1 60 0 23) ≤ x2) => ?_)
  · replace h := (if_pos hc).symm.trans h
    obtain ⟨b1, hb, h⟩ := bnd h
    cases h
    exact ret_z hb hQ
  · replace h := (if_neg hc).symm.trans h
    refine go_br (fun hc : x1 = 0 => ?_) (fun hc : ¬ (x1 = 0) => ?_)
    · replace h := (if_pos hc).symm.trans h
      exact c_M_isWhole_L108 hP hQ hk67 _ _ h
    · replace h := (if_neg hc).symm.trans h
      obtain ⟨j2, hj, h⟩ := bnd h
      refine go_ix j2 (ix_lt hj) (ix_eq hj) ?_
      obtain ⟨j3, hj, h⟩ := bnd h
      refine go_ix j3 (ix_lt hj) (ix_eq hj) ?_
      refine go_call (fun _ hw => c_M_areUnlike hw) ?_
      refine go_br (fun hc : (bI (g_M_areUnlike (s.1 74 0 j2) (s.1 74 0 j3) s)) = 0 => ?_) (fun hc : ¬ ((bI (g_M_areUnlike (s.1 74 0 j2) (s.1 74 0 j3) s)) = 0) => ?_)
      · replace h := (if_pos hc).symm.trans h
        exact c_M_isWhole_L108 hP hQ hk67 _ _ h
      · replace h := (if_neg hc).symm.trans h
        exact c_M_isWhole_L109 hP hQ hk67 _ _ _ h
theorem c_M_isWhole_L67 {xs : Nat → Int32} {L d : Nat} {P : MK S2} {Q : S2 → Option MV → Prop} {res : Bool} {s : S2} (hP : MClosed (O3 xs L) (kcall (O3 xs L) (d + 1)) kd_M_isWhole 2 Q P) (hQ : Q s (some (mI (bI res)))) : ∀ (fu : Nat) (x1 : Int32) (x2 : Int32), f_M_isWhole_L67 fu x1 x2 s = some res → P 67 [some (mR 60 0), some (mI x1), some (mI x2)] [] s (0, 0)
  | 0, _, _, h => by cases h
  | fu + 1, x1, x2, h => cb_M_isWhole_L67 hP hQ (c_M_isWhole_L67 hP hQ fu) x1 x2 h
theorem c_M_isWhole_L58 {xs : Nat → Int32} {L d : Nat} {P : MK S2} {Q : S2 → Option MV → Prop} {res : Bool} {s : S2} (hP : MClosed (O3 xs L) (kcall (O3 xs L) (d + 1)) kd_M_isWhole 2 Q P) (hQ : Q s (some (mI (bI res)))) {k16 : Int32 → Int32 → S2 → Option Bool} (hk16 : ∀ (x1 : Int32) (x2 : Int32), k16 x1 x2 s = some res → P 16 [some (mR 60 0), some (mI x1), some (mI x2)] [] s (0, 0)) (x2 : Int32) (y0 : Int32) (x1 : Int32) (h : f_M_isWhole_L58 k16 x2 y0 s = some res) : P 58 [some (mR 60 0), some (mI x1), some (mI x2)] [mI y0] s (0, 0) := by
  refine mgo_from hP [13, 16, 57, 58, 67, 108, 109] 260 ?_
  exact hk16 _ _ h
theorem c_M_isWhole_L57 {xs : Nat → Int32} {L d : Nat} {P : MK S2} {Q : S2 → Option MV → Prop} {res : Bool} {s : S2} (hP : MClosed (O3 xs L) (kcall (O3 xs L) (d + 1)) kd_M_isWhole 2 Q P) (hQ : Q s (some (mI (bI res)))) {k16 : Int32 → Int32 → S2 → Option Bool} (hk16 : ∀ (x1 : Int32) (x2 : Int32), k16 x1 x2 s = some res → P 16 [some (mR 60 0), some (mI x1), some (mI x2)] [] s (0, 0)) (x2 : Int32) (x1 : Int32) (h : f_M_isWhole_L57 k16 x2 s = some res) : P 57 [some (mR 60 0), some (mI x1), some (mI x2)] [] s (0, 0) := by
  refine mgo_from hP [13, 16, 57, 58, 67, 108, 109] 260 ?_
  exact c_M_isWhole_L58 hP hQ hk16 _ _ _ h
theorem cb_M_isWhole_L16 {xs : Nat → Int32} {L d : Nat} {P : MK S2} {Q : S2 → Option MV → Prop} {res : Bool} {s : S2} (hP : MClosed (O3 xs L) (kcall (O3 xs L) (d + 1)) kd_M_isWhole 2 Q P) (hQ : Q s (some (mI (bI res)))) {k16 : Int32 → Int32 → S2 → Option Bool} (hk16 : ∀ (x1 : Int32) (x2 : Int32), k16 x1 x2 s = some res → P 16 [some (mR 60 0), some (mI x1), some (mI x2)] [] s (0, 0)) (x1 : Int32) (x2 : Int32) (h : b_M_isWhole_L16 k16 x1 x2 s = some res) : P 16 [some (mR 60 0), some (mI x1), some (mI x2)] [] s (0, 0) := by
  refine mgo_from hP [13, 16, 57, 58, 67, 108, 109] 260 ?_
  refine go_br (fun hc : (s.1 60 0 22) ≤ x2 => ?_) (fun hc : ¬ ((s.1 60 0 22) ≤ x2) => ?_)
  · replace h := (if_pos hc).symm.trans h
    exact c_M_isWhole_L67 hP hQ FU _ _ h
  · replace h := (if_neg hc).symm.trans h
    refine go_br (fun hc : x1 = 0 => ?_) (fun hc : ¬ (x1 = 0) => ?_)
    · replace h := (if_pos hc).symm.trans h
      exact c_M_isWhole_L57 hP hQ hk16 _ _ h
    · replace h := (if_neg hc).symm.trans h
      obtain ⟨j1, hj, h⟩ := bnd h
      refine go_ix j1 (ix_lt hj) (ix_eq hj) ?_
      obtain ⟨j2, hj, h⟩ := bnd h
      refine go_ix j2 (ix_lt hj) (ix_eq hj) ?_
      refine go_call (fun _ hw => c_M_areUnlike hw) ?_
      refine go_br (fun hc : (bI (g_M_areUnlike (s.1 73 0 j1) (s.1 73 0 j2) s)) = 0 => ?_) (fun hc : ¬ ((bI (g_M_areUnlike (s.1 73 0 j1) (s.1 73 0 j2) s)) = 0) => ?_)
      · replace h := (if_pos hc).symm.trans h
        exact c_M_isWhole_L57 hP hQ hk16 _ _ h
      · replace h := (if_neg hc).symm.trans h
        exact c_M_isWhole_L58 hP hQ hk16 _ _ _ h
theorem c_M_isWhole_L16 {xs : Nat → Int32} {L d : Nat} {P : MK S2} {Q : S2 → Option MV → Prop} {res : Bool} {s : S2} (hP : MClosed (O3 xs L) (kcall (O3 xs L) (d + 1)) kd_M_isWhole 2 Q P) (hQ : Q s (some (mI (bI res)))) : ∀ (fu : Nat) (x1 : Int32) (x2 : Int32), f_M_isWhole_L16 fu x1 x2 s = some res → P 16 [some (mR 60 0), some (mI x1), some (mI x2)] [] s (0, 0)
  | 0, _, _, h => by cases h
  | fu + 1, x1, x2, h => cb_M_isWhole_L16 hP hQ (c_M_isWhole_L16 hP hQ fu) x1 x2 h
theorem c_M_isWhole_L13 {xs : Nat → Int32} {L d : Nat} {P : MK S2} {Q : S2 → Option MV → Prop} {res : Bool} {s : S2} (hP : MClosed (O3 xs L) (kcall (O3 xs L) (d + 1)) kd_M_isWhole 2 Q P) (hQ : Q s (some (mI (bI res)))) (y0 : Int32) (h : f_M_isWhole_L13 y0 s = some res) : P 13 [some (mR 60 0), none, none] [mI y0] s (0, 0) := by
  refine mgo_from hP [13, 16, 57, 58, 67, 108, 109] 260 ?_
  exact c_M_isWhole_L16 hP hQ FU _ _ h
theorem c_M_isWhole {xs : Nat → Int32} {L d : Nat} {s : S2} {res : Bool} {Q : S2 → Option MV → Prop} (h : f_M_isWhole s = some res) (hQ : Q s (some (mI (bI res)))) : kcall (O3 xs L) (d + 2) k_M_isWhole [mR 60 0] s Q := by
  refine kc_of (cd := kd_M_isWhole) (mx := 3) (rt := 2) rfl rfl ?_
  intro P hP
  refine mgo_sound hP [13, 16, 57, 58, 67, 108, 109] 260 _ _ _ _ _ ?_
  refine go_br (fun hc : (s.1 60 0 21) ≤ (Int32.ofInt 1) => ?_) (fun hc : ¬ ((s.1 60 0 21) ≤ (Int32.ofInt 1)) => ?_)
  · replace h := (if_pos hc).symm.trans h
    exact c_M_isWhole_L13 hP hQ _ h
  · replace h := (if_neg hc).symm.trans h
    exact c_M_isWhole_L13 hP hQ _ h
/-! M_closes -/
def f_M_closes_L20 (s : S2) : Option S2 := ((some (pkS s 60 0 3 ((s.1 60 0 3) + (Int32.ofInt 1)))).bind fun s1 => ((some (pkS s1 60 0 5 ((s1.1 60 0 5) - (Int32.ofInt 1)))).bind fun s2 => some s2))
def f_M_closes (a1 : Int32) (s : S2) : Option S2 := (if (s.1 60 0 4) = (Int32.ofInt (-1)) then ((f_M_look s).bind fun q1 => (if q1.2 = a1 then (f_M_closes_L20 q1.1) else ((f_M_bad q1.1).bind fun q2 => (f_M_closes_L20 q2)))) else (f_M_closes_L20 s))
theorem c_M_closes_L20 {xs : Nat → Int32} {L d : Nat} {P : MK S2} {Q : S2 → Option MV → Prop} {res : S2} (hP : MClosed (O3 xs L) (kcall (O3 xs L) (d + 2)) kd_M_closes 0 Q P) (hQ : Q res none) (x1 : Int32) (s : S2) (h : f_M_closes_L20 s = some res) : P 20 [some (mR 60 0), some (mI x1)] [] s (0, 0) := by
  refine mgo_from hP [20] 260 ?_
  replace h := bnds h
  replace h := bnds h
  cases h
  exact hQ
theorem c_M_closes {xs : Nat → Int32} {L d : Nat} {a1 : Int32} {s : S2} {res : S2} {Q : S2 → Option MV → Prop} (h : f_M_closes a1 s = some res) (hQ : Q res none) : kcall (O3 xs L) (d + 3) k_M_closes [mR 60 0, mI a1] s Q := by
  refine kc_of (cd := kd_M_closes) (mx := 2) (rt := 0) rfl rfl ?_
  intro P hP
  refine mgo_sound hP [20] 260 _ _ _ _ _ ?_
  refine go_brn (fun hc : ¬ ((s.1 60 0 4) = (Int32.ofInt (-1))) => ?_) (fun hc : (s.1 60 0 4) = (Int32.ofInt (-1)) => ?_)
  · replace h := (if_neg hc).symm.trans h
    exact c_M_closes_L20 hP hQ _ _ h
  · replace h := (if_pos hc).symm.trans h
    obtain ⟨q1, hq, h⟩ := bnd h
    refine go_call (fun _ hw => c_M_look hq hw) ?_
    refine go_br (fun hc : q1.2 = a1 => ?_) (fun hc : ¬ (q1.2 = a1) => ?_)
    · replace h := (if_pos hc).symm.trans h
      exact c_M_closes_L20 hP hQ _ _ h
    · replace h := (if_neg hc).symm.trans h
      obtain ⟨q2, hq, h⟩ := bnd h
      refine go_call (fun _ hw => c_M_bad hq hw) ?_
      exact c_M_closes_L20 hP hQ _ _ h
/-! M_sum -/
def f_M_atom (g_M_sum : S2 → Option S2) (s : S2) : Option S2 := ((f_M_look s).bind fun q1 => (if (bI (g_M_isDigit q1.2 q1.1)) = 0 then (if (g_M_letterOf q1.2 q1.1) = (Int32.ofInt (-1)) then (if q1.2 = (Int32.ofInt 91) then ((f_M_opens q1.1).bind fun q3 => (if (q3.1 60 0 4) = (Int32.ofInt (-1)) then ((g_M_sum q3).bind fun q4 => ((f_M_closes (Int32.ofInt 93) q4).bind fun q5 => some q5)) else some q3)) else ((f_M_bad q1.1).bind fun q2 => some q2)) else ((some (pkS q1.1 60 0 3 ((q1.1.1 60 0 3) + (Int32.ofInt 1)))).bind fun s6 => ((f_M_put (Int32.ofInt 1) (g_M_letterOf q1.2 s6) s6).bind fun q7 => some q7))) else ((f_M_plainNumber q1.1).bind fun q8 => ((f_M_put (Int32.ofInt 0) q8.2 q8.1).bind fun q9 => some q9))))
def f_M_term_L79 (g_M_sum : S2 → Option S2) (k21 : Int32 → S2 → Option S2) (y0 : Int32) (s : S2) : Option S2 := (k21 y0 s)
def f_M_term_L59 (g_M_sum : S2 → Option S2) (k21 : Int32 → S2 → Option S2) (y1 : Int32) (s : S2) : Option S2 := ((f_M_put y1 (Int32.ofInt 0) s).bind fun q1 => (if (q1.1 60 0 4) = (Int32.ofInt (-1)) then ((f_M_look q1).bind fun q2 => (f_M_term_L79 g_M_sum k21 q2.2 q2.1)) else (f_M_term_L79 g_M_sum k21 (Int32.ofInt (-1)) q1)))
def f_M_term_L33 (g_M_sum : S2 → Option S2) (k21 : Int32 → S2 → Option S2) (x1 : Int32) (s : S2) : Option S2 := ((some (pkS s 60 0 3 ((s.1 60 0 3) + (Int32.ofInt 1)))).bind fun s1 => ((f_M_atom g_M_sum s1).bind fun q2 => (if x1 = (Int32.ofInt 42) then (f_M_term_L59 g_M_sum k21 (Int32.ofInt 4) q2) else (f_M_term_L59 g_M_sum k21 (Int32.ofInt 5) q2))))
def b_M_term_L21 (g_M_sum : S2 → Option S2) (k21 : Int32 → S2 → Option S2) (x1 : Int32) (s : S2) : Option S2 := (if x1 = (Int32.ofInt 42) then (f_M_term_L33 g_M_sum k21 x1 s) else (if x1 = (Int32.ofInt 47) then (f_M_term_L33 g_M_sum k21 x1 s) else some s))
def f_M_term_L21 (g_M_sum : S2 → Option S2) : Nat → Int32 → S2 → Option S2
  | 0 => fun _ _ => none
  | n + 1 => b_M_term_L21 g_M_sum (f_M_term_L21 g_M_sum n)
def f_M_term_L20 (g_M_sum : S2 → Option S2) (y0 : Int32) (s : S2) : Option S2 := (f_M_term_L21 g_M_sum FU y0 s)
def f_M_term (g_M_sum : S2 → Option S2) (s : S2) : Option S2 := ((f_M_atom g_M_sum s).bind fun q1 => (if (q1.1 60 0 4) = (Int32.ofInt (-1)) then ((f_M_look q1).bind fun q2 => (f_M_term_L20 g_M_sum q2.2 q2.1)) else (f_M_term_L20 g_M_sum (Int32.ofInt (-1)) q1)))
def f_M_sum_L79 (g_M_sum : S2 → Option S2) (k21 : Int32 → S2 → Option S2) (y0 : Int32) (s : S2) : Option S2 := (k21 y0 s)
def f_M_sum_L59 (g_M_sum : S2 → Option S2) (k21 : Int32 → S2 → Option S2) (y1 : Int32) (s : S2) : Option S2 := ((f_M_put y1 (Int32.ofInt 0) s).bind fun q1 => (if (q1.1 60 0 4) = (Int32.ofInt (-1)) then ((f_M_look q1).bind fun q2 => (f_M_sum_L79 g_M_sum k21 q2.2 q2.1)) else (f_M_sum_L79 g_M_sum k21 (Int32.ofInt (-1)) q1)))
def f_M_sum_L33 (g_M_sum : S2 → Option S2) (k21 : Int32 → S2 → Option S2) (x1 : Int32) (s : S2) : Option S2 := ((some (pkS s 60 0 3 ((s.1 60 0 3) + (Int32.ofInt 1)))).bind fun s1 => ((f_M_term g_M_sum s1).bind fun q2 => (if x1 = (Int32.ofInt 43) then (f_M_sum_L59 g_M_sum k21 (Int32.ofInt 2) q2) else (f_M_sum_L59 g_M_sum k21 (Int32.ofInt 3) q2))))
def b_M_sum_L21 (g_M_sum : S2 → Option S2) (k21 : Int32 → S2 → Option S2) (x1 : Int32) (s : S2) : Option S2 := (if x1 = (Int32.ofInt 43) then (f_M_sum_L33 g_M_sum k21 x1 s) else (if x1 = (Int32.ofInt 45) then (f_M_sum_L33 g_M_sum k21 x1 s) else some s))
def f_M_sum_L21 (g_M_sum : S2 → Option S2) : Nat → Int32 → S2 → Option S2
  | 0 => fun _ _ => none
  | n + 1 => b_M_sum_L21 g_M_sum (f_M_sum_L21 g_M_sum n)
def f_M_sum_L20 (g_M_sum : S2 → Option S2) (y0 : Int32) (s : S2) : Option S2 := (f_M_sum_L21 g_M_sum FU y0 s)
def fb_M_sum (g_M_sum : S2 → Option S2) (s : S2) : Option S2 := ((f_M_term g_M_sum s).bind fun q1 => (if (q1.1 60 0 4) = (Int32.ofInt (-1)) then ((f_M_look q1).bind fun q2 => (f_M_sum_L20 g_M_sum q2.2 q2.1)) else (f_M_sum_L20 g_M_sum (Int32.ofInt (-1)) q1)))
def f_M_sum : Nat → S2 → Option S2
  | 0 => fun _ => none
  | n + 1 => fb_M_sum (f_M_sum n)
set_option maxRecDepth 20000 in
set_option maxHeartbeats 4000000 in
theorem c_M_atom {xs : Nat → Int32} {L d : Nat} {g_M_sum : S2 → Option S2} {s : S2} {res : S2} {Q : S2 → Option MV → Prop} (hg_M_sum : ∀ {e : Nat}, d + 4 ≤ e → ∀  (s : S2) {res : S2} {Q : S2 → Option MV → Prop}, g_M_sum  s = some res → Q res none → kcall (O3 xs L) e k_M_sum [mR 60 0] s Q) (h : f_M_atom g_M_sum s = some res) (hQ : Q res none) : kcall (O3 xs L) (d + 5) k_M_atom [mR 60 0] s Q := by
  refine kc_of (cd := kd_M_atom) (mx := 2) (rt := 0) rfl rfl ?_
  intro P hP
  refine mgo_sound hP [] 260 _ _ _ _ _ ?_
  obtain ⟨q1, hq, h⟩ := bnd h
  refine go_call (fun _ hw => c_M_look hq hw) ?_
  refine go_call (fun _ hw => c_M_isDigit hw) ?_
  refine go_br (fun hc : (bI (g_M_isDigit q1.2 q1.1)) = 0 => ?_) (fun hc : ¬ ((bI (g_M_isDigit q1.2 q1.1)) = 0) => ?_)
  · replace h := (if_pos hc).symm.trans h
    refine go_call (fun _ hw => c_M_letterOf hw) ?_
    refine go_br (fun hc : (g_M_letterOf q1.2 q1.1) = (Int32.ofInt (-1)) => ?_) (fun hc : ¬ ((g_M_letterOf q1.2 q1.1) = (Int32.ofInt (-1))) => ?_)
    · replace h := (if_pos hc).symm.trans h
      refine go_brn (fun hc : ¬ (q1.2 = (Int32.ofInt 91)) => ?_) (fun hc : q1.2 = (Int32.ofInt 91) => ?_)
      · replace h := (if_neg hc).symm.trans h
        obtain ⟨q2, hq, h⟩ := bnd h
        refine go_call (fun _ hw => c_M_bad hq hw) ?_
        cases h
        exact hQ
      · replace h := (if_pos hc).symm.trans h
        obtain ⟨q3, hq, h⟩ := bnd h
        refine go_call (fun _ hw => c_M_opens hq hw) ?_
        refine go_brn (fun hc : ¬ ((q3.1 60 0 4) = (Int32.ofInt (-1))) => ?_) (fun hc : (q3.1 60 0 4) = (Int32.ofInt (-1)) => ?_)
        · replace h := (if_neg hc).symm.trans h
          cases h
          exact hQ
        · replace h := (if_pos hc).symm.trans h
          obtain ⟨q4, hq, h⟩ := bnd h
          refine go_call (fun _ hw => hg_M_sum (by omega) _ hq hw) ?_
          obtain ⟨q5, hq, h⟩ := bnd h
          refine go_call (fun _ hw => c_M_closes hq hw) ?_
          cases h
          exact hQ
    · replace h := (if_neg hc).symm.trans h
      replace h := bnds h
      refine go_call (fun _ hw => c_M_letterOf hw) ?_
      obtain ⟨q7, hq, h⟩ := bnd h
      refine go_call (fun _ hw => c_M_put hq hw) ?_
      cases h
      exact hQ
  · replace h := (if_neg hc).symm.trans h
    obtain ⟨q8, hq, h⟩ := bnd h
    refine go_call (fun _ hw => c_M_plainNumber hq hw) ?_
    obtain ⟨q9, hq, h⟩ := bnd h
    refine go_call (fun _ hw => c_M_put hq hw) ?_
    cases h
    exact hQ
theorem c_M_term_L79 {xs : Nat → Int32} {L d : Nat} {g_M_sum : S2 → Option S2} {P : MK S2} {Q : S2 → Option MV → Prop} {res : S2} (hP : MClosed (O3 xs L) (kcall (O3 xs L) (d + 5)) kd_M_term 0 Q P) (hQ : Q res none) (hg_M_sum : ∀ {e : Nat}, d + 4 ≤ e → ∀  (s : S2) {res : S2} {Q : S2 → Option MV → Prop}, g_M_sum  s = some res → Q res none → kcall (O3 xs L) e k_M_sum [mR 60 0] s Q) {k21 : Int32 → S2 → Option S2} (hk21 : ∀ (x1 : Int32) (s : S2), k21 x1 s = some res → P 21 [some (mR 60 0), some (mI x1)] [] s (0, 0)) (y0 : Int32) (x1 : Int32) (s : S2) (h : f_M_term_L79 g_M_sum k21 y0 s = some res) : P 79 [some (mR 60 0), some (mI x1)] [mI y0] s (0, 0) := by
  refine mgo_from hP [20, 21, 33, 59, 79] 260 ?_
  exact hk21 _ _ h
theorem c_M_term_L59 {xs : Nat → Int32} {L d : Nat} {g_M_sum : S2 → Option S2} {P : MK S2} {Q : S2 → Option MV → Prop} {res : S2} (hP : MClosed (O3 xs L) (kcall (O3 xs L) (d + 5)) kd_M_term 0 Q P) (hQ : Q res none) (hg_M_sum : ∀ {e : Nat}, d + 4 ≤ e → ∀  (s : S2) {res : S2} {Q : S2 → Option MV → Prop}, g_M_sum  s = some res → Q res none → kcall (O3 xs L) e k_M_sum [mR 60 0] s Q) {k21 : Int32 → S2 → Option S2} (hk21 : ∀ (x1 : Int32) (s : S2), k21 x1 s = some res → P 21 [some (mR 60 0), some (mI x1)] [] s (0, 0)) (y1 : Int32) (x1 : Int32) (s : S2) (h : f_M_term_L59 g_M_sum k21 y1 s = some res) : P 59 [some (mR 60 0), some (mI x1)] [mI y1, mR 60 0] s (0, 0) := by
  refine mgo_from hP [20, 21, 33, 59, 79] 260 ?_
  obtain ⟨q1, hq, h⟩ := bnd h
  refine go_call (fun _ hw => c_M_put hq hw) ?_
  refine go_brn (fun hc : ¬ ((q1.1 60 0 4) = (Int32.ofInt (-1))) => ?_) (fun hc : (q1.1 60 0 4) = (Int32.ofInt (-1)) => ?_)
  · replace h := (if_neg hc).symm.trans h
    exact c_M_term_L79 hP hQ hg_M_sum hk21 _ _ _ h
  · replace h := (if_pos hc).symm.trans h
    obtain ⟨q2, hq, h⟩ := bnd h
    refine go_call (fun _ hw => c_M_look hq hw) ?_
    exact c_M_term_L79 hP hQ hg_M_sum hk21 _ _ _ h
theorem c_M_term_L33 {xs : Nat → Int32} {L d : Nat} {g_M_sum : S2 → Option S2} {P : MK S2} {Q : S2 → Option MV → Prop} {res : S2} (hP : MClosed (O3 xs L) (kcall (O3 xs L) (d + 5)) kd_M_term 0 Q P) (hQ : Q res none) (hg_M_sum : ∀ {e : Nat}, d + 4 ≤ e → ∀  (s : S2) {res : S2} {Q : S2 → Option MV → Prop}, g_M_sum  s = some res → Q res none → kcall (O3 xs L) e k_M_sum [mR 60 0] s Q) {k21 : Int32 → S2 → Option S2} (hk21 : ∀ (x1 : Int32) (s : S2), k21 x1 s = some res → P 21 [some (mR 60 0), some (mI x1)] [] s (0, 0)) (x1 : Int32) (s : S2) (h : f_M_term_L33 g_M_sum k21 x1 s = some res) : P 33 [some (mR 60 0), some (mI x1)] [] s (0, 0) := by
  refine mgo_from hP [20, 21, 33, 59, 79] 260 ?_
  replace h := bnds h
  obtain ⟨q2, hq, h⟩ := bnd h
  refine go_call (fun _ hw => c_M_atom (fun he => hg_M_sum (by omega)) hq hw) ?_
  refine go_brn (fun hc : ¬ (x1 = (Int32.ofInt 42)) => ?_) (fun hc : x1 = (Int32.ofInt 42) => ?_)
  · replace h := (if_neg hc).symm.trans h
    exact c_M_term_L59 hP hQ hg_M_sum hk21 _ _ _ h
  · replace h := (if_pos hc).symm.trans h
    exact c_M_term_L59 hP hQ hg_M_sum hk21 _ _ _ h
theorem cb_M_term_L21 {xs : Nat → Int32} {L d : Nat} {g_M_sum : S2 → Option S2} {P : MK S2} {Q : S2 → Option MV → Prop} {res : S2} (hP : MClosed (O3 xs L) (kcall (O3 xs L) (d + 5)) kd_M_term 0 Q P) (hQ : Q res none) (hg_M_sum : ∀ {e : Nat}, d + 4 ≤ e → ∀  (s : S2) {res : S2} {Q : S2 → Option MV → Prop}, g_M_sum  s = some res → Q res none → kcall (O3 xs L) e k_M_sum [mR 60 0] s Q) {k21 : Int32 → S2 → Option S2} (hk21 : ∀ (x1 : Int32) (s : S2), k21 x1 s = some res → P 21 [some (mR 60 0), some (mI x1)] [] s (0, 0)) (x1 : Int32) (s : S2) (h : b_M_term_L21 g_M_sum k21 x1 s = some res) : P 21 [some (mR 60 0), some (mI x1)] [] s (0, 0) := by
  refine mgo_from hP [20, 21, 33, 59, 79] 260 ?_
  refine go_br (fun hc : x1 = (Int32.ofInt 42) => ?_) (fun hc : ¬ (x1 = (Int32.ofInt 42)) => ?_)
  · replace h := (if_pos hc).symm.trans h
    exact c_M_term_L33 hP hQ hg_M_sum hk21 _ _ h
  · replace h := (if_neg hc).symm.trans h
    refine go_brn (fun hc : ¬ (x1 = (Int32.ofInt 47)) => ?_) (fun hc : x1 = (Int32.ofInt 47) => ?_)
    · replace h := (if_neg hc).symm.trans h
      cases h
      exact hQ
    · replace h := (if_pos hc).symm.trans h
      exact c_M_term_L33 hP hQ hg_M_sum hk21 _ _ h
theorem c_M_term_L21 {xs : Nat → Int32} {L d : Nat} {g_M_sum : S2 → Option S2} {P : MK S2} {Q : S2 → Option MV → Prop} {res : S2} (hP : MClosed (O3 xs L) (kcall (O3 xs L) (d + 5)) kd_M_term 0 Q P) (hQ : Q res none) (hg_M_sum : ∀ {e : Nat}, d + 4 ≤ e → ∀  (s : S2) {res : S2} {Q : S2 → Option MV → Prop}, g_M_sum  s = some res → Q res none → kcall (O3 xs L) e k_M_sum [mR 60 0] s Q) : ∀ (fu : Nat) (x1 : Int32) (s : S2), f_M_term_L21 g_M_sum fu x1 s = some res → P 21 [some (mR 60 0), some (mI x1)] [] s (0, 0)
  | 0, _, _, h => by cases h
  | fu + 1, x1, s, h => cb_M_term_L21 hP hQ hg_M_sum (c_M_term_L21 hP hQ hg_M_sum fu) x1 s h
theorem c_M_term_L20 {xs : Nat → Int32} {L d : Nat} {g_M_sum : S2 → Option S2} {P : MK S2} {Q : S2 → Option MV → Prop} {res : S2} (hP : MClosed (O3 xs L) (kcall (O3 xs L) (d + 5)) kd_M_term 0 Q P) (hQ : Q res none) (hg_M_sum : ∀ {e : Nat}, d + 4 ≤ e → ∀  (s : S2) {res : S2} {Q : S2 → Option MV → Prop}, g_M_sum  s = some res → Q res none → kcall (O3 xs L) e k_M_sum [mR 60 0] s Q) (y0 : Int32) (s : S2) (h : f_M_term_L20 g_M_sum y0 s = some res) : P 20 [some (mR 60 0), none] [mI y0] s (0, 0) := by
  refine mgo_from hP [20, 21, 33, 59, 79] 260 ?_
  exact c_M_term_L21 hP hQ hg_M_sum FU _ _ h
theorem c_M_term {xs : Nat → Int32} {L d : Nat} {g_M_sum : S2 → Option S2} {s : S2} {res : S2} {Q : S2 → Option MV → Prop} (hg_M_sum : ∀ {e : Nat}, d + 4 ≤ e → ∀  (s : S2) {res : S2} {Q : S2 → Option MV → Prop}, g_M_sum  s = some res → Q res none → kcall (O3 xs L) e k_M_sum [mR 60 0] s Q) (h : f_M_term g_M_sum s = some res) (hQ : Q res none) : kcall (O3 xs L) (d + 6) k_M_term [mR 60 0] s Q := by
  refine kc_of (cd := kd_M_term) (mx := 2) (rt := 0) rfl rfl ?_
  intro P hP
  refine mgo_sound hP [20, 21, 33, 59, 79] 260 _ _ _ _ _ ?_
  obtain ⟨q1, hq, h⟩ := bnd h
  refine go_call (fun _ hw => c_M_atom (fun he => hg_M_sum (by omega)) hq hw) ?_
  refine go_brn (fun hc : ¬ ((q1.1 60 0 4) = (Int32.ofInt (-1))) => ?_) (fun hc : (q1.1 60 0 4) = (Int32.ofInt (-1)) => ?_)
  · replace h := (if_neg hc).symm.trans h
    exact c_M_term_L20 hP hQ hg_M_sum _ _ h
  · replace h := (if_pos hc).symm.trans h
    obtain ⟨q2, hq, h⟩ := bnd h
    refine go_call (fun _ hw => c_M_look hq hw) ?_
    exact c_M_term_L20 hP hQ hg_M_sum _ _ h
theorem c_M_sum_L79 {xs : Nat → Int32} {L d : Nat} {g_M_sum : S2 → Option S2} {P : MK S2} {Q : S2 → Option MV → Prop} {res : S2} (hP : MClosed (O3 xs L) (kcall (O3 xs L) (d + 6)) kd_M_sum 0 Q P) (hQ : Q res none) (hg_M_sum : ∀ {e : Nat}, d + 4 ≤ e → ∀  (s : S2) {res : S2} {Q : S2 → Option MV → Prop}, g_M_sum  s = some res → Q res none → kcall (O3 xs L) e k_M_sum [mR 60 0] s Q) {k21 : Int32 → S2 → Option S2} (hk21 : ∀ (x1 : Int32) (s : S2), k21 x1 s = some res → P 21 [some (mR 60 0), some (mI x1)] [] s (0, 0)) (y0 : Int32) (x1 : Int32) (s : S2) (h : f_M_sum_L79 g_M_sum k21 y0 s = some res) : P 79 [some (mR 60 0), some (mI x1)] [mI y0] s (0, 0) := by
  refine mgo_from hP [20, 21, 33, 59, 79] 260 ?_
  exact hk21 _ _ h
theorem c_M_sum_L59 {xs : Nat → Int32} {L d : Nat} {g_M_sum : S2 → Option S2} {P : MK S2} {Q : S2 → Option MV → Prop} {res : S2} (hP : MClosed (O3 xs L) (kcall (O3 xs L) (d + 6)) kd_M_sum 0 Q P) (hQ : Q res none) (hg_M_sum : ∀ {e : Nat}, d + 4 ≤ e → ∀  (s : S2) {res : S2} {Q : S2 → Option MV → Prop}, g_M_sum  s = some res → Q res none → kcall (O3 xs L) e k_M_sum [mR 60 0] s Q) {k21 : Int32 → S2 → Option S2} (hk21 : ∀ (x1 : Int32) (s : S2), k21 x1 s = some res → P 21 [some (mR 60 0), some (mI x1)] [] s (0, 0)) (y1 : Int32) (x1 : Int32) (s : S2) (h : f_M_sum_L59 g_M_sum k21 y1 s = some res) : P 59 [some (mR 60 0), some (mI x1)] [mI y1, mR 60 0] s (0, 0) := by
  refine mgo_from hP [20, 21, 33, 59, 79] 260 ?_
  obtain ⟨q1, hq, h⟩ := bnd h
  refine go_call (fun _ hw => c_M_put hq hw) ?_
  refine go_brn (fun hc : ¬ ((q1.1 60 0 4) = (Int32.ofInt (-1))) => ?_) (fun hc : (q1.1 60 0 4) = (Int32.ofInt (-1)) => ?_)
  · replace h := (if_neg hc).symm.trans h
    exact c_M_sum_L79 hP hQ hg_M_sum hk21 _ _ _ h
  · replace h := (if_pos hc).symm.trans h
    obtain ⟨q2, hq, h⟩ := bnd h
    refine go_call (fun _ hw => c_M_look hq hw) ?_
    exact c_M_sum_L79 hP hQ hg_M_sum hk21 _ _ _ h
theorem c_M_sum_L33 {xs : Nat → Int32} {L d : Nat} {g_M_sum : S2 → Option S2} {P : MK S2} {Q : S2 → Option MV → Prop} {res : S2} (hP : MClosed (O3 xs L) (kcall (O3 xs L) (d + 6)) kd_M_sum 0 Q P) (hQ : Q res none) (hg_M_sum : ∀ {e : Nat}, d + 4 ≤ e → ∀  (s : S2) {res : S2} {Q : S2 → Option MV → Prop}, g_M_sum  s = some res → Q res none → kcall (O3 xs L) e k_M_sum [mR 60 0] s Q) {k21 : Int32 → S2 → Option S2} (hk21 : ∀ (x1 : Int32) (s : S2), k21 x1 s = some res → P 21 [some (mR 60 0), some (mI x1)] [] s (0, 0)) (x1 : Int32) (s : S2) (h : f_M_sum_L33 g_M_sum k21 x1 s = some res) : P 33 [some (mR 60 0), some (mI x1)] [] s (0, 0) := by
  refine mgo_from hP [20, 21, 33, 59, 79] 260 ?_
  replace h := bnds h
  obtain ⟨q2, hq, h⟩ := bnd h
  refine go_call (fun _ hw => c_M_term (fun he => hg_M_sum (by omega)) hq hw) ?_
  refine go_brn (fun hc : ¬ (x1 = (Int32.ofInt 43)) => ?_) (fun hc : x1 = (Int32.ofInt 43) => ?_)
  · replace h := (if_neg hc).symm.trans h
    exact c_M_sum_L59 hP hQ hg_M_sum hk21 _ _ _ h
  · replace h := (if_pos hc).symm.trans h
    exact c_M_sum_L59 hP hQ hg_M_sum hk21 _ _ _ h
theorem cb_M_sum_L21 {xs : Nat → Int32} {L d : Nat} {g_M_sum : S2 → Option S2} {P : MK S2} {Q : S2 → Option MV → Prop} {res : S2} (hP : MClosed (O3 xs L) (kcall (O3 xs L) (d + 6)) kd_M_sum 0 Q P) (hQ : Q res none) (hg_M_sum : ∀ {e : Nat}, d + 4 ≤ e → ∀  (s : S2) {res : S2} {Q : S2 → Option MV → Prop}, g_M_sum  s = some res → Q res none → kcall (O3 xs L) e k_M_sum [mR 60 0] s Q) {k21 : Int32 → S2 → Option S2} (hk21 : ∀ (x1 : Int32) (s : S2), k21 x1 s = some res → P 21 [some (mR 60 0), some (mI x1)] [] s (0, 0)) (x1 : Int32) (s : S2) (h : b_M_sum_L21 g_M_sum k21 x1 s = some res) : P 21 [some (mR 60 0), some (mI x1)] [] s (0, 0) := by
  refine mgo_from hP [20, 21, 33, 59, 79] 260 ?_
  refine go_br (fun hc : x1 = (Int32.ofInt 43) => ?_) (fun hc : ¬ (x1 = (Int32.ofInt 43)) => ?_)
  · replace h := (if_pos hc).symm.trans h
    exact c_M_sum_L33 hP hQ hg_M_sum hk21 _ _ h
  · replace h := (if_neg hc).symm.trans h
    refine go_brn (fun hc : ¬ (x1 = (Int32.ofInt 45)) => ?_) (fun hc : x1 = (Int32.ofInt 45) => ?_)
    · replace h := (if_neg hc).symm.trans h
      cases h
      exact hQ
    · replace h := (if_pos hc).symm.trans h
      exact c_M_sum_L33 hP hQ hg_M_sum hk21 _ _ h
theorem c_M_sum_L21 {xs : Nat → Int32} {L d : Nat} {g_M_sum : S2 → Option S2} {P : MK S2} {Q : S2 → Option MV → Prop} {res : S2} (hP : MClosed (O3 xs L) (kcall (O3 xs L) (d + 6)) kd_M_sum 0 Q P) (hQ : Q res none) (hg_M_sum : ∀ {e : Nat}, d + 4 ≤ e → ∀  (s : S2) {res : S2} {Q : S2 → Option MV → Prop}, g_M_sum  s = some res → Q res none → kcall (O3 xs L) e k_M_sum [mR 60 0] s Q) : ∀ (fu : Nat) (x1 : Int32) (s : S2), f_M_sum_L21 g_M_sum fu x1 s = some res → P 21 [some (mR 60 0), some (mI x1)] [] s (0, 0)
  | 0, _, _, h => by cases h
  | fu + 1, x1, s, h => cb_M_sum_L21 hP hQ hg_M_sum (c_M_sum_L21 hP hQ hg_M_sum fu) x1 s h
theorem c_M_sum_L20 {xs : Nat → Int32} {L d : Nat} {g_M_sum : S2 → Option S2} {P : MK S2} {Q : S2 → Option MV → Prop} {res : S2} (hP : MClosed (O3 xs L) (kcall (O3 xs L) (d + 6)) kd_M_sum 0 Q P) (hQ : Q res none) (hg_M_sum : ∀ {e : Nat}, d + 4 ≤ e → ∀  (s : S2) {res : S2} {Q : S2 → Option MV → Prop}, g_M_sum  s = some res → Q res none → kcall (O3 xs L) e k_M_sum [mR 60 0] s Q) (y0 : Int32) (s : S2) (h : f_M_sum_L20 g_M_sum y0 s = some res) : P 20 [some (mR 60 0), none] [mI y0] s (0, 0) := by
  refine mgo_from hP [20, 21, 33, 59, 79] 260 ?_
  exact c_M_sum_L21 hP hQ hg_M_sum FU _ _ h
theorem cb_M_sum {xs : Nat → Int32} {L d : Nat} {g_M_sum : S2 → Option S2} {s : S2} {res : S2} {Q : S2 → Option MV → Prop} (hg_M_sum : ∀ {e : Nat}, d + 4 ≤ e → ∀  (s : S2) {res : S2} {Q : S2 → Option MV → Prop}, g_M_sum  s = some res → Q res none → kcall (O3 xs L) e k_M_sum [mR 60 0] s Q) (h : fb_M_sum g_M_sum s = some res) (hQ : Q res none) : kcall (O3 xs L) (d + 7) k_M_sum [mR 60 0] s Q := by
  refine kc_of (cd := kd_M_sum) (mx := 2) (rt := 0) rfl rfl ?_
  intro P hP
  refine mgo_sound hP [20, 21, 33, 59, 79] 260 _ _ _ _ _ ?_
  obtain ⟨q1, hq, h⟩ := bnd h
  refine go_call (fun _ hw => c_M_term (fun he => hg_M_sum (by omega)) hq hw) ?_
  refine go_brn (fun hc : ¬ ((q1.1 60 0 4) = (Int32.ofInt (-1))) => ?_) (fun hc : (q1.1 60 0 4) = (Int32.ofInt (-1)) => ?_)
  · replace h := (if_neg hc).symm.trans h
    exact c_M_sum_L20 hP hQ hg_M_sum _ _ h
  · replace h := (if_pos hc).symm.trans h
    obtain ⟨q2, hq, h⟩ := bnd h
    refine go_call (fun _ hw => c_M_look hq hw) ?_
    exact c_M_sum_L20 hP hQ hg_M_sum _ _ h
theorem cn_M_sum {xs : Nat → Int32} {L : Nat} : ∀ (n : Nat) {e : Nat}, n * 20 + 7 ≤ e → ∀ (s : S2) {res : S2} {Q : S2 → Option MV → Prop}, f_M_sum n s = some res → Q res none → kcall (O3 xs L) e k_M_sum [mR 60 0] s Q
  | 0, _, _, _, _, _, h, _ => by cases h
  | n + 1, e, he, s, res, Q, h, hQ => by
    obtain ⟨d, rfl⟩ : ∃ d, e = d + 7 := ⟨e - 7, by omega⟩
    exact cb_M_sum (fun {e} he => cn_M_sum n (by omega)) h hQ
theorem c_M_sum {xs : Nat → Int32} {L d : Nat} {s : S2} {res : S2} {Q : S2 → Option MV → Prop} (h : f_M_sum 9 s = some res) (hQ : Q res none) : kcall (O3 xs L) (d + 187) k_M_sum [mR 60 0] s Q := cn_M_sum 9 (by omega) _ h hQ
/-! M_compare -/
def f_M_compare_L68 (y1 : Int32) (s : S2) : Option S2 := ((f_M_put y1 (Int32.ofInt 0) s).bind fun q1 => some q1)
def f_M_compare_L16 (y0 : Int32) (s : S2) : Option S2 := (if (bI (g_M_isSign y0 s)) = 0 then ((f_M_bad s).bind fun q3 => some q3) else ((some (pkS s 60 0 3 ((s.1 60 0 3) + (Int32.ofInt 1)))).bind fun s1 => ((f_M_sum 9 s1).bind fun q2 => (if y0 = (Int32.ofInt 61) then (f_M_compare_L68 (Int32.ofInt 6) q2) else (if y0 = (Int32.ofInt 60) then (f_M_compare_L68 (Int32.ofInt 7) q2) else (f_M_compare_L68 (Int32.ofInt 8) q2))))))
def f_M_compare (s : S2) : Option S2 := (if (s.1 60 0 4) = (Int32.ofInt (-1)) then ((f_M_look s).bind fun q1 => (f_M_compare_L16 q1.2 q1.1)) else (f_M_compare_L16 (Int32.ofInt (-1)) s))
theorem c_M_compare_L68 {xs : Nat → Int32} {L d : Nat} {P : MK S2} {Q : S2 → Option MV → Prop} {res : S2} (hP : MClosed (O3 xs L) (kcall (O3 xs L) (d + 187)) kd_M_compare 0 Q P) (hQ : Q res none) (y1 : Int32) (x1 : Int32) (s : S2) (h : f_M_compare_L68 y1 s = some res) : P 68 [some (mR 60 0), some (mI x1)] [mI y1, mR 60 0] s (0, 0) := by
  refine mgo_from hP [16, 68] 260 ?_
  obtain ⟨q1, hq, h⟩ := bnd h
  refine go_call (fun _ hw => c_M_put hq hw) ?_
  cases h
  exact hQ
theorem c_M_compare_L16 {xs : Nat → Int32} {L d : Nat} {P : MK S2} {Q : S2 → Option MV → Prop} {res : S2} (hP : MClosed (O3 xs L) (kcall (O3 xs L) (d + 187)) kd_M_compare 0 Q P) (hQ : Q res none) (y0 : Int32) (s : S2) (h : f_M_compare_L16 y0 s = some res) : P 16 [some (mR 60 0), none] [mI y0] s (0, 0) := by
  refine mgo_from hP [16, 68] 260 ?_
  refine go_call (fun _ hw => c_M_isSign hw) ?_
  refine go_brn (fun hc : ¬ ((bI (g_M_isSign y0 s)) = 0) => ?_) (fun hc : (bI (g_M_isSign y0 s)) = 0 => ?_)
  · replace h := (if_neg hc).symm.trans h
    replace h := bnds h
    obtain ⟨q2, hq, h⟩ := bnd h
    refine go_call (fun _ hw => c_M_sum hq hw) ?_
    refine go_brn (fun hc : ¬ (y0 = (Int32.ofInt 61)) => ?_) (fun hc : y0 = (Int32.ofInt 61) => ?_)
    · replace h := (if_neg hc).symm.trans h
      refine go_brn (fun hc : ¬ (y0 = (Int32.ofInt 60)) => ?_) (fun hc : y0 = (Int32.ofInt 60) => ?_)
      · replace h := (if_neg hc).symm.trans h
        exact c_M_compare_L68 hP hQ _ _ _ h
      · replace h := (if_pos hc).symm.trans h
        exact c_M_compare_L68 hP hQ _ _ _ h
    · replace h := (if_pos hc).symm.trans h
      exact c_M_compare_L68 hP hQ _ _ _ h
  · replace h := (if_pos hc).symm.trans h
    obtain ⟨q3, hq, h⟩ := bnd h
    refine go_call (fun _ hw => c_M_bad hq hw) ?_
    cases h
    exact hQ
theorem c_M_compare {xs : Nat → Int32} {L d : Nat} {s : S2} {res : S2} {Q : S2 → Option MV → Prop} (h : f_M_compare s = some res) (hQ : Q res none) : kcall (O3 xs L) (d + 188) k_M_compare [mR 60 0] s Q := by
  refine kc_of (cd := kd_M_compare) (mx := 2) (rt := 0) rfl rfl ?_
  intro P hP
  refine mgo_sound hP [16, 68] 260 _ _ _ _ _ ?_
  refine go_brn (fun hc : ¬ ((s.1 60 0 4) = (Int32.ofInt (-1))) => ?_) (fun hc : (s.1 60 0 4) = (Int32.ofInt (-1)) => ?_)
  · replace h := (if_neg hc).symm.trans h
    exact c_M_compare_L16 hP hQ _ _ h
  · replace h := (if_pos hc).symm.trans h
    obtain ⟨q1, hq, h⟩ := bnd h
    refine go_call (fun _ hw => c_M_look hq hw) ?_
    exact c_M_compare_L16 hP hQ _ _ h
