/-! ===== the worth of a rule, both sides ===== -/
section
variable {s s' t : S2} {tp : Nat → Nat} {n : Nat}
theorem wo_run {need N p e : Nat} {L : List Nat} {f : ENF} (hf : MMX need L f) (hn : need ≤ 32) (hN : N < 5) (he : e = p + L.length) (h520 : e ≤ 520) (hc : MCO N p L t) : ∃ t', f_M_workOut (nI N) (nI p) (nI e) t = some (t', f (E6 (t.1 69 0))) ∧ Fr M70 t t' := by
  obtain ⟨t1, a1, a2, a3, a4⟩ := hf N p 0 (99999 - L.length + 1) e t hN (by omega) (by omega) h520 hc
  refine ⟨t1, ?_, a2⟩
  unfold f_M_workOut
  rw [of_520, mul_nI, nI_add, show Int32.ofInt 0 = nI 0 from of_0, show FU = 99999 - L.length + 1 + L.length by show 100000 = _; omega, a1, wm_s]
  unfold b_M_workOut_L12
  rw [of_520, mul_nI, nI_add, if_pos (nI_le (by omega) (by omega)), a4]
theorem cod_nil {N p : Nat} : COD N p [] t := fun k hk => absurd hk (Nat.not_lt_zero _)
def LWC (F : ENF) (l : List CLA) : Prop := ∀ (N p fu len : Nat) (t : S2), (encL l).length < fu → t.1 17 N 2 = nI len → len ≤ 241 → p + (encL l).length = len → COD N p (encL l) t → ∃ t', f_Rule_worth_L7 N 32 0 6 fu (nI 0) (nI 0) (nI p) t = some (t', F (E6 (t.1 32 0))) ∧ Fr K19 t t'
def LWM (F : ENF) (l : List CLA) : Prop := ∀ (N p j fu : Nat) (t : S2), N < 5 → l.length < fu → j + l.length ≤ 140 → p + (encM l).length ≤ 520 → t.1 65 0 N = nI (j + l.length) → MCl N p j l t → MCO N p (encM l) t → ∃ t', f_M_worthOf_L6 fu (nI N) (nI (140 * N + j)) t = some (t', F (E6 (t.1 69 0))) ∧ Fr M70 t t'
theorem cod_e {N p : Nat} {L : List Nat} {c : Nat} {R : List Nat} (h : COD N p (L ++ c :: R) t) : t.1 18 N (p + L.length) = nI c ∧ COD N (p + L.length + 1) R t := by
  have h1 := cod_r h
  refine ⟨h1 0 (Nat.zero_lt_succ _), fun k hk => ?_⟩
  have := h1 (k + 1) (Nat.succ_lt_succ hk)
  rw [List.getElem?_cons_succ, show p + L.length + (k + 1) = p + L.length + 1 + k by omega] at this
  exact this
/-- a sum at a clause's end, the class -/
theorem lc_sum {need N p fu len : Nat} {S R : List Nat} {f : ENF} (hf : CMX need S f) (hn : need ≤ 32) (hfu : S.length + 1 < fu) (hlen : t.1 17 N 2 = nI len) (h241 : len ≤ 241) (hp : p + S.length < len) (hc : COD N p (S ++ 59 :: R) t) : ∃ t', f_Rule_worth_L7 N 32 0 6 fu (nI 0) (nI 0) (nI p) t = some (t', f (E6 (t.1 32 0))) ∧ Fr K19 t t' := by
  obtain ⟨t1, a1, a2, a3, a4⟩ := hf N p 0 (fu - S.length - 1 + 1) len t (by omega) hlen h241 (by omega) (cod_l hc)
  refine ⟨t1, ?_, a2⟩
  rw [show fu = fu - S.length - 1 + 1 + S.length by omega, a1, wl_s, cs_end (len := len) ((a2.1 17 N 2 rfl).trans hlen) h241 hp (cod_fr hc a2 |> cod_e).1, a4]
theorem law_w : ∀ (l : List CLA), (∀ c, c ∈ l → CLQ QX c) → ∃ F : ENF, LWC F l ∧ LWM F l := by
  intro l
  induction l with
  | nil =>
    intro _
    refine ⟨fun _ => 0, fun N p fu len t hfu hlen h241 hp hc => ?_, fun N p j fu t hN hfu hj hp h65 hC hM => ?_⟩
    · obtain ⟨g, rfl, -⟩ := suc_of hfu
      have hp : p + 0 = len := hp
      refine ⟨t, ?_, Fr.refl _ _⟩
      rw [wl_s]
      unfold b_Rule_worth_L7
      rw [hlen, if_pos (nI_le (by omega) (by omega)), of_0]
    · obtain ⟨g, rfl, -⟩ := suc_of hfu
      have h65 : t.1 65 0 N = nI j := h65
      refine ⟨t, ?_, Fr.refl _ _⟩
      show b_M_worthOf_L6 _ _ _ _ = _
      unfold b_M_worthOf_L6
      rw [ix_nI (n := 5) (k := N) hN (by omega), Option.bind_some, of_140, mul_nI, h65, nI_add, if_pos (nI_le (by omega) (by omega)), of_0]
  | cons c l ih =>
    intro hq
    obtain ⟨F, hC, hM⟩ := ih fun d hd => hq d (List.mem_cons_of_mem _ hd)
    obtain ⟨q1, q2⟩ := hq c List.mem_cons_self
    obtain ⟨T?, S⟩ := c
    have q2 : QX false 15 S := q2
    obtain ⟨s1, s2, s3, fS, s4, s5, s6⟩ := q2
    cases T? with
    | none =>
      refine ⟨fS, fun N p fu len t hfu hlen h241 hp hc => ?_, fun N p j fu t hN hfu hj hp h65 hCl hMc => ?_⟩
      · have hfu : (S ++ 59 :: encL l).length < fu := hfu
        have hp : p + (S ++ 59 :: encL l).length = len := hp
        have hc : COD N p (S ++ 59 :: encL l) t := hc
        rw [List.length_append, List.length_cons] at hfu hp
        exact lc_sum s5 (by omega) (by omega) hlen h241 (by omega) hc
      · obtain ⟨g, rfl, hg⟩ := suc_of hfu
        have hj : j + (l.length + 1) ≤ 140 := hj
        have h65 : t.1 65 0 N = nI (j + (l.length + 1)) := h65
        have hp : p + (S ++ encM l).length ≤ 520 := hp
        rw [List.length_append] at hp
        obtain ⟨⟨x1, x2, x3⟩, -⟩ := hCl
        have x2 : t.1 67 0 (140 * N + j) = nI p := x2
        have x3 : t.1 68 0 (140 * N + j) = nI (p + S.length) := x3
        obtain ⟨t', w1, w2⟩ := wo_run (p := p) s6 (by omega) hN rfl (by omega) (mco_l (L := S) (L' := encM l) hMc)
        refine ⟨t', ?_, w2⟩
        show b_M_worthOf_L6 _ _ _ _ = _
        unfold b_M_worthOf_L6 f_M_worthOf_L57
        rw [ix_nI (n := 5) (k := N) hN (by omega), Option.bind_some, of_140, mul_nI, h65, nI_add, if_neg (nI_ge (by omega) (by omega)), ix_nI (n := 700) (k := 140 * N + j) (by omega) (by omega), Option.bind_some, Option.bind_some, x1, x2, if_pos rfl, Option.bind_some, Option.bind_some, x2, x3, w1, Option.bind_some]
    | some T =>
      have q1 : QX true 18 T := q1 T rfl
      obtain ⟨r1, r2, r3, fT, r4, r5, r6⟩ := q1
      refine ⟨fun E => if fT E = 0 then F E else fS E, fun N p fu len t hfu hlen h241 hp hc => ?_, fun N p j fu t hN hfu hj hp h65 hCl hMc => ?_⟩
      · have hc : COD N p ((T ++ 63 :: S) ++ 59 :: encL l) t := hc
        have hfu : ((T ++ 63 :: S) ++ 59 :: encL l).length < fu := hfu
        have hp : p + ((T ++ 63 :: S) ++ 59 :: encL l).length = len := hp
        rw [List.append_assoc, List.cons_append] at hc
        rw [List.length_append, List.length_append, List.length_cons, List.length_cons] at hfu hp
        obtain ⟨t1, a1, a2, a3, a4⟩ := r5 N p 0 (fu - T.length - 1 + 1) len t (by omega) hlen h241 (by omega) (cod_l hc)
        have hc1 := cod_fr hc a2
        obtain ⟨e63, hcS⟩ := cod_e hc1
        have hl1 := (a2.1 17 N 2 rfl).trans hlen
        have e32 : t1.1 32 0 = t.1 32 0 := a2.arr fun _ => rfl
        have hgo := cs_test (k := f_Rule_worth_L7 N 32 0 6 (fu - T.length - 1)) (len := len) hl1 h241 (by omega) e63
        rw [a4] at hgo
        by_cases z : fT (E6 (t.1 32 0)) = 0
        · obtain ⟨e59, hcL⟩ := cod_e hcS
          rw [if_pos z] at hgo
          have hec := sk_find (N := N) (h := 0) (len := len) hl1 h241 S.length (p + T.length + 1) (fu - T.length - 1 - S.length - 1) (by omega) (fun k hk => by
            obtain ⟨u1, u2⟩ := s3 k hk
            exact ⟨S[k]?.getD 0, u2, u1, cod_l hcS k hk⟩) e59
          obtain ⟨t', b1, b2⟩ := hC N (p + T.length + 1 + S.length + 1) (fu - T.length - 1 - S.length - 1) len t1 (by omega) hl1 h241 (by omega) hcL
          refine ⟨t', ?_, a2.trans b2⟩
          show _ = some (t', if fT (E6 (t.1 32 0)) = 0 then F (E6 (t.1 32 0)) else fS (E6 (t.1 32 0)))
          rw [if_pos z, show fu = fu - T.length - 1 + 1 + T.length by omega, a1, wl_s]
          refine hgo.trans ?_
          rw [show fu - T.length - 1 = fu - T.length - 1 - S.length - 1 + 1 + S.length by omega, hec, b1, e32]
        · rw [if_neg z] at hgo
          obtain ⟨t', b1, b2⟩ := lc_sum (fu := fu - T.length - 1) s5 (by omega) (by omega) hl1 h241 (by omega) hcS
          refine ⟨t', ?_, a2.trans b2⟩
          rw [b1, e32] at hgo
          show _ = some (t', if fT (E6 (t.1 32 0)) = 0 then F (E6 (t.1 32 0)) else fS (E6 (t.1 32 0)))
          rw [if_neg z, show fu = fu - T.length - 1 + 1 + T.length by omega, a1, wl_s]
          exact hgo
      · obtain ⟨g, rfl, hg⟩ := suc_of hfu
        have hj : j + (l.length + 1) ≤ 140 := hj
        have hg : l.length + 1 ≤ g := hg
        have h65 : t.1 65 0 N = nI (j + (l.length + 1)) := h65
        have hp : p + ((T ++ S) ++ encM l).length ≤ 520 := hp
        have hMc : MCO N p ((T ++ S) ++ encM l) t := hMc
        rw [List.length_append, List.length_append] at hp
        obtain ⟨⟨x1, x2, x3⟩, x4⟩ := hCl
        have x2 : t.1 67 0 (140 * N + j) = nI (p + T.length) := x2
        have x3 : t.1 68 0 (140 * N + j) = nI (p + (T ++ S).length) := x3
        have x4 : MCl N (p + (T ++ S).length) (j + 1) l t := x4
        rw [List.length_append] at x3 x4
        obtain ⟨t1, w1, w2⟩ := wo_run (p := p) r6 (by omega) hN rfl (by omega) (mco_l (mco_l hMc))
        have e69 : t1.1 69 0 = t.1 69 0 := w2.arr fun _ => rfl
        have hMr := mco_r hMc
        rw [List.length_append] at hMr
        have eb : f_M_worthOf_L6 (g + 1) (nI N) (nI (140 * N + j)) t = (if fT (E6 (t.1 69 0)) = 0 then f_M_worthOf_L6 g (nI N) (nI (140 * N + (j + 1))) t1 else f_M_worthOf_L57 (nI N) (nI (140 * N + j)) t1) := by
          show b_M_worthOf_L6 _ _ _ _ = _
          unfold b_M_worthOf_L6
          rw [ix_nI (n := 5) (k := N) hN (by omega), Option.bind_some, of_140, mul_nI, h65, nI_add, if_neg (nI_ge (by omega) (by omega)), ix_nI (n := 700) (k := 140 * N + j) (by omega) (by omega), Option.bind_some, Option.bind_some, x1, x2, if_neg (fun z => by have := (nI_eq (by omega) (by omega)).mp z; omega), Option.bind_some, Option.bind_some, x1, x2, w1, Option.bind_some, of_1, nI_add, show 140 * N + j + 1 = 140 * N + (j + 1) by omega]
        rw [eb]
        show ∃ t', _ = some (t', if fT (E6 (t.1 69 0)) = 0 then F (E6 (t.1 69 0)) else fS (E6 (t.1 69 0))) ∧ _
        by_cases z : fT (E6 (t.1 69 0)) = 0
        · rw [if_pos z, if_pos z]
          have hCl1 : MCl N (p + (T.length + S.length)) (j + 1) l t1 := by
            have hmr : ∀ (l : List CLA) (p j : Nat), MCl N p j l t → MCl N p j l t1 := by
              intro l
              induction l with
              | nil => intro p j _; trivial
              | cons d l ih2 =>
                intro p j h
                exact ⟨⟨(w2.1 66 0 _ rfl).trans h.1.1, (w2.1 67 0 _ rfl).trans h.1.2.1, (w2.1 68 0 _ rfl).trans h.1.2.2⟩, ih2 _ _ h.2⟩
            exact hmr _ _ _ x4
          obtain ⟨t', b1, b2⟩ := hM N (p + (T.length + S.length)) (j + 1) g t1 hN hg (by omega) (by omega) (by rw [w2.1 65 0 N rfl, h65, show j + (l.length + 1) = j + 1 + l.length by omega]) hCl1 (mco_fr hMr w2)
          rw [e69] at b1
          exact ⟨t', b1, w2.trans b2⟩
        · rw [if_neg z, if_neg z]
          obtain ⟨t', b1, b2⟩ := wo_run (t := t1) (p := p + T.length) (e := p + T.length + S.length) s6 (by omega) hN rfl (by omega) (mco_fr (mco_r (mco_l hMc)) w2)
          rw [e69] at b1
          refine ⟨t', ?_, w2.trans b2⟩
          unfold f_M_worthOf_L57
          rw [ix_nI (n := 700) (k := 140 * N + j) (by omega) (by omega), Option.bind_some, Option.bind_some, w2.1 67 0 _ rfl, w2.1 68 0 _ rfl, x2, x3, show p + (T.length + S.length) = p + T.length + S.length by omega, b1, Option.bind_some]
end
