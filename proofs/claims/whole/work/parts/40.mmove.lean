/-! ===== all go: the reference ===== -/
def MP (c i k : Nat) : Bool := MD c i k || (c == 79 || (c == 80 || (c == 81 || (c == 82 || (c == 83 || (c == 89 || (c == 90 || (c == 60 && (k == 36 || (k == 37 || (k == 50 || (k == 51 || k == 52))))))))))))
theorem MP_MD {c i k : Nat} (h : MP c i k = false) : MD c i k = false := (Bool.or_eq_false_iff.mp h).1
theorem MX_MP {I T B : Nat} {W : Option WF6} {on : Nat → Bool} {x : XT} {e : Nat} {w : Nat → Int32} {s s' : S2} (h : MX I T B W on x e w s) (hF : Fr MP s s') : MX I T B W on x e w s' := MX_fr h hF (fun _ => ⟨rfl, rfl, rfl, rfl, rfl, rfl, rfl, rfl, rfl, rfl⟩) ⟨rfl, rfl, rfl, rfl, rfl, rfl⟩
/-- the reference's state, its places put in -/
theorem RS_put {I T B : Nat} {v : Nat → Int32} {s : S2} (hr : RS I T B v s) {a : Nat} (ha : a < I) (h6 : I ≤ 6) (x y : Int32) : RS I T B (upd (upd v a x) (6 + a) y) (pkS (pkS s 79 0 a x) 80 0 a y) := by
  obtain ⟨r1, r2, ⟨m, m1, m2, m3⟩, r4⟩ := hr
  refine ⟨fun b hb => ?_, fun t ht => ?_, ⟨m, m1, ?_, fun b hb => ?_⟩, ?_⟩
  · obtain ⟨g1, g2, g3, g4, g5, g6⟩ := r1 b hb
    simp only [pkS_v, Nat.reduceEqDiff, false_and, if_false, true_and]
    refine ⟨?_, ?_, ?_, ?_, ?_, ?_⟩
    · rw [upd_ne _ _ (by omega)]
      unfold upd
      by_cases c : b = a
      · simp [c]
      · simp [c, g1]
    · unfold upd
      by_cases c : b = a
      · simp [c]
      · rw [if_neg (by omega), if_neg (by omega), if_neg c]; exact g2
    · rw [upd_ne _ _ (by omega), upd_ne _ _ (by omega)]; exact g3
    · rw [upd_ne _ _ (by omega), upd_ne _ _ (by omega)]; exact g4
    · rw [upd_ne _ _ (by omega), upd_ne _ _ (by omega)]; exact g5
    · rw [upd_ne _ _ (by omega), upd_ne _ _ (by omega)]; exact g6
  · rw [upd_ne _ _ (by omega), upd_ne _ _ (by omega), pkS_v, if_neg (by omega), pkS_v, if_neg (by omega)]; exact r2 t ht
  · rw [pkS_v, if_neg (by omega), pkS_v, if_neg (by omega)]; exact m2
  · rw [upd_ne _ _ (by omega), upd_ne _ _ (by omega)]; exact m3 b hb
  · rw [upd_ne _ _ (by omega), upd_ne _ _ (by omega), pkS_v, if_neg (by omega), pkS_v, if_neg (by omega)]; exact r4
/-- where all were -/
def WM9 (u : Nat → Int32) (n : Nat) (s : S2) : Prop := ∀ a, a < n → s.1 89 0 a = u a ∧ s.1 90 0 a = u (6 + a)
def K89 (c _ _ : Nat) : Bool := c == 89 || c == 90
theorem RS_89 {I T B : Nat} {v : Nat → Int32} {s s' : S2} (hr : RS I T B v s) (hF : Fr K89 s s') : RS I T B v s' := RS_fr hr (hF.arr fun _ => rfl) (hF.arr fun _ => rfl) (hF.arr fun _ => rfl) (hF.arr fun _ => rfl) (hF.arr fun _ => rfl) (hF.arr fun _ => rfl) (hF.arr fun _ => rfl) (hF.1 _ _ _ rfl) (hF.1 _ _ _ rfl)
theorem RS_52 {I T B : Nat} {v : Nat → Int32} {s : S2} (hr : RS I T B v s) {k : Nat} (hk : ¬ k = 36) (hk' : ¬ k = 37) (x : Int32) : RS I T B v (pkS s 60 0 k x) := by
  have h : ∀ c, ¬ c = 60 → (pkS s 60 0 k x).1 c 0 = s.1 c 0 := fun c hc => by rw [pkS_1, if_neg (by omega)]
  exact RS_fr hr (h 79 (by omega)) (h 80 (by omega)) (h 81 (by omega)) (h 82 (by omega)) (h 83 (by omega)) (h 76 (by omega)) (h 77 (by omega)) (by rw [pkS_v, if_neg (by omega)]) (by rw [pkS_v, if_neg (by omega)])
theorem fm_goL {s0 : S2} {I T B : Nat} {v : Nat → Int32} {d : D2} (hv : VS I v) : ∀ (m k fu : Nat) (s : S2), k + m = I → m < fu → s.1 60 0 28 = nI I → RS I T B (mvS I v d k) s → DM d s → s.1 60 0 52 = goS I v d k → WM9 v k s → Fr MP s0 s → ∃ s', f_M_goAll_L11 fu (nI k) s = some s' ∧ RS I T B (mvS I v d I) s' ∧ s'.1 60 0 52 = goS I v d I ∧ WM9 v I s' ∧ Fr MP s0 s' := by
  intro m
  induction m with
  | zero =>
    intro k fu s hk hf hI hr hd hg hw hF
    obtain ⟨f, rfl, hf'⟩ := suc_of hf
    have h6 := hv.1
    have e : k = I := by omega
    subst e
    refine ⟨s, ?_, hr, hg, hw, hF⟩
    show b_M_goAll_L11 _ _ _ = _
    unfold b_M_goAll_L11
    rw [hI, if_pos (nI_le (by omega) (by omega))]
  | succ m ih =>
    intro k fu s hk hf hI hr hd hg hw hF
    obtain ⟨f, rfl, hf'⟩ := suc_lt hf
    have h6 := hv.1
    have hvk : VS I (mvS I v d k) := VS_mv hv k (by omega)
    have lo := mvS_lo (I := I) (v := v) (d := d) (Nat.le_refl k) (show k < 6 by omega)
    have hrk := hr.1 k (by omega)
    have hsx : s.1 79 0 k = v k := by rw [← hrk.1, lo.1]
    have hsy : s.1 80 0 k = v (6 + k) := by rw [← hrk.2.1, lo.2]
    have F2 : Fr MP s (pkS (pkS s 89 0 k (v k)) 90 0 k (v (6 + k))) := ((Fr.refl _ _).pk' _ rfl).pk' _ rfl
    have F2' : Fr K89 s (pkS (pkS s 89 0 k (v k)) 90 0 k (v (6 + k))) := ((Fr.refl _ _).pk' _ rfl).pk' _ rfl
    have hr2 := RS_89 hr F2'
    have hI2 : (pkS (pkS s 89 0 k (v k)) 90 0 k (v (6 + k))).1 60 0 28 = nI I := (F2.1 _ _ _ rfl).trans hI
    have hih : isH I (mvS I v d k) k = isH I v k := isH_of (fun j h _ => mvS_hi h k (by omega)) (by omega)
    have hw2 : WM9 v (k + 1) (pkS (pkS s 89 0 k (v k)) 90 0 k (v (6 + k))) := fun a ha => by
      simp only [pkS_v, Nat.reduceEqDiff, false_and, if_false, true_and]
      by_cases c : a = k
      · simp [c]
      · have := hw a (by omega)
        simp [c, this.1, this.2]
    show ∃ s', b_M_goAll_L11 _ _ _ = _ ∧ _
    unfold b_M_goAll_L11 f_M_goAll_L151
    rw [hI, if_neg (nI_ge (by omega) (by omega))]
    simp (disch := omega) only [ix_nI, Option.bind_some, pkS_1, Nat.reduceEqDiff, false_and, if_false, and_true, if_true, upd_eq, hsx, hsy]
    rw [fm_isHead hI2 hvk hr2 (by omega), Option.bind_some, hih, of_1, nI_add]
    cases hh : isH I v k with
    | false =>
      rw [if_pos (by decide)]
      refine ih (k + 1) f _ (by omega) hf' hI2 ?_ (fun j hj => ⟨(F2'.1 _ _ _ rfl).trans (hd j hj).1, (F2'.1 _ _ _ rfl).trans (hd j hj).2⟩) ?_ hw2 (hF.trans F2)
      · show RS I T B (if isH I v k then _ else mvS I v d k) _
        rw [hh]; exact hr2
      · rw [F2'.1 _ _ _ rfl, hg]
        show _ = if isH I v k then _ else goS I v d k
        rw [hh]; rfl
    | true =>
      rw [if_neg (by decide)]
      obtain ⟨ms, m1, m2, m3⟩ := hv.2.2.2 k (by omega)
      have hsm : s.1 81 0 k = nI ms := by rw [← hrk.2.2.1, mvS_hi (by omega) k (by omega)]; exact m3
      have hdd := hd k (by omega)
      have hm0 : ¬ ms = 0 := by omega
      simp (disch := omega) only [hsm, hdd.1, hdd.2, nI_is0, clp_within]
      rw [if_neg hm0, if_neg hm0]
      have hr3 := RS_put hr2 (show k < I by omega) h6 (clp (v k + d.1 k / nI ms)) (clp (v (6 + k) + d.2 k / nI ms))
      have emv : upd (upd (mvS I v d k) k (clp (v k + d.1 k / nI ms))) (6 + k) (clp (v (6 + k) + d.2 k / nI ms)) = mvS I v d (k + 1) := by
        show _ = if isH I v k then _ else mvS I v d k
        rw [hh, if_pos rfl, m3]
      rw [emv] at hr3
      have F3 : Fr MP s (pkS (pkS (pkS (pkS s 89 0 k (v k)) 90 0 k (v (6 + k))) 79 0 k (clp (v k + d.1 k / nI ms))) 80 0 k (clp (v (6 + k) + d.2 k / nI ms))) := (F2.pk' _ rfl).pk' _ rfl
      have e52 : s.1 60 0 52 = goS I v d k := hg
      refine ih (k + 1) f _ (by omega) hf' ?_ (RS_52 hr3 (by omega) (by omega) _) (fun j hj => ?_) ?_ (fun a ha => ?_) (hF.trans (F3.pk' _ rfl))
      · rw [pkS_v, if_neg (by omega)]; exact (F3.1 _ _ _ rfl).trans hI
      · simp only [pkS_v, Nat.reduceEqDiff, false_and, if_false]; exact hd j hj
      · rw [pkS_v, if_pos ⟨rfl, rfl, rfl⟩]
        show _ = if isH I v k then _ else goS I v d k
        rw [hh, if_pos rfl, m3, e52]
      · simp only [pkS_v, Nat.reduceEqDiff, false_and, if_false]
        have := hw2 a ha
        simp only [pkS_v, Nat.reduceEqDiff, false_and, if_false] at this
        exact this
theorem mvS_I {I : Nat} {v : Nat → Int32} {d : D2} : ∀ m, mvS I v d (I + m) = mvS I v d I ∧ goS I v d (I + m) = goS I v d I
  | 0 => ⟨rfl, rfl⟩
  | m + 1 => by
    have hn : isH I v (I + m) = false := by
      unfold isH
      rw [decide_eq_false (show ¬ I + m < I by omega)]; rfl
    have ih := mvS_I (I := I) (v := v) (d := d) m
    constructor
    · show (if isH I v (I + m) then _ else mvS I v d (I + m)) = _
      rw [hn]; exact ih.1
    · show (if isH I v (I + m) then _ else goS I v d (I + m)) = _
      rw [hn]; exact ih.2
theorem fm_goAll {s : S2} {I T B : Nat} {W : Option WF6} {on : Nat → Bool} {x : XT} {e : Nat} {v w : Nat → Int32} (hv : VS I v) (hX : MX I T B W on x e w s) (hr : RS I T B v s) : ∃ s', f_M_goAll s = some s' ∧ RS I T B (mvS I v (drS I T W v w on x e) 6) s' ∧ s'.1 60 0 52 = goS I v (drS I T W v w on x e) 6 ∧ WM9 v I s' ∧ Fr MP s s' := by
  obtain ⟨s1, a1, a2, a3⟩ := fm_layDrawn hv hX hr
  have F1 : Fr MP s s1 := a3.mono fun _ _ _ => MP_MD
  have hr1 := RS_MD hr a3
  unfold f_M_goAll
  rw [a1, Option.bind_some, Option.bind_some, of_0]
  have F2 : Fr MP s (pkS s1 60 0 52 0) := F1.pk' _ rfl
  obtain ⟨s', b1, b2, b3, b4, b5⟩ := fm_goL (s0 := s) (d := drS I T W v w on x e) hv I 0 FU (pkS s1 60 0 52 0) (by omega) (lt_FU (by have := hv.1; omega)) ((F2.1 _ _ _ rfl).trans hX.2.1.1) (RS_52 hr1 (by omega) (by omega) _) (fun j hj => by rw [pkS_v, if_neg (by omega), pkS_v, if_neg (by omega)]; exact a2 j hj) (by rw [pkS_v, if_pos ⟨rfl, rfl, rfl⟩]; rfl) (fun a ha => by omega) F2
  have e6 : I + (6 - I) = 6 := by have := hv.1; omega
  have := mvS_I (I := I) (v := v) (d := drS I T W v w on x e) (6 - I)
  rw [e6] at this
  rw [nI_0] at b1
  exact ⟨s', b1, by rw [this.1]; exact b2, by rw [this.2]; exact b3, b4, b5⟩
