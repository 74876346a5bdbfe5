/-! ===== fits ===== -/
section
variable {I T B R : Nat} {W : Option WF6} {s s0 : S2} {w v : Nat → Int32} {on : Nat → Bool} {x : XT} {e : Nat}
theorem sh9 : ∀ k, k < 9 → nI 1 <<< (nI k &&& 31) = nI (2 ^ k) := by decide +kernel
def lfN (T m : Nat) : Nat := (2 ^ T - 1) &&& (255 - m)
theorem lf_and : ∀ T, T < 9 → ∀ m, m < 256 → (nI (2 ^ T - 1)) &&& (nI m ^^^ (-1)) = nI (lfN T m) := by decide +kernel
theorem lf_bit : ∀ T, T < 9 → ∀ m, m < 256 → ∀ t, t < 8 → t < T → (lfN T m).testBit t = !m.testBit t := by decide +kernel
theorem lf_lt (T m : Nat) : lfN T m < 2 ^ 31 := by
  unfold lfN
  exact Nat.lt_of_le_of_lt Nat.and_le_right (by omega)
/-- all numbers from k on -/
def rgL : Nat → Nat → List Nat
  | 0, _ => []
  | m + 1, k => k :: rgL m (k + 1)
theorem rgL_len : ∀ m k, (rgL m k).length = m := by
  intro m
  induction m with
  | zero => intro k; rfl
  | succ m ih => intro k; show (rgL m (k + 1)).length + 1 = m + 1; rw [ih]
theorem KPj_KS {j c i k : Nat} (hj : j = 2 ∨ j = 3 ∨ j = 4) (h : KS c i k = false) : KP j c i k = false := by
  have h2 := KP2_KS h
  unfold KP at h2 ⊢
  obtain ⟨g1, g2⟩ := Bool.or_eq_false_iff.mp h2
  obtain ⟨g3, g4⟩ := Bool.or_eq_false_iff.mp g2
  rw [g1, g4]
  unfold KS at h
  simp only [Bool.or_eq_false_iff] at h
  have h5 := h.2.2.2.2
  cases q : c == 21 with
  | false => rfl
  | true =>
    rw [q] at h5
    simp only [Bool.true_and, Bool.or_eq_false_iff] at h5
    rcases hj with rfl | rfl | rfl
    · rw [h5.1]; rfl
    · rw [h5.2.1]; rfl
    · rw [h5.2.2]; rfl
theorem CQc_KS {c : Nat} {q : CQT} {s' : S2} (h : CQc c q s) (hF : Fr KS s s') : CQc c q s' := by
  unfold CQc at h ⊢
  rw [hF.1 49 0 8 rfl, hF.arr (c := 50) (i := 0) fun _ => rfl, hF.arr (c := 51) (i := 0) fun _ => rfl, hF.arr (c := 52) (i := 0) fun _ => rfl, hF.arr (c := 53) (i := 0) fun _ => rfl]
  exact h
theorem CQm_fr {c : Nat} {q : CQT} {s' : S2} {K : Nat → Nat → Nat → Bool} (h : CQm c q s) (hF : Fr K s s') (h0 : K 60 0 76 = false) (hK : ∀ k, K 97 0 k = false ∧ K 98 0 k = false ∧ K 99 0 k = false ∧ K 100 0 k = false) : CQm c q s' := by
  unfold CQm at h ⊢
  rw [hF.1 60 0 76 h0, hF.arr fun k => (hK k).1, hF.arr fun k => (hK k).2.1, hF.arr fun k => (hK k).2.2.1, hF.arr fun k => (hK k).2.2.2]
  exact h
theorem CX_of {s1 : S2} (h : INV I T B R W s) (hF : Fr KS s s1) (hc : CF I T on x e s1) : CX I T B W on x e (s.1 14 0) s1 := by
  have h1 := INV_KS h hF
  exact ⟨h.1.2.2.1, hF.arr fun _ => rfl, h1.1.2.2.2.1, hc, HLD_HC h1.2.1⟩
/-- a set of ties fits -/
def ftP (I T B : Nat) (W : Option WF6) (w v : Nat → Int32) (c : Nat) (q : CQT) (m : Nat) : Bool := agS q c (seX I T B W m.testBit xN 0 w v) (lsN q c) 1
theorem fc_ftL {c : Nat} {q : CQT} {i : Int32} (h : INV I T B R W s0) (hq : CQ I c q) (hv : VS I v) : ∀ (m k fu f : Nat) (s : S2), k + m = 2 ^ T → m < fu → Fr KS s0 s → CQc c q s → mkV (s0.1 21 0) (s.1 21 4) = v → ∃ s', f_Charts_fittingSet_L4 fu i (nI f) (nI k) s = some (s', reS i (ruL (ftP I T B W (s0.1 14 0) v c q) i (rgL m k) f)) ∧ Fr KS s0 s' := by
  obtain ⟨h6, h8, h4⟩ := h.1.2.2.1.1
  have hp : 2 ^ T ≤ 2 ^ 8 := Nat.pow_le_pow_right (by omega) h8
  intro m
  induction m with
  | zero =>
    intro k fu f s hk hf hF hc hm
    obtain ⟨g, rfl, hf'⟩ := suc_of hf
    show ∃ s', b_Charts_fittingSet_L4 _ _ _ _ _ = some (s', if i = -1 then nI f else -1) ∧ _
    unfold b_Charts_fittingSet_L4
    rw [show g_Sea_ties 0 s = nI T from (hF.1 15 0 2 rfl).trans h.1.2.2.2.1.2.1, of_1, sh9 T (by omega), if_pos (nI_le (by omega) (by omega)), of_m1]
    by_cases d : i = -1
    · rw [if_pos d, if_pos d]; exact ⟨s, rfl, hF⟩
    · rw [if_neg d, if_neg d]; exact ⟨s, rfl, hF⟩
  | succ m ih =>
    intro k fu f s hk hf hF hc hm
    obtain ⟨g, rfl, hf'⟩ := suc_lt hf
    obtain ⟨t, ht⟩ : ∃ t, pkS (pkS s 31 0 12 (nI k)) 31 0 13 (nI 0) = t := ⟨_, rfl⟩
    have Ft : Fr KS s t := by rw [← ht]; exact ((Fr.refl KS s).pk' _ rfl).pk' _ rfl
    have hX : CX I T B W k.testBit xN 0 (s0.1 14 0) t := CX_of h (hF.trans Ft) ⟨⟨k, by omega, by rw [← ht, pkS_v, if_neg (by omega), pkS_v, if_pos ⟨rfl, rfl, rfl⟩], fun _ _ => rfl⟩, by rw [← ht, pkS_v, if_pos ⟨rfl, rfl, rfl⟩], by omega, fun j hj => by omega⟩
    obtain ⟨s1, a1, a2, a3⟩ := fc_areSo (u := s0.1 21 0) h6 h4 hq hX (CQc_KS hc Ft) hv ((Ft.arr fun _ => rfl).trans (hF.arr fun _ => rfl)) (by
      rw [← ht, pkS_1, if_neg (by omega), pkS_1, if_neg (by omega)]
      exact hm)
    have F1 : Fr KS s s1 := Ft.trans (a2.mono fun _ _ _ => KPj_KS (Or.inr (Or.inr rfl)))
    have n1 := ih (k + 1) g f s1 (by omega) hf' (hF.trans F1) (CQc_KS hc F1) a3
    have n2 := ih (k + 1) g (f + 1) s1 (by omega) hf' (hF.trans F1) (CQc_KS hc F1) a3
    show ∃ s', b_Charts_fittingSet_L4 _ _ _ _ _ = some (s', reS i (if ftP I T B W (s0.1 14 0) v c q k then (if nI f = i then Sum.inl k else ruL (ftP I T B W (s0.1 14 0) v c q) i (rgL m (k + 1)) (f + 1)) else ruL (ftP I T B W (s0.1 14 0) v c q) i (rgL m (k + 1)) f)) ∧ _
    unfold b_Charts_fittingSet_L4 f_Charts_fittingSet_L42 f_Course_drawBySet
    rw [show g_Sea_ties 0 s = nI T from (hF.1 15 0 2 rfl).trans h.1.2.2.2.1.2.1, of_1, sh9 T (by omega), if_neg (nI_ge (by omega) (by omega)), show Int32.ofInt 0 = nI 0 from of_0, Option.bind_some, Option.bind_some, Option.bind_some, ht, a1, Option.bind_some, nI_add, nI_add]
    rw [show agS q c (seX I T B W k.testBit xN 0 (s0.1 14 0) v) (lsN q c) 1 = ftP I T B W (s0.1 14 0) v c q k from rfl]
    cases d : ftP I T B W (s0.1 14 0) v c q k with
    | false =>
      rw [ifF, if_neg (by decide)]
      exact n1
    | true =>
      rw [ifT, if_pos rfl]
      by_cases g1 : nI f = i
      · rw [if_pos g1, if_pos g1]
        exact ⟨s1, rfl, hF.trans F1⟩
      · rw [if_neg g1, if_neg g1]
        exact n2
theorem MX_left {k : Nat} (hk : k < 256) (h : MX I T B W onA xN 0 w s) : MX I T B W k.testBit xN 0 w (pkS s 60 0 41 (nI (lfN T k))) := by
  obtain ⟨g1, g2, g3, g4, g5⟩ := h
  have h8 := g1.1.2.1
  have ee : ∀ c i, ¬ c = 60 → (pkS s 60 0 41 (nI (lfN T k))).1 c i = s.1 c i := fun c i hc => by rw [pkS_1, if_neg (by omega)]
  have e6 : ∀ j, ¬ j = 41 → (pkS s 60 0 41 (nI (lfN T k))).1 60 0 j = s.1 60 0 j := fun j hj => by rw [pkS_v, if_neg (by omega)]
  refine ⟨g1, ?_, ?_, ⟨⟨lfN T k, lf_lt T k, by rw [pkS_v, if_pos ⟨rfl, rfl, rfl⟩], fun t ht => lf_bit T (by omega) k hk t (by omega) ht⟩, ?_, by omega⟩, HM_fr g5 (e6 40 (by omega)) ⟨ee _ _ (by omega), ee _ _ (by omega), ee _ _ (by omega), ee _ _ (by omega), ee _ _ (by omega), ee _ _ (by omega)⟩⟩
  · rw [e6 28 (by omega), e6 29 (by omega), e6 30 (by omega)]; exact g2
  · unfold MR at g3 ⊢
    rw [ee 77 0 (by omega), ee 75 0 (by omega), ee 76 0 (by omega), ee 78 0 (by omega)]
    exact g3
  · rw [e6 42 (by omega)]; exact g4.2.1
theorem fm_ftL {c : Nat} {q : CQT} {i : Int32} {u : Nat → Int32} (hq : CQ I c q) (hv : VS I v) (hA : AG u v) : ∀ (m k fu f : Nat) (s : S2), k + m = 2 ^ T → m < fu → INV I T B R W s → s.1 21 0 = u → s.1 14 0 = w → CQm c q s → ∃ s', f_M_fits_L28 fu i (nI f) (nI (2 ^ T - 1)) (nI k) s = some (s', reS i (ruL (ftP I T B W w v c q) i (rgL m k) f)) ∧ INV I T B R W s' := by
  intro m
  induction m with
  | zero =>
    intro k fu f s hk hf h hu hw hc
    have h8 := h.1.2.2.1.1.2.1
    have hp : 2 ^ T ≤ 2 ^ 8 := Nat.pow_le_pow_right (by omega) h8
    have hp0 := Nat.two_pow_pos T
    obtain ⟨g, rfl, hf'⟩ := suc_of hf
    show ∃ s', b_M_fits_L28 _ _ _ _ _ _ = some (s', if i = -1 then nI f else -1) ∧ _
    unfold b_M_fits_L28
    rw [if_pos (nI_lt (by omega) (by omega)), of_m1]
    by_cases d : i = -1
    · rw [if_pos d, if_pos d]; exact ⟨s, rfl, h⟩
    · rw [if_neg d, if_neg d]; exact ⟨s, rfl, h⟩
  | succ m ih =>
    intro k fu f s hk hf h hu hw hc
    obtain ⟨h6, h8, h4⟩ := h.1.2.2.1.1
    have hp : 2 ^ T ≤ 2 ^ 8 := Nat.pow_le_pow_right (by omega) h8
    have hp0 := Nat.two_pow_pos T
    obtain ⟨g, rfl, hf'⟩ := suc_lt hf
    obtain ⟨t1, u1, ⟨u2, u4, u5⟩, u3⟩ := fm_begin (v := v) h (by rw [hu]; exact hA)
    rw [hw] at u2
    obtain ⟨t2, ht2⟩ : ∃ t, pkS t1 60 0 41 (nI (lfN T k)) = t := ⟨_, rfl⟩
    have F2 : Fr (MS T) s t2 := by rw [← ht2]; exact u3.pk' _ (by unfold MS; simp)
    have hX : MX I T B W k.testBit xN 0 w t2 := by rw [← ht2]; exact MX_left (by omega) u2
    obtain ⟨t3, a1, a2⟩ := fm_agrees (v := v) h6 hq hX (CQm_fr hc F2 rfl fun _ => ⟨rfl, rfl, rfl, rfl⟩) hv (by rw [← ht2]; exact RS_52 u4 (by omega) (by omega) _)
    have F3 : Fr (MS T) s t3 := F2.trans (a2.mono fun _ _ _ => MP_MS)
    obtain ⟨t4, b1, b2, b3⟩ := fm_endF h (by rw [hu]; exact hA) F3 (SV_fr (s := t1) u5 ((a2.arr fun _ => rfl).trans (by rw [← ht2, pkS_1, if_neg (by omega)])))
    have hc4 : CQm c q t4 := CQm_fr (CQm_fr hc F3 rfl fun _ => ⟨rfl, rfl, rfl, rfl⟩) b3 (KTB_60 (by omega)) fun _ => ⟨KTB_c (by omega), KTB_c (by omega), KTB_c (by omega), KTB_c (by omega)⟩
    have hu4 : t4.1 21 0 = u := (b3.arr fun _ => KTB_c (by omega)).trans ((F3.arr fun _ => rfl).trans hu)
    have hw4 : t4.1 14 0 = w := (b3.arr fun _ => KTB_c (by omega)).trans ((F3.arr fun _ => rfl).trans hw)
    have n1 := ih (k + 1) g f t4 (by omega) hf' b2 hu4 hw4 hc4
    have n2 := ih (k + 1) g (f + 1) t4 (by omega) hf' b2 hu4 hw4 hc4
    show ∃ s', b_M_fits_L28 _ _ _ _ _ _ = some (s', reS i (if ftP I T B W w v c q k then (if nI f = i then Sum.inl k else ruL (ftP I T B W w v c q) i (rgL m (k + 1)) (f + 1)) else ruL (ftP I T B W w v c q) i (rgL m (k + 1)) f)) ∧ _
    unfold b_M_fits_L28 f_M_fits_L74
    rw [if_neg (nI_nlt (by omega) (by omega)), u1, Option.bind_some, of_m1, lf_and T (by omega) k (by omega), ht2, Option.bind_some, a1, Option.bind_some, b1, Option.bind_some, of_1, nI_add, nI_add]
    rw [show agS q c (seX I T B W k.testBit xN 0 w v) (lsN q c) 1 = ftP I T B W w v c q k from rfl]
    cases d : ftP I T B W w v c q k with
    | false =>
      rw [ifF, if_neg (by decide)]
      exact n1
    | true =>
      rw [ifT, if_pos rfl]
      by_cases g1 : nI f = i
      · rw [if_pos g1, if_pos g1]
        exact ⟨t4, rfl, b2⟩
      · rw [if_neg g1, if_neg g1]
        exact n2
theorem q_fits (h : INV I T B R W s) (i : Int32) : ∃ s1 r s2, f_D_fits i s = some (s1, r) ∧ f_M_fits i s1 = some (s2, r) ∧ INV I T B R W s2 := by
  obtain ⟨h6, h8, h4⟩ := h.1.2.2.1.1
  have hp : 2 ^ T ≤ 2 ^ 8 := Nat.pow_le_pow_right (by omega) h8
  have hp0 := Nat.two_pow_pos T
  have hI := h.1.2.2.2.2.2.1.1
  unfold f_D_fits
  rw [v_hasSea h]
  by_cases cI : I = 0
  · rw [decide_eq_false (fun z => z cI)]
    exact ⟨s, _, s, by rw [ifF], by unfold f_M_fits; rw [if_pos (by rw [hI, cI]; exact nI_0)], h⟩
  · rw [decide_eq_true cI]
    obtain ⟨c, q, q1, q2, q3⟩ := CQ_of h6 h.2.2.2.2.2.2.2
    have hv : VS I (mkV (s.1 21 0) (s.1 21 4)) := VS_ag h.1.2.2.2.2.1 (mkV_AG _ _)
    obtain ⟨s1, a1, a2⟩ := fc_ftL (i := i) h q1 hv (2 ^ T) 0 FU 0 s (by omega) (lt_FU (by omega)) (Fr.refl KS s) q2 rfl
    have h1 := INV_KS h a2
    have hI1 : ¬ s1.1 60 0 28 = 0 := by
      rw [a2.1 60 0 28 rfl, hI]
      exact fun z => cI ((nI_eq (by omega) (by omega)).mp (z.trans nI_0.symm))
    have e1 : f_Charts_fittingSet i s = some (s1, reS i (ruL (ftP I T B W (s.1 14 0) (mkV (s.1 21 0) (s.1 21 4)) c q) i (rgL (2 ^ T) 0) 0)) := by
      unfold f_Charts_fittingSet
      rw [show Int32.ofInt 0 = nI 0 from of_0, a1]
    by_cases ci : -1 ≤ i
    · obtain ⟨s2, b1, b2⟩ := fm_ftL (i := i) (u := s.1 21 0) (w := s.1 14 0) q1 hv (mkV_AG _ _) (2 ^ T) 0 FU 0 s1 (by omega) (lt_FU (by omega)) h1 (a2.arr fun _ => rfl) (a2.arr fun _ => rfl) (CQm_fr q3 a2 rfl fun _ => ⟨rfl, rfl, rfl, rfl⟩)
      refine ⟨s1, reS i (ruL (ftP I T B W (s.1 14 0) (mkV (s.1 21 0) (s.1 21 4)) c q) i (rgL (2 ^ T) 0) 0), s2, ?_, ?_, b2⟩
      · rw [ifT, e1]; rfl
      · unfold f_M_fits
        rw [if_neg hI1, of_m1, if_pos ci, a2.1 60 0 29 rfl, h.1.2.2.2.2.2.1.2.1, of_1, sh9 T (by omega), sub_nI (by omega), show Int32.ofInt 0 = nI 0 from of_0, b1]
    · refine ⟨s1, -1, s1, ?_, ?_, h1⟩
      · rw [ifT, e1, ruL_neg (Int32.not_le.mp ci) _ _ (by rw [rgL_len]; omega)]; rfl
      · unfold f_M_fits
        rw [if_neg hI1, of_m1, if_neg ci]
end
