/-! ===== all ties draw: the reference ===== -/
def MD (c _ _ : Nat) : Bool := c == 69 || (c == 70 || (c == 84 || (c == 85 || (c == 86 || (c == 87 || c == 88)))))
theorem MD_MDw {c i k : Nat} (h : MD c i k = false) : MDw c i k = false := by
  unfold MD at h
  unfold MDw
  simp only [Bool.or_eq_false_iff] at h ⊢
  exact h.2.2.2.2.2
theorem MD_MLt {c i k : Nat} (h : MD c i k = false) : MLt c i k = false := by
  unfold MD at h
  unfold MLt
  simp only [Bool.or_eq_false_iff] at h ⊢
  exact ⟨h.1, h.2.1⟩
/-- the reference's told rows -/
def MR (I T B : Nat) (x : XT) (e : Nat) (w : Nat → Int32) (s : S2) : Prop :=
  (∀ t, t < T → s.1 77 0 (4 * t) = w ((7 + t) * 8) ∧ s.1 77 0 (4 * t + 1) = w ((7 + t) * 8 + 1) ∧ s.1 77 0 (4 * t + 3) = w ((7 + t) * 8 + 3)) ∧
  (∀ j, j < e → s.1 77 0 (4 * (T + j)) = nI (x j).1 ∧ s.1 77 0 (4 * (T + j) + 1) = nI (x j).2.1 ∧ s.1 77 0 (4 * (T + j) + 2) = (x j).2.2.1 ∧ s.1 77 0 (4 * (T + j) + 3) = (x j).2.2.2 ∧ (x j).1 < I ∧ (x j).2.1 < I) ∧
  (∀ k, k < 4 → s.1 75 0 k = w k) ∧ (∀ a, a < I → ∀ k, 3 ≤ k → k < 7 → s.1 76 0 (8 * a + k) = w ((1 + a) * 8 + k)) ∧ (∀ b, b < B → ∀ k, k < 3 → s.1 78 0 (3 * b + k) = w ((15 + b) * 8 + k))
def MF (T : Nat) (on : Nat → Bool) (e : Nat) (s : S2) : Prop := (∃ l : Nat, l < 2 ^ 31 ∧ s.1 60 0 41 = nI l ∧ ∀ t, t < T → l.testBit t = !on t) ∧ s.1 60 0 42 = nI e ∧ e ≤ 3
def MX (I T B : Nat) (W : Option WF6) (on : Nat → Bool) (x : XT) (e : Nat) (w : Nat → Int32) (s : S2) : Prop := SE I T B w ∧ (s.1 60 0 28 = nI I ∧ s.1 60 0 29 = nI T ∧ s.1 60 0 30 = nI B) ∧ MR I T B x e w s ∧ MF T on e s ∧ HM W s
theorem MX_fr {I T B : Nat} {W : Option WF6} {on : Nat → Bool} {x : XT} {e : Nat} {w : Nat → Int32} {s s' : S2} {K : Nat → Nat → Nat → Bool} (h : MX I T B W on x e w s) (hF : Fr K s s') (hK : ∀ k, K 62 0 k = false ∧ K 63 0 k = false ∧ K 65 0 k = false ∧ K 66 0 k = false ∧ K 67 0 k = false ∧ K 68 0 k = false ∧ K 75 0 k = false ∧ K 76 0 k = false ∧ K 77 0 k = false ∧ K 78 0 k = false) (h6 : K 60 0 28 = false ∧ K 60 0 29 = false ∧ K 60 0 30 = false ∧ K 60 0 40 = false ∧ K 60 0 41 = false ∧ K 60 0 42 = false) : MX I T B W on x e w s' := by
  obtain ⟨g1, g2, g3, g4, g5⟩ := h
  refine ⟨g1, ?_, ?_, ?_, HM_fr g5 (hF.1 _ _ _ h6.2.2.2.1) ⟨hF.arr fun k => (hK k).1, hF.arr fun k => (hK k).2.1, hF.arr fun k => (hK k).2.2.1, hF.arr fun k => (hK k).2.2.2.1, hF.arr fun k => (hK k).2.2.2.2.1, hF.arr fun k => (hK k).2.2.2.2.2.1⟩⟩
  · rw [hF.1 _ _ _ h6.1, hF.1 _ _ _ h6.2.1, hF.1 _ _ _ h6.2.2.1]; exact g2
  · unfold MR at g3 ⊢
    rw [hF.arr fun k => (hK k).2.2.2.2.2.2.1, hF.arr fun k => (hK k).2.2.2.2.2.2.2.1, hF.arr fun k => (hK k).2.2.2.2.2.2.2.2.1, hF.arr fun k => (hK k).2.2.2.2.2.2.2.2.2]; exact g3
  · unfold MF at g4 ⊢
    rw [hF.1 _ _ _ h6.2.2.2.2.1, hF.1 _ _ _ h6.2.2.2.2.2]; exact g4
theorem MX_MD {I T B : Nat} {W : Option WF6} {on : Nat → Bool} {x : XT} {e : Nat} {w : Nat → Int32} {s s' : S2} (h : MX I T B W on x e w s) (hF : Fr MD s s') : MX I T B W on x e w s' := MX_fr h hF (fun _ => ⟨rfl, rfl, rfl, rfl, rfl, rfl, rfl, rfl, rfl, rfl⟩) ⟨rfl, rfl, rfl, rfl, rfl, rfl⟩
theorem RS_MD {I T B : Nat} {v : Nat → Int32} {s s' : S2} (hr : RS I T B v s) (hF : Fr MD s s') : RS I T B v s' := RS_fr hr (hF.arr fun _ => rfl) (hF.arr fun _ => rfl) (hF.arr fun _ => rfl) (hF.arr fun _ => rfl) (hF.arr fun _ => rfl) (hF.arr fun _ => rfl) (hF.arr fun _ => rfl) (hF.1 _ _ _ rfl) (hF.1 _ _ _ rfl)
def tailM (s : S2) : Option S2 := if (s.1 75 0 2) = (Int32.ofInt 1) then ((f_M_trade s).bind fun q1 => (f_M_layDrawn_L205 FU (Int32.ofInt 0) q1)) else some s
theorem fm_layX {s0 : S2} {I T B : Nat} {W : Option WF6} {on : Nat → Bool} {x : XT} {e : Nat} {v w : Nat → Int32} {d : D2} (hv : VS I v) : ∀ (m k fu : Nat) (s : S2), k + m = e → m < fu → MX I T B W on x e w s → RS I T B v s → DM (exS W v x d k) s → Fr MD s0 s → ∃ s', f_M_layDrawn_L30 fu (nI (T + k)) s = tailM s' ∧ DM (exS W v x d e) s' ∧ Fr MD s0 s' := by
  intro m
  induction m with
  | zero =>
    intro k fu s hk hf hX hr hd hF
    obtain ⟨f, rfl, hf'⟩ := suc_of hf
    refine ⟨s, ?_, by rw [← show k = e by omega]; exact hd, hF⟩
    show b_M_layDrawn_L30 _ _ _ = _
    unfold b_M_layDrawn_L30
    have h3 := hX.2.2.2.1.2.2
    have h8 := hX.1.1.2.1
    rw [hX.2.2.2.1.2.1, hX.2.1.2.1, nI_add, if_pos (nI_le (by omega) (by omega))]
    rfl
  | succ m ih =>
    intro k fu s hk hf hX hr hd hF
    obtain ⟨f, rfl, hf'⟩ := suc_lt hf
    have h3 := hX.2.2.2.1.2.2
    have h8 := hX.1.1.2.1
    obtain ⟨x1, x2, x3, x4, x5, x6⟩ := hX.2.2.1.2.1 k (by omega)
    obtain ⟨s1, a1, a2⟩ := fm_pullOf hv hr (show T + k < 11 by omega) x5 x6 x1 x2 hX.2.2.2.2
    have F1 : Fr MD s s1 := a2.mono fun _ _ _ => MD_MLt
    have hX1 := MX_MD hX F1
    have hr1 := RS_MD hr F1
    have hd1 : DM (exS W v x d k) s1 := fun j hj => ⟨(a2.1 87 0 j rfl).trans (hd j hj).1, (a2.1 88 0 j rfl).trans (hd j hj).2⟩
    obtain ⟨y1, y2, -⟩ := hX1.2.2.1.2.1 k (by omega)
    obtain ⟨s2, b1, b2, b3⟩ := fm_layTie (p := plS W v (x k).1 (x k).2.1 (s.1 77 0 (4 * (T + k) + 2)) (s.1 77 0 (4 * (T + k) + 3))) (f_M_layDrawn_L30 f) hv hr1 (show T + k < 11 by omega) x5 x6 y1 y2 hd1
    have F2 : Fr MD s1 s2 := b2.mono fun _ _ _ => MD_MDw
    obtain ⟨s', c1, c2, c3⟩ := ih (k + 1) f s2 (by omega) hf' (MX_MD hX1 F2) (RS_MD hr1 F2) (by
      show DM (adS v _ _ _ _) s2
      rw [x3, x4] at b3
      exact b3) ((hF.trans F1).trans F2)
    refine ⟨s', ?_, c2, c3⟩
    show b_M_layDrawn_L30 _ _ _ = _
    unfold b_M_layDrawn_L30 f_M_layDrawn_L66
    rw [hX.2.2.2.1.2.1, hX.2.1.2.1, nI_add, if_neg (nI_ge (by omega) (by omega)), if_pos (nI_le (by omega) (by omega)), a1, Option.bind_some]
    exact b1.trans c1
theorem fm_layT {s0 : S2} {I T B : Nat} {W : Option WF6} {on : Nat → Bool} {x : XT} {e : Nat} {v w : Nat → Int32} (hv : VS I v) : ∀ (m k fu : Nat) (s : S2), k + m = T → m + 4 < fu → MX I T B W on x e w s → RS I T B v s → DM (tiS W v w on k) s → Fr MD s0 s → ∃ s', f_M_layDrawn_L30 fu (nI k) s = tailM s' ∧ DM (dtS W v w T on x e) s' ∧ Fr MD s0 s' := by
  intro m
  induction m with
  | zero =>
    intro k fu s hk hf hX hr hd hF
    have := fm_layX (s0 := s0) (W := W) (x := x) (e := e) (d := tiS W v w on T) hv e 0 fu s (by omega) (by have := hX.2.2.2.1.2.2; omega) hX hr (by rw [← show k = T by omega]; exact hd) hF
    rw [Nat.add_zero] at this
    rw [show k = T by omega]
    exact this
  | succ m ih =>
    intro k fu s hk hf hX hr hd hF
    obtain ⟨f, rfl, hf'⟩ := suc_lt (show (m + 4) + 1 < fu by omega)
    have h3 := hX.2.2.2.1.2.2
    have h8 := hX.1.1.2.1
    obtain ⟨t1, t2, t3, t4⟩ := hX.1.2.1 k (by omega)
    obtain ⟨u1, u2, u3⟩ := hX.2.2.1.1 k (by omega)
    obtain ⟨l, l1, l2, l3⟩ := hX.2.2.2.1.1
    show ∃ s', b_M_layDrawn_L30 _ _ _ = _ ∧ _
    unfold b_M_layDrawn_L30 f_M_layDrawn_L66
    rw [hX.2.2.2.1.2.1, hX.2.1.2.1, nI_add, if_neg (nI_ge (by omega) (by omega)), if_neg (nI_ge (by omega) (by omega)), l2, g_M_has_nI l1 (by omega), l3 k (by omega)]
    by_cases hon : on k = true
    · rw [hon, if_pos (by decide)]
      obtain ⟨s1, a1, a2⟩ := fm_pullOf hv hr (show k < 11 by omega) t2 t4 (u1.trans t1) (u2.trans t3) hX.2.2.2.2
      have F1 : Fr MD s s1 := a2.mono fun _ _ _ => MD_MLt
      have hX1 := MX_MD hX F1
      have hr1 := RS_MD hr F1
      have hd1 : DM (tiS W v w on k) s1 := fun j hj => ⟨(a2.1 87 0 j rfl).trans (hd j hj).1, (a2.1 88 0 j rfl).trans (hd j hj).2⟩
      obtain ⟨y1, y2, -⟩ := hX1.2.2.1.1 k (by omega)
      obtain ⟨s2, b1, b2, b3⟩ := fm_layTie (p := plS W v (ta w k) (tb w k) (s.1 77 0 (4 * k + 2)) (s.1 77 0 (4 * k + 3))) (f_M_layDrawn_L30 f) hv hr1 (show k < 11 by omega) t2 t4 (y1.trans t1) (y2.trans t3) hd1
      have F2 : Fr MD s1 s2 := b2.mono fun _ _ _ => MD_MDw
      obtain ⟨s', c1, c2, c3⟩ := ih (k + 1) f s2 (by omega) hf' (MX_MD hX1 F2) (RS_MD hr1 F2) (by
        show DM (if on k then adS v _ _ _ _ else _) s2
        rw [if_pos hon]
        rw [u3, ← hr.2.1 k (by omega)] at b3
        exact b3) ((hF.trans F1).trans F2)
      refine ⟨s', ?_, c2, c3⟩
      rw [a1, Option.bind_some]
      exact b1.trans c1
    · have hon' : on k = false := by cases h : on k <;> simp_all
      rw [hon', if_neg (by decide), of_0]
      obtain ⟨s2, b1, b2, b3⟩ := fm_layTie (p := 0) (f_M_layDrawn_L30 f) hv hr (show k < 11 by omega) t2 t4 (u1.trans t1) (u2.trans t3) hd
      have F2 : Fr MD s s2 := b2.mono fun _ _ _ => MD_MDw
      obtain ⟨s', c1, c2, c3⟩ := ih (k + 1) f s2 (by omega) hf' (MX_MD hX F2) (RS_MD hr F2) (by
        show DM (if on k then adS v _ _ _ _ else _) s2
        rw [adS_0] at b3
        rw [hon']
        exact b3) (hF.trans F2)
      exact ⟨s', b1.trans c1, c2, c3⟩
theorem fm_lay0 : ∀ (m k fu : Nat) (s : S2), k + m = 6 → m < fu → (∀ j, j < k → s.1 87 0 j = 0 ∧ s.1 88 0 j = 0) → ∃ s', f_M_layDrawn_L2 fu (nI k) s = f_M_layDrawn_L30 FU 0 s' ∧ (∀ j, j < 6 → s'.1 87 0 j = 0 ∧ s'.1 88 0 j = 0) ∧ Fr MD s s' := by
  intro m
  induction m with
  | zero =>
    intro k fu s hk hf hd
    obtain ⟨f, rfl, hf'⟩ := suc_of hf
    refine ⟨s, ?_, fun j hj => hd j (by omega), Fr.refl _ _⟩
    show b_M_layDrawn_L2 _ _ _ = _
    unfold b_M_layDrawn_L2
    rw [of_6, if_pos (nI_le (by omega) (by omega)), of_0]
  | succ m ih =>
    intro k fu s hk hf hd
    obtain ⟨f, rfl, hf'⟩ := suc_lt hf
    obtain ⟨s', c1, c2, c3⟩ := ih (k + 1) f (pkS (pkS s 87 0 k 0) 88 0 k 0) (by omega) hf' (fun j hj => by
      have := hd j
      simp only [pkS_v, Nat.reduceEqDiff, false_and, if_false, true_and]
      by_cases h : j = k
      · simp [h]
      · have := hd j (by omega)
        simp [h, this.1, this.2])
    refine ⟨s', ?_, c2, (((Fr.refl _ _).pk' _ rfl).pk' _ rfl).trans c3⟩
    show b_M_layDrawn_L2 _ _ _ = _
    unfold b_M_layDrawn_L2
    rw [of_6, if_neg (nI_ge (by omega) (by omega)), ix_nI (by omega) (by omega), Option.bind_some, Option.bind_some, Option.bind_some, Option.bind_some, of_1, nI_add, of_0]
    exact c1
theorem fm_lay {s : S2} {I T B : Nat} {W : Option WF6} {on : Nat → Bool} {x : XT} {e : Nat} {v w : Nat → Int32} (hv : VS I v) (hX : MX I T B W on x e w s) (hr : RS I T B v s) : ∃ s', f_M_layDrawn s = tailM s' ∧ DM (dtS W v w T on x e) s' ∧ Fr MD s s' := by
  unfold f_M_layDrawn
  rw [of_0]
  obtain ⟨s1, a1, a2, a3⟩ := fm_lay0 6 0 FU s (by omega) (lt_FU (by omega)) (fun j hj => by omega)
  obtain ⟨s2, b1, b2, b3⟩ := fm_layT (s0 := s) (W := W) (x := x) (e := e) hv T 0 FU s1 (by omega) (lt_FU (by have := hX.1.1.2.1; omega)) (MX_MD hX a3) (RS_MD hr a3) (fun k hk => a2 k hk) a3
  exact ⟨s2, a1.trans b1, b2, b3⟩
