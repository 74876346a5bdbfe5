/-! ===== go ===== -/
section
variable {I T B R : Nat} {W : Option WF6} {s s' s0 : S2} {w v : Nat → Int32} {H L : Nat × (Nat → Nat → Int32)}
theorem puH_le (hH : H.1 ≤ 30) (v : Nat → Int32) : (puH H v).1 = min 30 (H.1 + 1) := by
  unfold puH
  by_cases c : H.1 < 30
  · rw [if_pos c, Nat.min_eq_right (by omega)]
  · rw [if_neg c, Nat.min_eq_left (by omega)]
theorem puL_le (hL : L.1 ≤ 60) (g : Nat → Int32) : (puL L g).1 = min 60 (L.1 + 1) := by
  unfold puL
  by_cases c : L.1 < 60
  · rw [if_pos c, Nat.min_eq_right (by omega)]
  · rw [if_neg c, Nat.min_eq_left (by omega)]
theorem puH_VS (hH : H.1 ≤ 30) (h : ∀ j, j < H.1 → VS I (H.2 j)) (hv : VS I v) : ∀ j, j < (puH H v).1 → VS I ((puH H v).2 j) := by
  intro j hj
  rw [puH_le hH] at hj
  unfold puH
  by_cases c : H.1 < 30
  · rw [if_pos c]
    show VS I (if j = H.1 then v else H.2 j)
    by_cases d : j = H.1
    · rw [if_pos d]; exact hv
    · rw [if_neg d]; exact h j (by omega)
  · rw [if_neg c]
    show VS I (if j = 29 then v else H.2 (j + 1))
    by_cases d : j = 29
    · rw [if_pos d]; exact hv
    · rw [if_neg d]; exact h (j + 1) (by omega)
/-- what go and years change of the class -/
def KC (c i k : Nat) : Bool := KS c i k || ((c == 21 && i == 0) || (Kck c i k || Kcp c i k))
/-- and of the reference -/
def KM (c i k : Nat) : Bool := MP c i k || (Kmk c i k || Kmn c i k)
theorem KC_KP {c i k : Nat} (h : KC c i k = false) : KP 0 c i k = false := by
  unfold KC at h
  obtain ⟨h1, h2⟩ := Bool.or_eq_false_iff.mp h
  have h3 := KP2_KS h1
  unfold KP at h3 ⊢
  obtain ⟨g1, g2⟩ := Bool.or_eq_false_iff.mp h3
  rw [g1, (Bool.or_eq_false_iff.mp h2).1, (Bool.or_eq_false_iff.mp g2).2]
  rfl
theorem KC_ck {c i k : Nat} (h : KC c i k = false) : Kck c i k = false := (Bool.or_eq_false_iff.mp (Bool.or_eq_false_iff.mp (Bool.or_eq_false_iff.mp h).2).2).1
theorem KC_cp {c i k : Nat} (h : KC c i k = false) : Kcp c i k = false := (Bool.or_eq_false_iff.mp (Bool.or_eq_false_iff.mp (Bool.or_eq_false_iff.mp h).2).2).2
theorem KM_MP {c i k : Nat} (h : KM c i k = false) : MP c i k = false := (Bool.or_eq_false_iff.mp h).1
theorem KM_mk {c i k : Nat} (h : KM c i k = false) : Kmk c i k = false := (Bool.or_eq_false_iff.mp (Bool.or_eq_false_iff.mp h).2).1
theorem KM_mn {c i k : Nat} (h : KM c i k = false) : Kmn c i k = false := (Bool.or_eq_false_iff.mp (Bool.or_eq_false_iff.mp h).2).2
theorem Kgo_KC {c i k : Nat} (h : Kgo T c i k = false) : KC c i k = false := by
  unfold Kgo at h
  obtain ⟨h1, h2⟩ := Bool.or_eq_false_iff.mp h
  have h3 := KN_KS h1
  have h4 : (c == 21 && i == 0) = false := (Bool.or_eq_false_iff.mp (Bool.or_eq_false_iff.mp h1).2).2
  simp only [Bool.or_eq_false_iff] at h2
  obtain ⟨g1, g2, g3, g4, g5, g6⟩ := h2
  unfold KC Kck Kcp
  rw [h3, h4, g1, g2, g5]
  rfl
theorem Kgo_KM {c i k : Nat} (h : Kgo T c i k = false) : KM c i k = false := by
  unfold Kgo at h
  obtain ⟨h1, h2⟩ := Bool.or_eq_false_iff.mp h
  have h3 := MP_MS (KN_MS h1)
  simp only [Bool.or_eq_false_iff] at h2
  obtain ⟨g1, g2, g3, g4, g5, g6⟩ := h2
  unfold KM Kmk Kmn
  rw [h3, g3, g4]
  cases q : c == 60 with
  | false => rfl
  | true =>
    rw [q] at g6
    simp only [Bool.true_and, Bool.or_eq_false_iff] at g6
    rw [g6.1, g6.2]
    rfl
theorem CX_go (h : INV I T B R W s0) (hF : Fr KC s0 s) (h12 : s.1 31 0 12 = nI 255) (h13 : s.1 31 0 13 = 0) : CX I T B W onA xN 0 (s0.1 14 0) s := by
  refine ⟨h.1.2.2.1, hF.arr fun _ => rfl, ?_, ⟨⟨255, by omega, h12, fun t ht => ?_⟩, by rw [h13, nI_0], by omega, fun j hj => by omega⟩, HLD_HC (HLD_fk h.2.1 hF (fun _ => ⟨rfl, rfl, rfl, rfl, rfl, rfl⟩) (fun _ _ => ⟨rfl, rfl⟩) ⟨rfl, rfl⟩)⟩
  · have := h.1.2.2.2.1
    unfold CN at this ⊢
    rw [hF.arr fun _ => rfl]
    exact this
  · have := h.1.2.2.1.1.2.1
    exact tst255 t (by omega)
theorem MX_go (h : INV I T B R W s0) (hF : Fr KC s0 s) : MX I T B W onA xN 0 (s0.1 14 0) s := MX_fr (INV_MX h) hF (fun _ => ⟨rfl, rfl, rfl, rfl, rfl, rfl, rfl, rfl, rfl, rfl⟩) ⟨rfl, rfl, rfl, rfl, rfl, rfl⟩
theorem MX_KM {on : Nat → Bool} {x : XT} {e : Nat} (h : MX I T B W on x e w s) (hF : Fr KM s s') : MX I T B W on x e w s' := MX_fr h hF (fun _ => ⟨rfl, rfl, rfl, rfl, rfl, rfl, rfl, rfl, rfl, rfl⟩) ⟨rfl, rfl, rfl, rfl, rfl, rfl⟩
/-- one season of the class, with its row of the log -/
theorem fc_season (h : INV I T B R W s0) (hF : Fr KC s0 s) (hv : VS I (s.1 21 0)) (hc : cLo L s) : ∃ s', f_D_passSeason s = some s' ∧ s'.1 21 0 = (psS I T B W (s.1 21 0) (s0.1 14 0) onA xN 0).1 ∧ cLo (puL L (g3S (psS I T B W (s.1 21 0) (s0.1 14 0) onA xN 0).2.1 (psS I T B W (s.1 21 0) (s0.1 14 0) onA xN 0).2.2.1 (psS I T B W (s.1 21 0) (s0.1 14 0) onA xN 0).2.2.2)) s' ∧ Fr KC s0 s' ∧ (∀ i, s'.1 21 (5 + i) = s.1 21 (5 + i)) ∧ s'.1 22 0 2 = s.1 22 0 2 ∧ s'.1 22 0 3 = s.1 22 0 3 := by
  have F1 : Fr KC s (pkS (pkS s 31 0 12 (nI 255)) 31 0 13 0) := ((Fr.refl _ s).pk' _ rfl).pk' _ rfl
  have hX := CX_go h (hF.trans F1) (by rw [pkS_v, if_neg (by omega), pkS_v, if_pos ⟨rfl, rfl, rfl⟩]) (by rw [pkS_v, if_pos ⟨rfl, rfl, rfl⟩])
  have e21 : (pkS (pkS s 31 0 12 (nI 255)) 31 0 13 0).1 21 0 = s.1 21 0 := by rw [pkS_1, if_neg (by omega), pkS_1, if_neg (by omega)]
  obtain ⟨s1, a1, a2, a3, a4, a5, a6⟩ := fc_pass (i := 0) (by rw [e21]; exact hv) hX
  rw [e21] at a2 a3 a4 a5
  have hc1 : cLo L s1 := cLo_fr hc ((a6.1 _ _ _ rfl).trans (by rw [pkS_v, if_neg (by omega), pkS_v, if_neg (by omega)])) ((a6.1 _ _ _ rfl).trans (by rw [pkS_v, if_neg (by omega), pkS_v, if_neg (by omega)])) ((a6.arr fun _ => rfl).trans (by rw [pkS_1, if_neg (by omega), pkS_1, if_neg (by omega)]))
  obtain ⟨s2, b1, b2, b3⟩ := fc_put (x := s1.1 31 0 14) (y := s1.1 31 0 15) (z := s1.1 31 0 16) hc1
  refine ⟨s2, ?_, ?_, ?_, ((hF.trans F1).trans (a6.mono fun _ _ _ => KC_KP)).trans (b3.mono fun _ _ _ => KC_cp), fun i => ?_, ?_, ?_⟩
  · unfold f_D_passSeason f_Course_drawByTold g_Course_parts g_Course_snapped g_Course_gone
    rw [of_255, of_0, Option.bind_some, Option.bind_some, Option.bind_some, a1, Option.bind_some, b1]
    rfl
  · rw [b3.arr fun _ => rfl]; exact a2
  · rw [a3, a4, a5] at b2; exact b2
  · rw [b3.arr fun _ => rfl, a6.arr fun k => (by
      unfold KP KD
      rw [show (5 + i == 0) = false from by simp]
      rfl), pkS_1, if_neg (by omega), pkS_1, if_neg (by omega)]
  · rw [b3.1 _ _ _ rfl, a6.1 _ _ _ rfl, pkS_v, if_neg (by omega), pkS_v, if_neg (by omega)]
  · rw [b3.1 _ _ _ rfl, a6.1 _ _ _ rfl, pkS_v, if_neg (by omega), pkS_v, if_neg (by omega)]
def hiS (I T B : Nat) (W : Option WF6) (w v : Nat → Int32) (H : Nat × (Nat → Nat → Int32)) : Nat → Nat × (Nat → Nat → Int32)
  | 0 => H
  | k + 1 => puH (hiS I T B W w v H k) (seS I T B W w v k)
def liS (I T B : Nat) (W : Option WF6) (w v : Nat → Int32) (L : Nat × (Nat → Nat → Int32)) : Nat → Nat × (Nat → Nat → Int32)
  | 0 => L
  | k + 1 => puL (liS I T B W w v L k) (g3S (psS I T B W (seS I T B W w v k) w onA xN 0).2.1 (psS I T B W (seS I T B W w v k) w onA xN 0).2.2.1 (psS I T B W (seS I T B W w v k) w onA xN 0).2.2.2)
theorem fc_goSea {n : Nat} (h : INV I T B R W s0) (hv : VS I v) (hn : n < 100) : ∀ (m k fu : Nat) (s : S2), k + m = n → m < fu → s.1 21 0 = seS I T B W (s0.1 14 0) v k → cPa (hiS I T B W (s0.1 14 0) v H k) s → cLo (liS I T B W (s0.1 14 0) v L k) s → Fr KC s0 s → ∃ s', f_D_go_L21 fu (nI n) (nI k) s = some (s', seS I T B W (s0.1 14 0) v n 42) ∧ s'.1 21 0 = seS I T B W (s0.1 14 0) v n ∧ cPa (hiS I T B W (s0.1 14 0) v H n) s' ∧ cLo (liS I T B W (s0.1 14 0) v L n) s' ∧ Fr KC s0 s' := by
  intro m
  induction m with
  | zero =>
    intro k fu s hk hf hs hp hl hF
    obtain ⟨f, rfl, hf'⟩ := suc_of hf
    have e : k = n := by omega
    subst e
    refine ⟨s, ?_, hs, hp, hl, hF⟩
    show b_D_go_L21 _ _ _ _ = _
    unfold b_D_go_L21 g_State_season
    rw [if_pos (nI_le (by omega) (by omega)), hs]
  | succ m ih =>
    intro k fu s hk hf hs hp hl hF
    obtain ⟨f, rfl, hf'⟩ := suc_lt hf
    obtain ⟨s1, a1, a2, a3⟩ := fc_keep hp
    have e1 : s1.1 21 0 = s.1 21 0 := a3.arr fun _ => rfl
    have F1 : Fr KC s0 s1 := hF.trans (a3.mono fun _ _ _ => KC_ck)
    obtain ⟨s2, b1, b2, b3, b4, b5, b6, b7⟩ := fc_season h F1 (by rw [e1, hs]; exact VS_se hv k) (cLo_fr hl (a3.1 _ _ _ rfl) (a3.1 _ _ _ rfl) (a3.arr fun _ => rfl))
    rw [e1, hs] at b2 b3
    rw [hs] at a2
    show ∃ s', b_D_go_L21 _ _ _ _ = _ ∧ _
    unfold b_D_go_L21
    rw [if_neg (nI_ge (by omega) (by omega)), a1, Option.bind_some, b1, Option.bind_some, of_1, nI_add]
    exact ih (k + 1) f s2 (by omega) hf' b2 (cPa_fr a2 b6 b7 b5) b3 b4
theorem fm_goSea {n : Nat} (hv : VS I v) (h6 : I ≤ 6) (h8 : T ≤ 8) (hn : n < 100) : ∀ (m k fu : Nat) (s : S2), k + m = n → m < fu → MX I T B W onA xN 0 w s → RS I T B (seS I T B W w v k) s → (hiS I T B W w v H k).1 ≤ 30 → (liS I T B W w v L k).1 ≤ 60 → mPa I T B (hiS I T B W w v H k) s → mLo (liS I T B W w v L k) s → Fr KM s0 s → ∃ s', f_M_go_L15 fu (nI n) (nI k) s = some (s', seS I T B W w v n 42) ∧ RS I T B (seS I T B W w v n) s' ∧ mPa I T B (hiS I T B W w v H n) s' ∧ mLo (liS I T B W w v L n) s' ∧ Fr KM s0 s' := by
  intro m
  induction m with
  | zero =>
    intro k fu s hk hf hX hr h30 h60 hp hl hF
    obtain ⟨f, rfl, hf'⟩ := suc_of hf
    have e : k = n := by omega
    subst e
    refine ⟨s, ?_, hr, hp, hl, hF⟩
    show b_M_go_L15 _ _ _ _ = _
    unfold b_M_go_L15
    rw [if_pos (nI_le (by omega) (by omega)), hr.2.2.2]
  | succ m ih =>
    intro k fu s hk hf hX hr h30 h60 hp hl hF
    obtain ⟨f, rfl, hf'⟩ := suc_lt hf
    obtain ⟨s1, a1, a2, a3⟩ := fm_keep h6 h8 h30 hr hp
    have hr1 : RS I T B (seS I T B W w v k) s1 := RS_fr hr (a3.arr fun _ => rfl) (a3.arr fun _ => rfl) (a3.arr fun _ => rfl) (a3.arr fun _ => rfl) (a3.arr fun _ => rfl) (a3.arr fun _ => rfl) (a3.arr fun _ => rfl) (a3.1 _ _ _ rfl) (a3.1 _ _ _ rfl)
    have F1 : Fr KM s s1 := a3.mono fun _ _ _ => KM_mk
    obtain ⟨s2, b1, b2, b3, b4, b5, b6⟩ := fm_pass (VS_se hv k) (MX_KM hX F1) hr1
    have F2 : Fr KM s s2 := F1.trans (b6.mono fun _ _ _ => KM_MP)
    have hl2 : mLo (liS I T B W w v L k) s2 := mLo_fr hl ((b6.1 _ _ _ rfl).trans (a3.1 _ _ _ rfl)) ((b6.arr fun _ => rfl).trans (a3.arr fun _ => rfl))
    obtain ⟨s3, c1, c2, c3⟩ := fm_note h60 hl2
    rw [b3, b4, b5] at c2
    have hr3 : RS I T B (seS I T B W w v (k + 1)) s3 := RS_fr b2 (c3.arr fun _ => rfl) (c3.arr fun _ => rfl) (c3.arr fun _ => rfl) (c3.arr fun _ => rfl) (c3.arr fun _ => rfl) (c3.arr fun _ => rfl) (c3.arr fun _ => rfl) (c3.1 _ _ _ rfl) (c3.1 _ _ _ rfl)
    have F3 : Fr KM s s3 := F2.trans (c3.mono fun _ _ _ => KM_mn)
    show ∃ s', b_M_go_L15 _ _ _ _ = _ ∧ _
    unfold b_M_go_L15
    rw [if_neg (nI_ge (by omega) (by omega)), a1, Option.bind_some, b1, Option.bind_some, c1, Option.bind_some, of_1, nI_add]
    refine ih (k + 1) f s3 (by omega) hf' (MX_KM hX F3) hr3 ?_ ?_ ?_ c2 (hF.trans F3)
    · show (puH _ _).1 ≤ 30
      rw [puH_le h30]; omega
    · show (puL _ _).1 ≤ 60
      rw [puL_le h60]; omega
    · exact mPa_fr a2 ((c3.1 _ _ _ rfl).trans (b6.1 _ _ _ rfl)) ((c3.arr fun _ => rfl).trans (b6.arr fun _ => rfl))
theorem hiS_ok (hv : VS I v) (hH : H.1 ≤ 30) (hL : L.1 ≤ 60) (hl : H.1 ≤ L.1) (hVS : ∀ j, j < H.1 → VS I (H.2 j)) : ∀ k, (hiS I T B W w v H k).1 ≤ 30 ∧ (liS I T B W w v L k).1 ≤ 60 ∧ (hiS I T B W w v H k).1 ≤ (liS I T B W w v L k).1 ∧ ∀ j, j < (hiS I T B W w v H k).1 → VS I ((hiS I T B W w v H k).2 j) := by
  intro k
  induction k with
  | zero => exact ⟨hH, hL, hl, hVS⟩
  | succ k ih =>
    obtain ⟨g1, g2, g3, g4⟩ := ih
    have e1 : (hiS I T B W w v H (k + 1)).1 = min 30 ((hiS I T B W w v H k).1 + 1) := puH_le g1 _
    have e2 : (liS I T B W w v L (k + 1)).1 = min 60 ((liS I T B W w v L k).1 + 1) := puL_le g2 _
    refine ⟨by rw [e1]; omega, by rw [e2]; omega, by rw [e1, e2]; omega, puH_VS g1 g4 (VS_se hv k)⟩
theorem q_go (h : INV I T B R W s) (x : Int32) : ∃ s1 r s2, f_D_go x s = some (s1, r) ∧ f_M_go x s1 = some (s2, r) ∧ INV I T B R W s2 := by
  obtain ⟨h6, h8, h4⟩ := h.1.2.2.1.1
  have hv := h.1.2.2.2.2.1
  have hr := h.1.2.2.2.2.2.2.2.2
  unfold f_D_go
  rw [v_hasSea h, g_D_isWithin_eq, of_1, of_60]
  by_cases cI : I = 0
  · rw [decide_eq_false (fun z => z cI)]
    exact ⟨s, _, s, by rw [ifF], by unfold f_M_go; rw [v_seasons h, decide_eq_false (fun z => z cI), Bool.false_and, ifF], h⟩
  · rw [decide_eq_true cI]
    cases c2 : inS x (nI 1) (nI 60) with
    | false => exact ⟨s, _, s, by rw [ifT, ifF], by unfold f_M_go; rw [v_seasons h, decide_eq_true cI, of_1, of_60, c2, Bool.true_and, ifF], h⟩
    | true =>
      obtain ⟨n, n1, n2, rfl⟩ := inS_lit c2 (by omega) (by omega)
      obtain ⟨H, L, k1, k2, k3, k4, k5, k6⟩ := iPast_to h.2.2.2.2.1
      obtain ⟨s1, p1, p2, p3, p4, p5⟩ := fc_goSea (H := H) (L := L) (n := n) h hv (by omega) n 0 FU s (by omega) (lt_FU (by omega)) rfl k1 k2 (Fr.refl _ s)
      have hr1 : RS I T B (s.1 21 0) s1 := RS_fr hr (p5.arr fun _ => rfl) (p5.arr fun _ => rfl) (p5.arr fun _ => rfl) (p5.arr fun _ => rfl) (p5.arr fun _ => rfl) (p5.arr fun _ => rfl) (p5.arr fun _ => rfl) (p5.1 _ _ _ rfl) (p5.1 _ _ _ rfl)
      obtain ⟨s2, q1, q2, q3, q4, q5⟩ := fm_goSea (B := B) (W := W) (s0 := s1) (H := H) (L := L) (n := n) hv h6 h8 (by omega) n 0 FU s1 (by omega) (lt_FU (by omega)) (MX_go h p5) hr1 k1.1 k2.1 (mPa_fr k3 (p5.1 _ _ _ rfl) (p5.arr fun _ => rfl)) (mLo_fr k4 (p5.1 _ _ _ rfl) (p5.arr fun _ => rfl)) (Fr.refl _ s1)
      have hF : Fr (Kgo T) s s2 := (p5.mono fun _ _ _ => Kgo_KC).trans (q5.mono fun _ _ _ => Kgo_KM)
      have e21 : s2.1 21 = s1.1 21 := funext fun i => q5.arr fun _ => rfl
      have e22 : s2.1 22 0 = s1.1 22 0 := q5.arr fun _ => rfl
      obtain ⟨z1, z2, z3, z4⟩ := hiS_ok (I := I) (T := T) (B := B) (W := W) (w := s.1 14 0) (v := s.1 21 0) hv k1.1 k2.1 k5 k6 n
      refine ⟨s1, seS I T B W (s.1 14 0) (s.1 21 0) n 42, s2, ?_, ?_, INV_go h hF ?_ ?_ ?_ ?_ (iPast_of h6 h8 h4 (cPa_fr p3 (congrFun e22 2) (congrFun e22 3) fun i => congrFun e21 (5 + i)) (cLo_fr p4 (congrFun e22 4) (congrFun e22 5) (q5.arr fun _ => rfl)) q3 q4 z3 z4) (by rw [e21, p2]; exact PR_se h6 h4 h.1.1.2 n)⟩
      · rw [ifT, ifT, show Int32.ofInt 0 = nI 0 from of_0, p1]
      · unfold f_M_go
        have hs : g_M_areSeasons (nI n) (nI 1) (nI 60) s1 = true := by
          have := v_seasons h (nI n) (nI 1) (nI 60)
          rw [decide_eq_true cI, c2] at this
          rw [show g_M_areSeasons (nI n) (nI 1) (nI 60) s1 = g_M_areSeasons (nI n) (nI 1) (nI 60) s from by
            unfold g_M_areSeasons
            rw [p5.1 60 0 28 rfl]
            rfl]
          exact this
        rw [of_1, of_60, hs, ifT, show Int32.ofInt 0 = nI 0 from of_0, q1]
      · rw [e21, p2]; exact VS_se hv n
      · rw [e21, p2]; exact q2
      · rw [q5.1 60 0 41 rfl, p5.1 60 0 41 rfl]; exact h.1.2.2.2.2.2.2.2.1.1
      · rw [q5.1 60 0 42 rfl, p5.1 60 0 42 rfl]; exact h.1.2.2.2.2.2.2.2.1.2
end
