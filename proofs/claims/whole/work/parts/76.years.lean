/-! ===== years ===== -/
section
variable {I T B R : Nat} {W : Option WF6} {s s' s0 : S2} {w v : Nat → Int32} {H L : Nat × (Nat → Nat → Int32)} {st sa : Int32}
noncomputable def ysS (I T B : Nat) (W : Option WF6) (w v : Nat → Int32) (st sa : Int32) (x : Int64) : Nat → (Nat → Int32) × Int64
  | 0 => (v, x)
  | k + 1 => ((psS I T B W (skS I T (ysS I T B W w v st sa x k).1 st sa (ysS I T B W w v st sa x k).2).1 w onA xN 0).1, (skS I T (ysS I T B W w v st sa x k).1 st sa (ysS I T B W w v st sa x k).2).2)
noncomputable def yuS (I T B : Nat) (W : Option WF6) (w v : Nat → Int32) (st sa : Int32) (x : Int64) (k : Nat) : Nat → Int32 := (skS I T (ysS I T B W w v st sa x k).1 st sa (ysS I T B W w v st sa x k).2).1
noncomputable def yhS (I T B : Nat) (W : Option WF6) (w v : Nat → Int32) (st sa : Int32) (x : Int64) (H : Nat × (Nat → Nat → Int32)) : Nat → Nat × (Nat → Nat → Int32)
  | 0 => H
  | k + 1 => puH (yhS I T B W w v st sa x H k) (ysS I T B W w v st sa x k).1
noncomputable def ylS (I T B : Nat) (W : Option WF6) (w v : Nat → Int32) (st sa : Int32) (x : Int64) (L : Nat × (Nat → Nat → Int32)) : Nat → Nat × (Nat → Nat → Int32)
  | 0 => L
  | k + 1 => puL (ylS I T B W w v st sa x L k) (g3S (psS I T B W (yuS I T B W w v st sa x k) w onA xN 0).2.1 (psS I T B W (yuS I T B W w v st sa x k) w onA xN 0).2.2.1 (psS I T B W (yuS I T B W w v st sa x k) w onA xN 0).2.2.2)
theorem VS_ys {x : Int64} (hv : VS I v) (h8 : T ≤ 8) : ∀ k, VS I (ysS I T B W w v st sa x k).1
  | 0 => hv
  | k + 1 => VS_ps (VS_sk (VS_ys hv h8 k) h8)
theorem PR_ys {x : Int64} (h6 : I ≤ 6) (h8 : T ≤ 8) (h4 : B ≤ 4) (hp : PR I v) : ∀ k, PR I (ysS I T B W w v st sa x k).1
  | 0 => hp
  | k + 1 => fun a ha => by
    show ∃ q : Nat, q ≤ 99 ∧ (psS I T B W (skS I T (ysS I T B W w v st sa x k).1 st sa (ysS I T B W w v st sa x k).2).1 w onA xN 0).1 (43 + a) = nI q
    rw [psS_o h6 h4 (by omega), skS_o h6 h8 (by omega) (by omega)]
    exact PR_ys h6 h8 h4 hp k a ha
theorem ys_ok {x : Int64} (hv : VS I v) (h8 : T ≤ 8) (hH : H.1 ≤ 30) (hL : L.1 ≤ 60) (hl : H.1 ≤ L.1) (hVS : ∀ j, j < H.1 → VS I (H.2 j)) : ∀ k, (yhS I T B W w v st sa x H k).1 ≤ 30 ∧ (ylS I T B W w v st sa x L k).1 ≤ 60 ∧ (yhS I T B W w v st sa x H k).1 ≤ (ylS I T B W w v st sa x L k).1 ∧ ∀ j, j < (yhS I T B W w v st sa x H k).1 → VS I ((yhS I T B W w v st sa x H k).2 j) := by
  intro k
  induction k with
  | zero => exact ⟨hH, hL, hl, hVS⟩
  | succ k ih =>
    obtain ⟨g1, g2, g3, g4⟩ := ih
    have e1 : (yhS I T B W w v st sa x H (k + 1)).1 = min 30 ((yhS I T B W w v st sa x H k).1 + 1) := puH_le g1 _
    have e2 : (ylS I T B W w v st sa x L (k + 1)).1 = min 60 ((ylS I T B W w v st sa x L k).1 + 1) := puL_le g2 _
    refine ⟨by rw [e1]; omega, by rw [e2]; omega, by rw [e1, e2]; omega, puH_VS g1 g4 (VS_ys hv h8 k)⟩
theorem K210_KC {c i k : Nat} (h : KC c i k = false) : K210 c i k = false := (Bool.or_eq_false_iff.mp (Bool.or_eq_false_iff.mp h).2).1
theorem INV_L (h : INV I T B R W s) (J : Nat → Int64) : INV I T B R W (s.1, J) := h
theorem fc_yearsL {n : Nat} {x : Int64} (h : INV I T B R W s0) (hI : 0 < I) (hv : VS I v) (hn : n < 100) (hst : s0.1 25 0 0 = st) (hsa : s0.1 25 0 1 = sa) : ∀ (m k fu : Nat) (s : S2), k + m = n → m < fu → s.1 21 0 = (ysS I T B W (s0.1 14 0) v st sa x k).1 → s.2 25 = (ysS I T B W (s0.1 14 0) v st sa x k).2 → cPa (yhS I T B W (s0.1 14 0) v st sa x H k) s → cLo (ylS I T B W (s0.1 14 0) v st sa x L k) s → Fr KC (s0.1, s.2) s → ∃ s', f_D_years_L30 fu (nI n) (nI k) s = some (s', (ysS I T B W (s0.1 14 0) v st sa x n).1 42) ∧ s'.1 21 0 = (ysS I T B W (s0.1 14 0) v st sa x n).1 ∧ cPa (yhS I T B W (s0.1 14 0) v st sa x H n) s' ∧ cLo (ylS I T B W (s0.1 14 0) v st sa x L n) s' ∧ Fr KC (s0.1, s'.2) s' := by
  have h8 := h.1.2.2.1.1.2.1
  intro m
  induction m with
  | zero =>
    intro k fu s hk hf hs hx hp hl hF
    obtain ⟨f, rfl, hf'⟩ := suc_of hf
    have e : k = n := by omega
    subst e
    refine ⟨s, ?_, hs, hp, hl, hF⟩
    show b_D_years_L30 _ _ _ _ = _
    unfold b_D_years_L30 g_State_season
    rw [if_pos (nI_le (by omega) (by omega)), hs]
  | succ m ih =>
    intro k fu s hk hf hs hx hp hl hF
    obtain ⟨f, rfl, hf'⟩ := suc_lt hf
    obtain ⟨s1, a1, a2, a3⟩ := fc_keep hp
    have e1 : s1.1 21 0 = s.1 21 0 := a3.arr fun _ => rfl
    have F1 : Fr KC (s0.1, s.2) s1 := hF.trans (a3.mono fun _ _ _ => KC_ck)
    have hvk := VS_ys (T := T) (B := B) (W := W) (w := s0.1 14 0) (st := st) (sa := sa) (x := x) hv h8 k
    obtain ⟨s2, b1, b2, b3, b4⟩ := fc_strike (s := s1) (T := T) (st := st) (sa := sa) (by rw [e1, hs]; exact hvk) hI h8 ((F1.1 25 0 0 rfl).trans hst) ((F1.1 25 0 1 rfl).trans hsa)
    rw [e1, hs, a3.2, hx] at b2 b3
    have F2 : Fr KC (s0.1, s2.2) s2 := ⟨fun c i k hk => (b4.1 c i k (K210_KC hk)).trans (F1.1 c i k hk), rfl⟩
    have hc2 : cLo (ylS I T B W (s0.1 14 0) v st sa x L k) s2 := cLo_fr hl ((b4.1 _ _ _ rfl).trans (a3.1 _ _ _ rfl)) ((b4.1 _ _ _ rfl).trans (a3.1 _ _ _ rfl)) ((b4.arr fun _ => rfl).trans (a3.arr fun _ => rfl))
    have e2 : s2.1 21 0 = yuS I T B W (s0.1 14 0) v st sa x k := b2
    obtain ⟨s3, c1, c2, c3, c4, c5, c6, c7⟩ := fc_season (INV_L h s2.2) F2 (by rw [e2]; exact VS_sk hvk h8) hc2
    rw [show ((s0.1, s2.2) : S2).1 14 0 = s0.1 14 0 from rfl, e2] at c2 c3
    have e32 : s3.2 = s2.2 := c4.2
    have hpa : cPa (yhS I T B W (s0.1 14 0) v st sa x H (k + 1)) s3 := by
      rw [hs] at a2
      refine cPa_fr a2 (c6.trans (b4.1 _ _ _ rfl)) (c7.trans (b4.1 _ _ _ rfl)) fun i => (c5 i).trans (b4.arr fun _ => ?_)
      unfold K210
      rw [show (5 + i == 0) = false from by simp]
      rfl
    obtain ⟨s', d1, d2, d3, d4, d5⟩ := ih (k + 1) f s3 (by omega) hf' c2 (by rw [e32]; exact b3) hpa c3 (by rw [e32]; exact c4)
    refine ⟨s', ?_, d2, d3, d4, d5⟩
    show b_D_years_L30 _ _ _ _ = _
    unfold b_D_years_L30
    rw [if_neg (nI_ge (by omega) (by omega)), a1, Option.bind_some, show g_Sea_ties 0 s1 = nI T from (F1.1 15 0 2 rfl).trans h.1.2.2.2.1.2.1, b1, Option.bind_some, c1, Option.bind_some, of_1, nI_add]
    exact d1
/-- what years change of the reference -/
def KMY (c i k : Nat) : Bool := KM c i k || KR c i k
theorem KMY_KM {c i k : Nat} (h : KMY c i k = false) : KM c i k = false := (Bool.or_eq_false_iff.mp h).1
theorem KMY_KR {c i k : Nat} (h : KMY c i k = false) : KR c i k = false := (Bool.or_eq_false_iff.mp h).2
theorem Kgo_KMY {c i k : Nat} (h : Kgo T c i k = false) : KMY c i k = false := by
  unfold KMY
  rw [Kgo_KM h, Kgo_KR h]
  rfl
theorem MX_L {on : Nat → Bool} {x : XT} {e : Nat} (h : MX I T B W on x e w s) (J : Nat → Int64) : MX I T B W on x e w (s.1, J) := h
theorem fm_yearsL {n : Nat} {x : Int64} (hI : 0 < I) (hv : VS I v) (h8 : T ≤ 8) (h4 : B ≤ 4) (hn : n < 100) (hst : s0.1 60 0 38 = st) (hsa : s0.1 60 0 39 = sa) : ∀ (m k fu : Nat) (s : S2), k + m = n → m < fu → MX I T B W onA xN 0 w s → RS I T B (ysS I T B W w v st sa x k).1 s → s.2 60 = (ysS I T B W w v st sa x k).2 → (yhS I T B W w v st sa x H k).1 ≤ 30 → (ylS I T B W w v st sa x L k).1 ≤ 60 → mPa I T B (yhS I T B W w v st sa x H k) s → mLo (ylS I T B W w v st sa x L k) s → Fr KMY (s0.1, s.2) s → ∃ s', f_M_years_L21 fu (nI n) (nI k) s = some (s', (ysS I T B W w v st sa x n).1 42) ∧ RS I T B (ysS I T B W w v st sa x n).1 s' ∧ mPa I T B (yhS I T B W w v st sa x H n) s' ∧ mLo (ylS I T B W w v st sa x L n) s' ∧ Fr KMY (s0.1, s'.2) s' := by
  have h6 := hv.1
  intro m
  induction m with
  | zero =>
    intro k fu s hk hf hX hr hx h30 h60 hp hl hF
    obtain ⟨f, rfl, hf'⟩ := suc_of hf
    have e : k = n := by omega
    subst e
    refine ⟨s, ?_, hr, hp, hl, hF⟩
    show b_M_years_L21 _ _ _ _ = _
    unfold b_M_years_L21
    rw [if_pos (nI_le (by omega) (by omega)), hr.2.2.2]
  | succ m ih =>
    intro k fu s hk hf hX hr hx h30 h60 hp hl hF
    obtain ⟨f, rfl, hf'⟩ := suc_lt hf
    obtain ⟨s1, a1, a2, a3⟩ := fm_keep h6 h8 h30 hr hp
    have hr1 : RS I T B (ysS I T B W w v st sa x k).1 s1 := RS_fr hr (a3.arr fun _ => rfl) (a3.arr fun _ => rfl) (a3.arr fun _ => rfl) (a3.arr fun _ => rfl) (a3.arr fun _ => rfl) (a3.arr fun _ => rfl) (a3.arr fun _ => rfl) (a3.1 _ _ _ rfl) (a3.1 _ _ _ rfl)
    have F1 : Fr KM s s1 := a3.mono fun _ _ _ => KM_mk
    have hX1 := MX_KM hX F1
    have G1 : Fr KMY (s0.1, s.2) s1 := hF.trans (F1.mono fun _ _ _ => KMY_KM)
    have hvk := VS_ys (T := T) (B := B) (W := W) (w := w) (st := st) (sa := sa) (x := x) hv h8 k
    obtain ⟨s2, b1, b2, b3, b4⟩ := fm_blow (s := s1) (st := st) (sa := sa) hI h8 h4 hX1.2.1.1 hvk hr1 hX1.2.1.2.1 ((G1.1 60 0 38 rfl).trans hst) ((G1.1 60 0 39 rfl).trans hsa)
    rw [a3.2, hx] at b2 b3
    have hX2 : MX I T B W onA xN 0 w s2 := MX_KR (MX_L hX1 s2.2) b4
    have G2 : Fr KMY (s0.1, s2.2) s2 := ⟨fun c i k hk => (b4.1 c i k (KMY_KR hk)).trans (G1.1 c i k hk), rfl⟩
    obtain ⟨s3, c1, c2, c3, c4, c5, c6⟩ := fm_pass (VS_sk hvk h8) hX2 b2
    have hl3 : mLo (ylS I T B W w v st sa x L k) s3 := mLo_fr hl ((c6.1 _ _ _ rfl).trans ((b4.1 _ _ _ rfl).trans (a3.1 _ _ _ rfl))) ((c6.arr fun _ => rfl).trans ((b4.arr fun _ => rfl).trans (a3.arr fun _ => rfl)))
    obtain ⟨s4, d1, d2, d3⟩ := fm_note h60 hl3
    rw [c3, c4, c5] at d2
    have hr4 : RS I T B (ysS I T B W w v st sa x (k + 1)).1 s4 := RS_fr c2 (d3.arr fun _ => rfl) (d3.arr fun _ => rfl) (d3.arr fun _ => rfl) (d3.arr fun _ => rfl) (d3.arr fun _ => rfl) (d3.arr fun _ => rfl) (d3.arr fun _ => rfl) (d3.1 _ _ _ rfl) (d3.1 _ _ _ rfl)
    have F4 : Fr KM s2 s4 := (c6.mono fun _ _ _ => KM_MP).trans (d3.mono fun _ _ _ => KM_mn)
    have e42 : s4.2 = s2.2 := F4.2
    have G4 : Fr KMY (s0.1, s4.2) s4 := by
      rw [e42]
      exact G2.trans (F4.mono fun _ _ _ => KMY_KM)
    show ∃ s', b_M_years_L21 _ _ _ _ = _ ∧ _
    unfold b_M_years_L21
    rw [if_neg (nI_ge (by omega) (by omega)), a1, Option.bind_some, b1, Option.bind_some, c1, Option.bind_some, d1, Option.bind_some, of_1, nI_add]
    refine ih (k + 1) f s4 (by omega) hf' (MX_KM hX2 F4) hr4 ((congrFun e42 60).trans b3) ?_ ?_ ?_ d2 G4
    · show (puH _ _).1 ≤ 30
      rw [puH_le h30]; omega
    · show (puL _ _).1 ≤ 60
      rw [puL_le h60]; omega
    · exact mPa_fr a2 ((d3.1 _ _ _ rfl).trans ((c6.1 _ _ _ rfl).trans (b4.1 _ _ _ rfl))) ((d3.arr fun _ => rfl).trans ((c6.arr fun _ => rfl).trans (b4.arr fun _ => rfl)))
theorem q_years (h : INV I T B R W s) (y : Int32) (z : Int64) : ∃ s1 r s2, f_D_years y z s = some (s1, r) ∧ f_M_years y z s1 = some (s2, r) ∧ INV I T B R W s2 := by
  obtain ⟨h6, h8, h4⟩ := h.1.2.2.1.1
  have hv := h.1.2.2.2.2.1
  have hr := h.1.2.2.2.2.2.2.2.2
  unfold f_D_years
  rw [v_hasSea h, g_D_isWithin_eq, of_1, of_60]
  by_cases cI : I = 0
  · rw [decide_eq_false (fun z => z cI)]
    exact ⟨s, _, s, by rw [ifF], by unfold f_M_years; rw [v_seasons h, decide_eq_false (fun z => z cI), Bool.false_and, ifF], h⟩
  · rw [decide_eq_true cI]
    cases c2 : inS y (nI 1) (nI 60) with
    | false => exact ⟨s, _, s, by rw [ifT, ifF], by unfold f_M_years; rw [v_seasons h, decide_eq_true cI, of_1, of_60, c2, Bool.true_and, ifF], h⟩
    | true =>
      obtain ⟨n, n1, n2, rfl⟩ := inS_lit c2 (by omega) (by omega)
      obtain ⟨H, L, k1, k2, k3, k4, k5, k6⟩ := iPast_to h.2.2.2.2.1
      obtain ⟨w1, w2⟩ := h.2.2.2.2.2.1
      obtain ⟨s1, p1, p2, p3, p4, p5⟩ := fc_yearsL (s0 := s) (H := H) (L := L) (n := n) (x := z) (v := s.1 21 0) (st := s.1 60 0 38) (sa := s.1 60 0 39) h (by omega) hv (by omega) w1 w2 n 0 FU (s.1, uJ s.2 25 z) (by omega) (lt_FU (by omega)) rfl (uJ_eq s.2 25 z) k1 k2 (Fr.refl _ _)
      have hr1 : RS I T B (s.1 21 0) (s1.1, uJ s1.2 60 z) := RS_fr hr (p5.arr fun _ => rfl) (p5.arr fun _ => rfl) (p5.arr fun _ => rfl) (p5.arr fun _ => rfl) (p5.arr fun _ => rfl) (p5.arr fun _ => rfl) (p5.arr fun _ => rfl) (p5.1 _ _ _ rfl) (p5.1 _ _ _ rfl)
      have hX1 : MX I T B W onA xN 0 (s.1 14 0) (s1.1, uJ s1.2 60 z) := MX_L (MX_go (INV_L h s1.2) p5) _
      obtain ⟨s2, q1, q2, q3, q4, q5⟩ := fm_yearsL (s0 := s1) (H := H) (L := L) (n := n) (x := z) (st := s.1 60 0 38) (sa := s.1 60 0 39) (by omega) hv h8 h4 (by omega) (p5.1 60 0 38 rfl) (p5.1 60 0 39 rfl) n 0 FU (s1.1, uJ s1.2 60 z) (by omega) (lt_FU (by omega)) hX1 hr1 (uJ_eq s1.2 60 z) k1.1 k2.1 (mPa_fr (s := s) k3 (p5.1 _ _ _ rfl) (p5.arr fun _ => rfl)) (mLo_fr (s := s) k4 (p5.1 _ _ _ rfl) (p5.arr fun _ => rfl)) (Fr.refl _ _)
      have hF : Fr (Kgo T) (s.1, s2.2) s2 := ⟨fun c i k hk => (q5.1 c i k (Kgo_KMY hk)).trans (p5.1 c i k (Kgo_KC hk)), rfl⟩
      have e21 : s2.1 21 = s1.1 21 := funext fun i => q5.arr fun _ => rfl
      have e22 : s2.1 22 0 = s1.1 22 0 := q5.arr fun _ => rfl
      obtain ⟨z1, z2, z3, z4⟩ := ys_ok (I := I) (T := T) (B := B) (W := W) (w := s.1 14 0) (v := s.1 21 0) (st := s.1 60 0 38) (sa := s.1 60 0 39) (x := z) hv h8 k1.1 k2.1 k5 k6 n
      refine ⟨s1, (ysS I T B W (s.1 14 0) (s.1 21 0) (s.1 60 0 38) (s.1 60 0 39) z n).1 42, s2, ?_, ?_, INV_go (INV_L h s2.2) hF ?_ ?_ ?_ ?_ (iPast_of h6 h8 h4 (cPa_fr p3 (congrFun e22 2) (congrFun e22 3) fun i => congrFun e21 (5 + i)) (cLo_fr p4 (congrFun e22 4) (congrFun e22 5) (q5.arr fun _ => rfl)) q3 q4 z3 z4) (by rw [e21, p2]; exact PR_ys h6 h8 h4 h.1.1.2 n)⟩
      · unfold f_Weather_begin
        rw [ifT, ifT, Option.bind_some, Option.bind_some, show Int32.ofInt 0 = nI 0 from of_0, p1]
      · unfold f_M_years
        have hs : g_M_areSeasons (nI n) (nI 1) (nI 60) s1 = true := by
          have := v_seasons h (nI n) (nI 1) (nI 60)
          rw [decide_eq_true cI, c2] at this
          rw [show g_M_areSeasons (nI n) (nI 1) (nI 60) s1 = g_M_areSeasons (nI n) (nI 1) (nI 60) s from by
            unfold g_M_areSeasons
            rw [p5.1 60 0 28 rfl]
            rfl]
          exact this
        rw [of_1, of_60, hs, ifT, Option.bind_some, show Int32.ofInt 0 = nI 0 from of_0, q1]
      · rw [e21, p2]; exact VS_ys hv h8 n
      · rw [e21, p2]; exact q2
      · rw [q5.1 60 0 41 rfl]; exact (p5.1 60 0 41 rfl).trans h.1.2.2.2.2.2.2.2.1.1
      · rw [q5.1 60 0 42 rfl]; exact (p5.1 60 0 42 rfl).trans h.1.2.2.2.2.2.2.2.1.2
end
