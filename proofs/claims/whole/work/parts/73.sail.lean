/-! ===== sail, haste ===== -/
section
variable {I T B R : Nat} {W : Option WF6} {s s0 : S2} {w v : Nat → Int32}
def hlS (b x : Int32) : Int32 := jmax (-b) (jmin b x)
/-- the ship's way: behind how many seasons it is there, whether it was overtaken -/
def shS (X Y : Nat → Int32) (sp : Int32) : Nat → Nat → Int32 → Int32 → Option (Nat × Bool)
  | 0, _, _, _ => none
  | m + 1, k, x, y => if hlS sp (X k - x) = X k - x ∧ hlS (sp - jabs (hlS sp (X k - x))) (Y k - y) = Y k - y then some (k, decide (X k - x = 0 ∧ Y k - y = 0)) else shS X Y sp m (k + 1) (x + hlS sp (X k - x)) (y + hlS (sp - jabs (hlS sp (X k - x))) (Y k - y))
theorem shS_lt {X Y : Nat → Int32} {sp : Int32} : ∀ (m k : Nat) (x y : Int32) (p : Nat × Bool), shS X Y sp m k x y = some p → k ≤ p.1 ∧ p.1 < k + m := by
  intro m
  induction m with
  | zero => intro k x y p h; cases h
  | succ m ih =>
    intro k x y p h
    unfold shS at h
    split at h
    · cases h
      show k ≤ k ∧ k < k + (m + 1)
      omega
    · have := ih _ _ _ p h
      omega
theorem shS_cut {X Y : Nat → Int32} {sp : Int32} : ∀ (m k m' : Nat) (x y : Int32), m ≤ m' → shS X Y sp m k x y = (match shS X Y sp m' k x y with
    | none => none
    | some p => if p.1 < k + m then some p else none) := by
  intro m
  induction m with
  | zero =>
    intro k m' x y _
    show none = _
    cases c : shS X Y sp m' k x y with
    | none => rfl
    | some p =>
      have := shS_lt m' k x y p c
      show none = if p.1 < k + 0 then some p else none
      rw [if_neg (by omega)]
  | succ m ih =>
    intro k m' x y hm
    obtain ⟨m'', rfl⟩ : ∃ i, m' = i + 1 := ⟨m' - 1, by omega⟩
    unfold shS
    by_cases c : hlS sp (X k - x) = X k - x ∧ hlS (sp - jabs (hlS sp (X k - x))) (Y k - y) = Y k - y
    · rw [if_pos c, if_pos c]
      show _ = if k < k + (m + 1) then _ else none
      rw [if_pos (by omega)]
    · rw [if_neg c, if_neg c, ih (k + 1) m'' _ _ (by omega), show k + 1 + m = k + (m + 1) by omega]
theorem i_to {x g X : Int32} : (x + g = X) = (g = X - x) := by
  rw [Int32.eq_sub_iff_add_eq, Int32.add_comm]
theorem i_at {x X : Int32} : (x = X) = (X - x = 0) := by
  rw [Int32.sub_eq_iff_eq_add, Int32.zero_add]
  exact propext ⟨fun h => h.symm, fun h => h.symm⟩
def shN : Option (Nat × Bool) → Int32
  | none => -1
  | some p => nI p.1
def K417 (c i j : Nat) : Bool := c == 41 && (i == 0 && j == 7)
theorem fc_there {X Y : Nat → Int32} {sp : Int32} {n : Nat} (hn : n ≤ 60) : ∀ (m k fu : Nat) (x y : Int32) (s : S2), k + m = n + 1 → m < fu → (∀ o, o ≤ n → 1 ≤ o → s.1 43 0 o = X o ∧ s.1 44 0 o = Y o) → 1 ≤ k → Fr K417 s0 s → ∃ s', f_Forecast_thereBehind_L23 fu sp (nI n) x y (nI k) s = some (s', shN (shS X Y sp m k x y)) ∧ Fr K417 s0 s' ∧ ∀ p, shS X Y sp m k x y = some p → s'.1 41 0 7 = bI p.2 := by
  intro m
  induction m with
  | zero =>
    intro k fu x y s hk hf hq h1 hF
    obtain ⟨f, rfl, hf'⟩ := suc_of hf
    refine ⟨s, ?_, hF, fun p hp => by cases hp⟩
    show b_Forecast_thereBehind_L23 _ _ _ _ _ _ _ = _
    unfold b_Forecast_thereBehind_L23
    rw [if_pos (nI_lt (by omega) (by omega)), of_m1]
    rfl
  | succ m ih =>
    intro k fu x y s hk hf hq h1 hF
    obtain ⟨f, rfl, hf'⟩ := suc_lt hf
    obtain ⟨qx, qy⟩ := hq k (by omega) h1
    have key : ∀ b : Bool, ∃ s', f_Forecast_thereBehind_L59 (f_Forecast_thereBehind_L23 f) sp (nI n) x y (nI k) (bI b) s = (if hlS sp (X k - x) = X k - x ∧ hlS (sp - jabs (hlS sp (X k - x))) (Y k - y) = Y k - y then some (s', nI k) else f_Forecast_thereBehind_L23 f sp (nI n) (x + hlS sp (X k - x)) (y + hlS (sp - jabs (hlS sp (X k - x))) (Y k - y)) (nI (k + 1)) s') ∧ s' = pkS s 41 0 7 (bI b) := by
      intro b
      refine ⟨_, ?_, rfl⟩
      have e43 : (pkS s 41 0 7 (bI b)).1 43 0 k = X k := by rw [pkS_v, if_neg (by omega)]; exact qx
      have e44 : (pkS s 41 0 7 (bI b)).1 44 0 k = Y k := by rw [pkS_v, if_neg (by omega)]; exact qy
      unfold f_Forecast_thereBehind_L59 f_Forecast_thereBehind_L141 g_D_held
      rw [if_pos (show bI b = 0 ∨ bI b = 1 by cases b <;> decide), Option.bind_some, ix_nI (n := 61) (k := k) (by omega) (by omega), Option.bind_some, Option.bind_some, Option.bind_some, Option.bind_some, e43, e44, of_1, nI_add]
      rw [show jmax (-sp) (jmin sp (X k - x)) = hlS sp (X k - x) from rfl]
      rw [show jmax (-(sp - jabs (hlS sp (X k - x)))) (jmin (sp - jabs (hlS sp (X k - x))) (Y k - y)) = hlS (sp - jabs (hlS sp (X k - x))) (Y k - y) from rfl]
      by_cases c1 : hlS sp (X k - x) = X k - x
      · rw [if_pos (i_to.mpr c1)]
        by_cases c2 : hlS (sp - jabs (hlS sp (X k - x))) (Y k - y) = Y k - y
        · rw [if_pos (i_to.mpr c2), if_pos ⟨c1, c2⟩]
        · rw [if_neg (fun z => c2 (i_to.mp z)), if_neg (fun z => c2 z.2)]
      · rw [if_neg (fun z => c1 (i_to.mp z)), if_neg (fun z => c1 z.1)]
    have main : ∀ b : Bool, b = decide (X k - x = 0 ∧ Y k - y = 0) → ∃ s', f_Forecast_thereBehind_L59 (f_Forecast_thereBehind_L23 f) sp (nI n) x y (nI k) (bI b) s = some (s', shN (shS X Y sp (m + 1) k x y)) ∧ Fr K417 s0 s' ∧ ∀ p, shS X Y sp (m + 1) k x y = some p → s'.1 41 0 7 = bI p.2 := by
      intro b hb
      obtain ⟨s1, a1, a2⟩ := key b
      have hF1 : Fr K417 s0 s1 := by rw [a2]; exact hF.pk' _ rfl
      rw [a1]
      unfold shS
      by_cases c : hlS sp (X k - x) = X k - x ∧ hlS (sp - jabs (hlS sp (X k - x))) (Y k - y) = Y k - y
      · rw [if_pos c, if_pos c]
        refine ⟨s1, rfl, hF1, fun p hp => ?_⟩
        cases hp
        rw [a2, pkS_v, if_pos ⟨rfl, rfl, rfl⟩, hb]
      · rw [if_neg c, if_neg c]
        exact ih (k + 1) f _ _ s1 (by omega) hf' (fun o h2 h3 => by rw [a2, pkS_v, if_neg (by omega), pkS_v, if_neg (by omega)]; exact hq o h2 h3) (by omega) hF1
    show ∃ s', b_Forecast_thereBehind_L23 _ _ _ _ _ _ _ = _ ∧ _
    unfold b_Forecast_thereBehind_L23 f_Forecast_thereBehind_L58
    rw [if_neg (nI_nlt (by omega) (by omega)), ix_nI (n := 61) (k := k) (by omega) (by omega), Option.bind_some, Option.bind_some, qx, qy, show Int32.ofInt 1 = bI true from of_1, show Int32.ofInt 0 = bI false from rfl]
    by_cases c1 : X k - x = 0
    · rw [if_pos (i_at.mpr c1)]
      by_cases c2 : Y k - y = 0
      · rw [if_pos (i_at.mpr c2)]
        exact main true (decide_eq_true ⟨c1, c2⟩).symm
      · rw [if_neg (fun z => c2 (i_at.mp z))]
        exact main false (decide_eq_false (fun z => c2 z.2)).symm
    · rw [if_neg (fun z => c1 (i_at.mp z))]
      exact main false (decide_eq_false (fun z => c1 z.1)).symm
theorem fc_thereB {X Y : Nat → Int32} {sp : Int32} {n a : Nat} (hn : n ≤ 60) (hv : VS I (s.1 21 0)) (ha : a < I) (hq : ∀ o, o ≤ n → 1 ≤ o → s.1 43 0 o = X o ∧ s.1 44 0 o = Y o) : ∃ s', f_Forecast_thereBehind (nI a) sp (nI n) s = some (s', shN (shS X Y sp n 1 (s.1 21 0 (hdS (s.1 21 0) a)) (s.1 21 0 (6 + hdS (s.1 21 0) a)))) ∧ Fr K417 s s' ∧ ∀ p, shS X Y sp n 1 (s.1 21 0 (hdS (s.1 21 0) a)) (s.1 21 0 (6 + hdS (s.1 21 0) a)) = some p → s'.1 41 0 7 = bI p.2 := by
  unfold f_Forecast_thereBehind
  rw [fc_xOf hv ha, Option.bind_some, fc_yOf hv ha, Option.bind_some, of_1]
  exact fc_there hn n 1 FU _ _ s (by omega) (lt_FU (by omega)) hq (by omega) (Fr.refl _ s)
/-- the way of an isle -/
def wxS (q : Nat → Nat → Int32) (b o : Nat) : Int32 := q o (hdS (q o) b)
def wyS (q : Nat → Nat → Int32) (b o : Nat) : Int32 := q o (6 + hdS (q o) b)
theorem fc_wayL {n b : Nat} (hv : VS I v) (hn : n ≤ 60) (hb : b < I) : ∀ (m k fu : Nat) (s : S2), k + m = n + 1 → 1 ≤ k → m < fu → CX I T B W onA xN 0 w s → s.1 21 2 = seS I T B W w v (k - 1) → (∀ o, o < k → 1 ≤ o → s.1 43 0 o = wxS (seS I T B W w v) b o ∧ s.1 44 0 o = wyS (seS I T B W w v) b o) → Fr KS s0 s → ∃ s', f_Forecast_recordWay_L6 fu (nI b) (nI n) (nI k) s = some s' ∧ (∀ o, o ≤ n → 1 ≤ o → s'.1 43 0 o = wxS (seS I T B W w v) b o ∧ s'.1 44 0 o = wyS (seS I T B W w v) b o) ∧ Fr KS s0 s' := by
  intro m
  induction m with
  | zero =>
    intro k fu s hk h1 hf hX hs hq hF
    obtain ⟨f, rfl, hf'⟩ := suc_of hf
    refine ⟨s, ?_, fun o ho => hq o (by omega), hF⟩
    show b_Forecast_recordWay_L6 _ _ _ _ _ = _
    unfold b_Forecast_recordWay_L6
    rw [if_pos (nI_lt (by omega) (by omega))]
  | succ m ih =>
    intro k fu s hk h1 hf hX hs hq hF
    obtain ⟨f, rfl, hf'⟩ := suc_lt hf
    obtain ⟨s1, a1, a3, -, -, -, a6⟩ := fc_pass (i := 2) (by rw [hs]; exact VS_se hv (k - 1)) hX
    rw [hs, show (psS I T B W (seS I T B W w v (k - 1)) w onA xN 0).1 = seS I T B W w v (k - 1 + 1) from rfl, show k - 1 + 1 = k by omega] at a3
    have a2 := CX_KP hX a6
    have hvk := VS_se (T := T) (B := B) (W := W) (w := w) hv k
    obtain ⟨t, ht⟩ : ∃ t, pkS (pkS s1 43 0 k (wxS (seS I T B W w v) b k)) 44 0 k (wyS (seS I T B W w v) b k) = t := ⟨_, rfl⟩
    have F1 : Fr (fun c _ _ => c == 43 || c == 44) s1 t := by rw [← ht]; exact ((Fr.refl _ s1).pk' _ rfl).pk' _ rfl
    obtain ⟨s', b1, b2, b3⟩ := ih (k + 1) f t (by omega) (by omega) hf' (CX_fr a2 F1 (fun _ => ⟨rfl, rfl, fun _ => ⟨rfl, rfl⟩, rfl, rfl, rfl, rfl⟩) rfl rfl rfl) (by rw [show k + 1 - 1 = k by omega, F1.arr fun _ => rfl]; exact a3) (fun o h2 h3 => by
      by_cases c : o = k
      · rw [← ht, c]
        exact ⟨by rw [pkS_v, if_neg (by omega), pkS_v, if_pos ⟨rfl, rfl, rfl⟩], by rw [pkS_v, if_pos ⟨rfl, rfl, rfl⟩]⟩
      · rw [← ht, pkS_v, if_neg (by omega), pkS_v, if_neg (by omega), pkS_v, if_neg (by omega), pkS_v, if_neg (by omega), a6.1 43 0 o rfl, a6.1 44 0 o rfl]
        exact hq o (by omega) h3) ((hF.trans (a6.mono fun _ _ _ => KP2_KS)).trans (F1.mono fun c i j hk => by
      cases q1 : c == 43 with
      | true => rw [eq_of_beq q1] at hk; unfold KS at hk; simp at hk
      | false =>
        cases q2 : c == 44 with
        | true => rw [eq_of_beq q2] at hk; unfold KS at hk; simp at hk
        | false => rfl))
    refine ⟨s', ?_, b2, b3⟩
    show b_Forecast_recordWay_L6 _ _ _ _ _ = _
    unfold b_Forecast_recordWay_L6
    have ex : f_State_xOf 2 (nI b) s1 = some (wxS (seS I T B W w v) b k) := by
      rw [fc_xOf (by rw [a3]; exact hvk) hb, a3]; rfl
    have ey : f_State_yOf 2 (nI b) (pkS s1 43 0 k (wxS (seS I T B W w v) b k)) = some (wyS (seS I T B W w v) b k) := by
      have e : (pkS s1 43 0 k (wxS (seS I T B W w v) b k)).1 21 2 = seS I T B W w v k := by rw [pkS_1, if_neg (by omega)]; exact a3
      rw [fc_yOf (by rw [e]; exact hvk) hb, e]; rfl
    rw [if_neg (nI_nlt (by omega) (by omega)), a1, Option.bind_some, ex, Option.bind_some, ix_nI (n := 61) (k := k) (by omega) (by omega), Option.bind_some, Option.bind_some, ey, Option.bind_some, Option.bind_some, Option.bind_some, ht, of_1, nI_add]
    exact b1
theorem fc_way {n b : Nat} (h : INV I T B R W s) (hn : n ≤ 60) (hb : b < I) : ∃ v s', f_Forecast_recordWay (nI b) (nI n) s = some s' ∧ VS I v ∧ AG (s.1 21 0) v ∧ (∀ o, o ≤ n → 1 ≤ o → s'.1 43 0 o = wxS (seS I T B W (s.1 14 0) v) b o ∧ s'.1 44 0 o = wyS (seS I T B W (s.1 14 0) v) b o) ∧ Fr KS s s' := by
  obtain ⟨s1, p1, p2, p3, p4, p5⟩ := fc_begin h
  obtain ⟨s', q1, q2, q3⟩ := fc_wayL (s0 := s) (v := s1.1 21 2) (n := n) (b := b) p3 hn hb n 1 FU s1 (by omega) (by omega) (lt_FU (by omega)) p2 rfl (fun o h2 h3 => by omega) p5
  refine ⟨s1.1 21 2, s', ?_, p3, p4, q2, q3⟩
  unfold f_Forecast_recordWay
  rw [p1, Option.bind_some, of_1, q1]
theorem K417_KS {c i k : Nat} (h : KS c i k = false) : K417 c i k = false := by
  unfold K417
  cases q : c == 41 with
  | false => rfl
  | true => rw [eq_of_beq q] at h; unfold KS at h; simp at h
/-- the reference's ship -/
def finM (q : Option (Nat × Bool)) (s : S2) : Prop := s.1 60 0 60 = shN q ∧ ∀ p, q = some p → s.1 60 0 61 = bI p.2
theorem fm_shipL {sp : Int32} {b : Nat} (hv : VS I v) (hb : b < I) : ∀ (m k fu : Nat) (x y : Int32) (s : S2), k + m = 61 → 1 ≤ k → m + 1 < fu → MK5 I T B W w v (k - 1) s → s.1 60 0 60 = -1 → Fr (MS T) s0 s → ∃ s', f_M_sailAll_L38 fu (nI b) sp x y (nI k) s = f_M_sailAll_L189 s' ∧ SV I T B v 91 0 s' ∧ finM (shS (wxS (seS I T B W w v) b) (wyS (seS I T B W w v) b) sp m k x y) s' ∧ Fr (MS T) s0 s' := by
  have h6 := hv.1
  intro m
  induction m with
  | zero =>
    intro k fu x y s hk h1 hf hX hs hF
    obtain ⟨f, rfl, hf'⟩ := suc_of (show 0 < fu by omega)
    refine ⟨s, ?_, hX.2.2, ⟨hs, fun p hp => by cases hp⟩, hF⟩
    show b_M_sailAll_L38 _ _ _ _ _ _ _ = _
    unfold b_M_sailAll_L38
    rw [of_60, if_pos (nI_lt (by omega) (by omega))]
  | succ m ih =>
    intro k fu x y s hk h1 hf hX hs hF
    obtain ⟨f, rfl, hf'⟩ := suc_lt hf
    obtain ⟨s1, a1, a2, -, -, a5⟩ := fms_step hv hX
    rw [show k - 1 + 1 = k by omega] at a2
    have hvk := VS_se (T := T) (B := B) (W := W) (w := w) hv k
    obtain ⟨g1, g2, -⟩ := hvk.2.1 b hb
    have e82 := RS_hd hvk a2.2.1 hb
    have r := a2.2.1.1 _ g2
    have ex : s1.1 79 0 (hdS (seS I T B W w v k) b) = wxS (seS I T B W w v) b k := r.1.symm
    have ey : s1.1 80 0 (hdS (seS I T B W w v k) b) = wyS (seS I T B W w v) b k := r.2.1.symm
    generalize hX' : wxS (seS I T B W w v) b = X at ex ih
    generalize hY' : wyS (seS I T B W w v) b = Y at ey ih
    have hF1 := hF.trans a5
    have keep : ∀ (t : S2) (z : Int32) (c : Nat), ¬ c = 36 → ¬ c = 37 → ¬ c = 28 → ¬ c = 29 → ¬ c = 30 → ¬ c = 40 → ¬ c = 41 → ¬ c = 42 → MK5 I T B W w v k t → MK5 I T B W w v k (pkS t 60 0 c z) := fun t z c c1 c2 c3 c4 c5 c6 c7 c8 ht => by
      refine ⟨MX_fr ht.1 (Fr.pk (K := fun c' _ k' => c' == 60 && k' == c) (by simp) t z) (fun _ => ⟨rfl, rfl, rfl, rfl, rfl, rfl, rfl, rfl, rfl, rfl⟩) ⟨?_, ?_, ?_, ?_, ?_, ?_⟩, RS_52 ht.2.1 c1 c2 z, SV_fr ht.2.2 (by rw [pkS_1, if_neg (by omega)])⟩ <;> simp <;> omega
    have key : ∀ bb : Bool, bb = decide (X k - x = 0 ∧ Y k - y = 0) → ∃ s', f_M_sailAll_L105 (f_M_sailAll_L38 f) (nI b) sp x y (nI k) (X k - x) (Y k - y) (bI bb) s1 = f_M_sailAll_L189 s' ∧ SV I T B v 91 0 s' ∧ finM (shS X Y sp (m + 1) k x y) s' ∧ Fr (MS T) s0 s' := by
      intro bb hbb
      have k1 := keep s1 (bI bb) 61 (by omega) (by omega) (by omega) (by omega) (by omega) (by omega) (by omega) (by omega) a2
      have go2 : ∃ s', f_M_sailAll_L179 (f_M_sailAll_L38 f) (nI b) sp (x + hlS sp (X k - x)) (y + hlS (sp - jabs (hlS sp (X k - x))) (Y k - y)) (nI k) (pkS s1 60 0 61 (bI bb)) = f_M_sailAll_L189 s' ∧ SV I T B v 91 0 s' ∧ finM (shS X Y sp m (k + 1) (x + hlS sp (X k - x)) (y + hlS (sp - jabs (hlS sp (X k - x))) (Y k - y))) s' ∧ Fr (MS T) s0 s' := by
        have k2 := keep _ (-1) 60 (by omega) (by omega) (by omega) (by omega) (by omega) (by omega) (by omega) (by omega) k1
        obtain ⟨s', b1, b2, b3, b4⟩ := ih (k + 1) f (x + hlS sp (X k - x)) (y + hlS (sp - jabs (hlS sp (X k - x))) (Y k - y)) (pkS (pkS s1 60 0 61 (bI bb)) 60 0 60 (-1)) (by omega) (by omega) (by omega) (by rw [show k + 1 - 1 = k by omega]; exact k2) (by rw [pkS_v, if_pos ⟨rfl, rfl, rfl⟩]) ((hF1.pk' _ (by unfold MS; simp)).pk' _ (by unfold MS; simp))
        refine ⟨s', ?_, b2, b3, b4⟩
        unfold f_M_sailAll_L179 f_M_sailAll_L180
        rw [of_m1, Option.bind_some, of_1, nI_add]
        exact b1
      unfold f_M_sailAll_L105
      rw [if_pos (show bI bb = 0 ∨ bI bb = 1 by cases bb <;> decide), Option.bind_some]
      rw [show jmax (-sp) (jmin sp (X k - x)) = hlS sp (X k - x) from rfl]
      rw [show jmax (-(sp - jabs (hlS sp (X k - x)))) (jmin (sp - jabs (hlS sp (X k - x))) (Y k - y)) = hlS (sp - jabs (hlS sp (X k - x))) (Y k - y) from rfl]
      unfold shS
      by_cases c1 : hlS sp (X k - x) = X k - x
      · rw [if_pos c1]
        by_cases c2 : hlS (sp - jabs (hlS sp (X k - x))) (Y k - y) = Y k - y
        · rw [if_pos c2, if_pos ⟨c1, c2⟩]
          have k2 := keep _ (nI k) 60 (by omega) (by omega) (by omega) (by omega) (by omega) (by omega) (by omega) (by omega) k1
          refine ⟨pkS (pkS s1 60 0 61 (bI bb)) 60 0 60 (nI k), ?_, k2.2.2, ⟨by rw [pkS_v, if_pos ⟨rfl, rfl, rfl⟩]; rfl, fun p hp => ?_⟩, (hF1.pk' _ (by unfold MS; simp)).pk' _ (by unfold MS; simp)⟩
          · unfold f_M_sailAll_L180
            rw [Option.bind_some]
            obtain ⟨f', rfl, -⟩ := suc_of (show 0 < f by omega)
            show b_M_sailAll_L38 _ _ _ _ _ _ _ = _
            unfold b_M_sailAll_L38
            rw [of_m1, if_neg (show ¬ (pkS (pkS s1 60 0 61 (bI bb)) 60 0 60 (nI k)).1 60 0 60 = -1 by rw [pkS_v, if_pos ⟨rfl, rfl, rfl⟩]; exact cdO_nm1 k (by omega))]
            split <;> rfl
          · cases hp
            rw [pkS_v, if_neg (by omega), pkS_v, if_pos ⟨rfl, rfl, rfl⟩, hbb]
        · rw [if_neg c2, if_neg (fun z => c2 z.2)]
          exact go2
      · rw [if_neg c1, if_neg (fun z => c1 z.1)]
        exact go2
    show ∃ s', b_M_sailAll_L38 _ _ _ _ _ _ _ = _ ∧ _
    unfold b_M_sailAll_L38 f_M_sailAll_L104
    rw [of_60, if_neg (nI_nlt (by omega) (by omega)), of_m1, if_pos hs, a1, Option.bind_some, ix_nI (n := 6) (k := b) (by omega) (by omega), Option.bind_some, e82, ix_nI (n := 6) (k := hdS (seS I T B W w v k) b) (by omega) (by omega), Option.bind_some, Option.bind_some, e82, ix_nI (n := 6) (k := hdS (seS I T B W w v k) b) (by omega) (by omega), Option.bind_some, ex, ey, show Int32.ofInt 1 = bI true from of_1, show Int32.ofInt 0 = bI false from rfl]
    by_cases c1 : X k - x = 0
    · rw [if_pos c1]
      by_cases c2 : Y k - y = 0
      · rw [if_pos c2]
        exact key true (decide_eq_true ⟨c1, c2⟩).symm
      · rw [if_neg c2]
        exact key false (decide_eq_false (fun z => c2 z.2)).symm
    · rw [if_neg c1]
      exact key false (decide_eq_false (fun z => c1 z.1)).symm
def KTB (c i k : Nat) : Bool := KR c i k || (c == 60 && (k == 41 || k == 42))
theorem KTB_60 {k : Nat} (h : ¬ k = 36 ∧ ¬ k = 37 ∧ ¬ k = 41 ∧ ¬ k = 42) : KTB 60 0 k = false := by
  unfold KTB
  rw [KR_f (by omega)]
  simp [h]
theorem KTB_c {c i k : Nat} (h : ¬ c = 79 ∧ ¬ c = 80 ∧ ¬ c = 81 ∧ ¬ c = 82 ∧ ¬ c = 83 ∧ ¬ c = 76 ∧ ¬ c = 77 ∧ ¬ c = 60) : KTB c i k = false := by
  unfold KTB
  rw [KR_f (by omega)]
  simp [h]
theorem fm_endF {I T B R : Nat} {W : Option WF6} {s1 s : S2} {v : Nat → Int32} (h : INV I T B R W s1) (hA : AG (s1.1 21 0) v) (hF : Fr (MS T) s1 s) (hS : SV I T B v 91 0 s) : ∃ s', f_M_takeBack s = some s' ∧ INV I T B R W s' ∧ Fr KTB s s' := by
  obtain ⟨h6, h8, h4⟩ := h.1.2.2.1.1
  obtain ⟨s2, a1, a2, a3⟩ := fm_read (s := s) (c := 91) (n := 46) (off := 0) (u := fun j => s.1 76 0 (8 * (j - 43) + 7)) (fl := true) (Or.inl rfl) (by omega) (by omega) h6 h8 h4 hS (fun a ha => by rw [show 43 + a - 43 = a by omega])
  rw [mxS_true] at a2
  have F2 : Fr (MS T) s1 (pkS (pkS s2 60 0 41 0) 60 0 42 0) := ((hF.trans (a3.mono fun _ _ _ => KR_MS)).pk' _ (by unfold MS; simp)).pk' _ (by unfold MS; simp)
  refine ⟨pkS (pkS s2 60 0 41 0) 60 0 42 0, ?_, INV_MS h F2 (RS_52 (RS_52 (RS_ag h6 h8 h4 a2 (AG_symm hA)) (by omega) (by omega) _) (by omega) (by omega) _) ?_ ?_, ((a3.mono (K' := KTB) fun _ _ _ hk => (Bool.or_eq_false_iff.mp hk).1).pk' _ (by unfold KTB; simp)).pk' _ (by unfold KTB; simp)⟩
  · unfold f_M_takeBack
    rw [of_0, of_1, show nI 1 = bI true from rfl]
    rw [nI_0] at a1
    rw [a1]
    rfl
  · rw [pkS_v, if_neg (by omega), pkS_v, if_pos ⟨rfl, rfl, rfl⟩]
  · rw [pkS_v, if_pos ⟨rfl, rfl, rfl⟩]
theorem fm_sailAll {sp : Int32} {a b : Nat} (h : INV I T B R W s) (hv : VS I v) (hA : AG (s.1 21 0) v) (ha : a < I) (hb : b < I) : ∃ s', f_M_sailAll (nI a) (nI b) sp s = some s' ∧ INV I T B R W s' ∧ finM (shS (wxS (seS I T B W (s.1 14 0) v) b) (wyS (seS I T B W (s.1 14 0) v) b) sp 60 1 (v (hdS v a)) (v (6 + hdS v a))) s' ∧ s'.1 14 0 = s.1 14 0 ∧ s'.1 21 0 = s.1 21 0 := by
  have h6 := hv.1
  obtain ⟨t1, u1, u2, u3⟩ := fm_begin (v := v) h hA
  obtain ⟨g1, g2, -⟩ := hv.2.1 a ha
  have e82 := RS_hd hv u2.2.1 ha
  have r := u2.2.1.1 _ g2
  obtain ⟨t, ht⟩ : ∃ t, pkS t1 60 0 60 (-1) = t := ⟨_, rfl⟩
  have hX : MK5 I T B W (s.1 14 0) v 0 t := by
    rw [← ht]
    refine ⟨MX_fr u2.1 (Fr.pk (K := fun c' _ k' => c' == 60 && k' == 60) (by simp) t1 (-1)) (fun _ => ⟨rfl, rfl, rfl, rfl, rfl, rfl, rfl, rfl, rfl, rfl⟩) ⟨rfl, rfl, rfl, rfl, rfl, rfl⟩, RS_52 u2.2.1 (by omega) (by omega) _, SV_fr u2.2.2 (by rw [pkS_1, if_neg (by omega)])⟩
  obtain ⟨t2, w1, w2, w3, w4⟩ := fm_shipL (s0 := s) (sp := sp) (b := b) hv hb 60 1 FU (v (hdS v a)) (v (6 + hdS v a)) t (by omega) (by omega) (lt_FU (by omega)) hX (by rw [← ht, pkS_v, if_pos ⟨rfl, rfl, rfl⟩]) (by rw [← ht]; exact u3.pk' _ (by unfold MS; simp))
  obtain ⟨t3, x1, x2, x3⟩ := fm_endF h hA w4 w2
  refine ⟨t3, ?_, x2, ⟨(x3.1 60 0 60 (KTB_60 (by omega))).trans w3.1, fun p hp => (x3.1 60 0 61 (KTB_60 (by omega))).trans (w3.2 p hp)⟩, (x3.arr fun _ => KTB_c (by omega)).trans (w4.arr fun _ => rfl), (x3.arr fun _ => KTB_c (by omega)).trans (w4.arr fun _ => rfl)⟩
  unfold f_M_sailAll
  rw [u1, Option.bind_some, ix_nI (n := 6) (k := a) (by omega) (by omega), Option.bind_some, e82, ix_nI (n := 6) (k := hdS v a) (by omega) (by omega), Option.bind_some, Option.bind_some, e82, ix_nI (n := 6) (k := hdS v a) (by omega) (by omega), Option.bind_some, of_m1, Option.bind_some, ht, ← show v (hdS v a) = t1.1 79 0 (hdS v a) from r.1, ← show v (6 + hdS v a) = t1.1 80 0 (hdS v a) from r.2.1, of_1, w1]
  unfold f_M_sailAll_L189
  rw [x1]
  rfl
def saS (l : Nat) : Option (Nat × Bool) → Int32
  | none => -1
  | some p => if l = 0 then nI p.1 else bI p.2
theorem areTwo_tr {s' : S2} (h : INV I T B R W s) (h' : INV I T B R W s') (x y : Int32) : g_M_areTwo x y s' = g_D_areTwo x y s := by
  rw [(v_areTwo h' x y).1]
  unfold g_D_areTwo
  rw [(v_isle h' x).1, (v_isle h' y).1, (v_isle h x).1, (v_isle h y).1]
theorem q_sail (h : INV I T B R W s) (x y z u : Int32) : ∃ s1 r s2, f_D_sail x y z u s = some (s1, r) ∧ f_M_sail x y z u s1 = some (s2, r) ∧ INV I T B R W s2 := by
  have h6 := h.1.2.2.1.1.1
  unfold f_D_sail
  rw [g_D_isWithin_eq, g_D_isWithin_eq, of_1, of_99, of_60, show Int32.ofInt 0 = nI 0 from of_0]
  cases c : g_D_areTwo x y s with
  | false => exact ⟨s, _, s, by rw [ifF], by unfold f_M_sail; rw [areTwo_tr h h, c, ifF], h⟩
  | true =>
    cases c1 : inS z (nI 1) (nI 99) with
    | false => exact ⟨s, _, s, by rw [ifT, ifF], by unfold f_M_sail; rw [areTwo_tr h h, c, ifT, g_M_in_eq, of_1, of_99, c1, ifF], h⟩
    | true =>
      cases c2 : inS u (nI 0) (nI 1) with
      | false => exact ⟨s, _, s, by rw [ifT, ifT, ifF], by unfold f_M_sail; rw [areTwo_tr h h, c, ifT, g_M_in_eq, of_1, of_99, c1, ifT, g_M_in_eq, show Int32.ofInt 0 = nI 0 from of_0, c2, ifF], h⟩
      | true =>
        obtain ⟨a, b, a1, b1, -, ex, ey⟩ := (v_areTwo h x y).2 c
        obtain ⟨l, -, l2, rfl⟩ := inS_lit c2 (by omega) (by omega)
        obtain ⟨v, s1, p1, p2, p3, p4, p5⟩ := fc_way h (show 60 ≤ 60 by omega) b1
        have e21 : s1.1 21 0 = s.1 21 0 := p5.arr fun _ => rfl
        obtain ⟨s2, q1, q2, q3⟩ := fc_thereB (sp := z) (show 60 ≤ 60 by omega) (show VS I (s1.1 21 0) by rw [e21]; exact h.1.2.2.2.2.1) a1 p4
        have eh : hdS v a = hdS (s.1 21 0) a := by unfold hdS; rw [p3 (18 + a) (by omega)]
        have hl := (h.1.2.2.2.2.1.2.1 a a1).2.1
        have hF2 : Fr KS s s2 := p5.trans (q2.mono fun _ _ _ => K417_KS)
        have h2 := INV_KS h hF2
        have e21' : s2.1 21 0 = s.1 21 0 := hF2.arr fun _ => rfl
        obtain ⟨s3, w1, w2, w3, -⟩ := fm_sailAll (sp := z) h2 p2 (by rw [e21']; exact p3) a1 b1
        rw [show s2.1 14 0 = s.1 14 0 from hF2.arr fun _ => rfl, eh, p3 _ (by omega), p3 _ (by omega)] at w3
        rw [e21] at q1 q3
        generalize hq : shS (wxS (seS I T B W (s.1 14 0) v) b) (wyS (seS I T B W (s.1 14 0) v) b) z 60 1 (s.1 21 0 (hdS (s.1 21 0) a)) (s.1 21 0 (6 + hdS (s.1 21 0) a)) = q at w3 q1 q3
        refine ⟨s2, saS l q, s3, ?_, ?_, w2⟩
        · rw [ifT, ifT, ifT, ex, ey, p1, Option.bind_some, q1, Option.bind_some, of_m1]
          cases q with
          | none =>
            rcases (show l = 0 ∨ l = 1 by omega) with rfl | rfl
            · rw [if_pos nI_0]; rfl
            · rw [if_neg (show ¬ nI 1 = 0 by decide), if_pos (show (s2, shN none).2 = -1 from rfl)]; rfl
          | some p =>
            have hp := shS_lt _ _ _ _ p hq
            rcases (show l = 0 ∨ l = 1 by omega) with rfl | rfl
            · rw [if_pos nI_0]; rfl
            · rw [if_neg (show ¬ nI 1 = 0 by decide), if_neg (show ¬ (s2, shN (some p)).2 = -1 from cdO_nm1 p.1 (by omega))]
              unfold f_Forecast_wasOvertaken
              rw [show (s2, shN (some p)).1.1 41 0 7 = bI p.2 from q3 p rfl]
              obtain ⟨pn, pb⟩ := p
              cases pb <;> rfl
        · unfold f_M_sail f_M_sail_L51
          rw [areTwo_tr h h2, c, ifT, g_M_in_eq, of_1, of_99, c1, ifT, g_M_in_eq, show Int32.ofInt 0 = nI 0 from of_0, c2, ifT, ex, ey, w1, Option.bind_some, of_m1, w3.1]
          cases q with
          | none => exact if_pos rfl
          | some p =>
            have hp := shS_lt _ _ _ _ p hq
            rw [if_neg (show ¬ shN (some p) = -1 from cdO_nm1 p.1 (by omega)), w3.2 p rfl]
            rcases (show l = 0 ∨ l = 1 by omega) with rfl | rfl
            · rw [if_pos nI_0]; rfl
            · rw [if_neg (show ¬ nI 1 = 0 by decide)]
              obtain ⟨pn, pb⟩ := p
              cases pb <;> rfl
/-- the least speed -/
def haS (X Y : Nat → Int32) (x y : Int32) (n : Nat) : Nat → Nat → Option Nat := ffS fun sp => (shS X Y (nI sp) n 1 x y).isSome
theorem fc_hasteL {X Y : Nat → Int32} {n a : Nat} {u : Nat → Int32} (hn : n ≤ 60) (hv : VS I u) (ha : a < I) : ∀ (m k fu : Nat) (s : S2), k + m = 100 → m < fu → s.1 21 0 = u → (∀ o, o ≤ n → 1 ≤ o → s.1 43 0 o = X o ∧ s.1 44 0 o = Y o) → Fr K417 s0 s → ∃ s', f_Forecast_leastSpeed_L9 fu (nI a) (nI n) (nI k) s = some (s', cdO (haS X Y (u (hdS u a)) (u (6 + hdS u a)) n m k)) ∧ Fr K417 s0 s' := by
  intro m
  induction m with
  | zero =>
    intro k fu s hk hf hs hq hF
    obtain ⟨f, rfl, hf'⟩ := suc_of hf
    refine ⟨s, ?_, hF⟩
    show b_Forecast_leastSpeed_L9 _ _ _ _ _ = _
    unfold b_Forecast_leastSpeed_L9
    rw [of_99, if_pos (nI_lt (by omega) (by omega)), of_m1]
    rfl
  | succ m ih =>
    intro k fu s hk hf hs hq hF
    obtain ⟨f, rfl, hf'⟩ := suc_lt hf
    obtain ⟨s1, a1, a2, a3⟩ := fc_thereB (sp := nI k) hn (show VS I (s.1 21 0) by rw [hs]; exact hv) ha hq
    rw [hs] at a1 a3
    have hF1 := hF.trans a2
    show ∃ s', b_Forecast_leastSpeed_L9 _ _ _ _ _ = _ ∧ _
    unfold b_Forecast_leastSpeed_L9
    rw [of_99, if_neg (nI_nlt (by omega) (by omega)), a1, Option.bind_some, of_m1, of_1, nI_add]
    cases c : shS X Y (nI k) n 1 (u (hdS u a)) (u (6 + hdS u a)) with
    | none =>
      rw [show haS X Y (u (hdS u a)) (u (6 + hdS u a)) n (m + 1) k = haS X Y (u (hdS u a)) (u (6 + hdS u a)) n m (k + 1) from ffS_f (by rw [c]; rfl)]
      rw [if_pos (show (s1, shN none).2 = -1 from rfl)]
      exact ih (k + 1) f s1 (by omega) hf' ((a2.arr fun _ => rfl).trans hs) (fun o h2 h3 => by rw [a2.1 43 0 o rfl, a2.1 44 0 o rfl]; exact hq o h2 h3) hF1
    | some p =>
      have hp := shS_lt _ _ _ _ p c
      rw [show haS X Y (u (hdS u a)) (u (6 + hdS u a)) n (m + 1) k = some k from ffS_t (by rw [c]; rfl)]
      rw [if_neg (show ¬ (s1, shN (some p)).2 = -1 from cdO_nm1 p.1 (by omega))]
      exact ⟨s1, rfl, hF1⟩
theorem fm_hasteL {n a b : Nat} {u v w : Nat → Int32} (hn : n ≤ 60) (hv : VS I v) (hA : AG u v) (ha : a < I) (hb : b < I) : ∀ (m k fu : Nat) (s : S2), k + m = 100 → m < fu → INV I T B R W s → s.1 21 0 = u → s.1 14 0 = w → ∃ s', f_M_haste_L24 fu (nI a) (nI b) (nI n) (nI k) s = some (s', cdO (haS (wxS (seS I T B W w v) b) (wyS (seS I T B W w v) b) (v (hdS v a)) (v (6 + hdS v a)) n m k)) ∧ INV I T B R W s' := by
  intro m
  induction m with
  | zero =>
    intro k fu s hk hf h hs hw
    obtain ⟨f, rfl, hf'⟩ := suc_of hf
    refine ⟨s, ?_, h⟩
    show b_M_haste_L24 _ _ _ _ _ _ = _
    unfold b_M_haste_L24
    rw [of_99, if_pos (nI_lt (by omega) (by omega)), of_m1]
    rfl
  | succ m ih =>
    intro k fu s hk hf h hs hw
    obtain ⟨f, rfl, hf'⟩ := suc_lt hf
    obtain ⟨s1, a1, a2, a3, a4, a5⟩ := fm_sailAll (sp := nI k) h hv (by rw [hs]; exact hA) ha hb
    rw [hw] at a3 a4
    rw [hs] at a5
    have hc := shS_cut (X := wxS (seS I T B W w v) b) (Y := wyS (seS I T B W w v) b) (sp := nI k) n 1 60 (v (hdS v a)) (v (6 + hdS v a)) hn
    have hre := ih (k + 1) f s1 (by omega) hf' a2 a5 a4
    show ∃ s', b_M_haste_L24 _ _ _ _ _ _ = _ ∧ _
    unfold b_M_haste_L24 f_M_haste_L58
    rw [of_99, if_neg (nI_nlt (by omega) (by omega)), a1, Option.bind_some, of_m1, of_1, nI_add, a3.1]
    cases c : shS (wxS (seS I T B W w v) b) (wyS (seS I T B W w v) b) (nI k) 60 1 (v (hdS v a)) (v (6 + hdS v a)) with
    | none =>
      rw [c] at hc
      rw [show haS (wxS (seS I T B W w v) b) (wyS (seS I T B W w v) b) (v (hdS v a)) (v (6 + hdS v a)) n (m + 1) k = haS (wxS (seS I T B W w v) b) (wyS (seS I T B W w v) b) (v (hdS v a)) (v (6 + hdS v a)) n m (k + 1) from ffS_f (by rw [hc]; rfl)]
      rw [if_pos (show shN none = -1 from rfl)]
      exact hre
    | some p =>
      have hp := shS_lt _ _ _ _ p c
      rw [c] at hc
      rw [if_neg (show ¬ shN (some p) = -1 from cdO_nm1 p.1 (by omega))]
      by_cases d : p.1 < 1 + n
      · have hc' : _ = some p := hc.trans (if_pos d)
        rw [show haS (wxS (seS I T B W w v) b) (wyS (seS I T B W w v) b) (v (hdS v a)) (v (6 + hdS v a)) n (m + 1) k = some k from ffS_t (by rw [hc']; rfl)]
        rw [if_neg (show ¬ nI n < shN (some p) from nI_nlt (by omega) (by omega))]
        exact ⟨s1, rfl, a2⟩
      · have hc' : _ = none := hc.trans (if_neg d)
        rw [show haS (wxS (seS I T B W w v) b) (wyS (seS I T B W w v) b) (v (hdS v a)) (v (6 + hdS v a)) n (m + 1) k = haS (wxS (seS I T B W w v) b) (wyS (seS I T B W w v) b) (v (hdS v a)) (v (6 + hdS v a)) n m (k + 1) from ffS_f (by rw [hc']; rfl)]
        rw [if_pos (show nI n < shN (some p) from nI_lt (by omega) (by omega))]
        exact hre
theorem q_haste (h : INV I T B R W s) (x y z : Int32) : ∃ s1 r s2, f_D_haste x y z s = some (s1, r) ∧ f_M_haste x y z s1 = some (s2, r) ∧ INV I T B R W s2 := by
  have h6 := h.1.2.2.1.1.1
  unfold f_D_haste
  rw [g_D_isWithin_eq, of_1, of_60]
  cases c : g_D_areTwo x y s with
  | false => exact ⟨s, _, s, by rw [ifF], by unfold f_M_haste; rw [areTwo_tr h h, c, ifF], h⟩
  | true =>
    cases c1 : inS z (nI 1) (nI 60) with
    | false => exact ⟨s, _, s, by rw [ifT, ifF], by unfold f_M_haste; rw [areTwo_tr h h, c, ifT, g_M_in_eq, of_1, of_60, c1, ifF], h⟩
    | true =>
      obtain ⟨a, b, a1, b1, -, ex, ey⟩ := (v_areTwo h x y).2 c
      obtain ⟨n, n1, n2, rfl⟩ := inS_lit c1 (by omega) (by omega)
      obtain ⟨v, s1, p1, p2, p3, p4, p5⟩ := fc_way h n2 b1
      have e21 : s1.1 21 0 = s.1 21 0 := p5.arr fun _ => rfl
      obtain ⟨s2, q1, q2⟩ := fc_hasteL (s0 := s1) n2 h.1.2.2.2.2.1 a1 99 1 FU s1 (by omega) (lt_FU (by omega)) e21 p4 (Fr.refl _ s1)
      have eh : hdS v a = hdS (s.1 21 0) a := by unfold hdS; rw [p3 (18 + a) (by omega)]
      have hl := (h.1.2.2.2.2.1.2.1 a a1).2.1
      have hF2 : Fr KS s s2 := p5.trans (q2.mono fun _ _ _ => K417_KS)
      have h2 := INV_KS h hF2
      obtain ⟨s3, w1, w2⟩ := fm_hasteL (u := s.1 21 0) (w := s.1 14 0) n2 p2 p3 a1 b1 99 1 FU s2 (by omega) (lt_FU (by omega)) h2 (hF2.arr fun _ => rfl) (hF2.arr fun _ => rfl)
      rw [eh, p3 _ (by omega), p3 _ (by omega)] at w1
      refine ⟨s2, cdO (haS (wxS (seS I T B W (s.1 14 0) v) b) (wyS (seS I T B W (s.1 14 0) v) b) (s.1 21 0 (hdS (s.1 21 0) a)) (s.1 21 0 (6 + hdS (s.1 21 0) a)) n 99 1), s3, ?_, ?_, w2⟩
      · rw [ifT, ifT, ex, ey]
        unfold f_Forecast_leastSpeed
        rw [p1, Option.bind_some, of_1, q1]
        rfl
      · unfold f_M_haste
        rw [areTwo_tr h h2, c, ifT, g_M_in_eq, of_1, of_60, c1, ifT, ex, ey]
        exact w1
end
