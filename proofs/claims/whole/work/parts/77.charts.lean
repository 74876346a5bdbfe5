/-! ===== charts: whether all are so ===== -/
section
variable {I T B R : Nat} {W : Option WF6} {s s0 : S2} {w v : Nat → Int32} {on : Nat → Bool} {x : XT} {e : Nat}
theorem jmax_nI {a b : Nat} (ha : a < 2 ^ 31) (hb : b < 2 ^ 31) : jmax (nI a) (nI b) = nI (max a b) := by
  unfold jmax
  by_cases h : a < b
  · rw [if_pos (nI_lt h hb), Nat.max_eq_right (by omega)]
  · rw [if_neg (nI_nlt (by omega) ha), Nat.max_eq_left (by omega)]
/-- seasons with some ties alone, with further ones -/
def seX (I T B : Nat) (W : Option WF6) (on : Nat → Bool) (x : XT) (e : Nat) (w v : Nat → Int32) : Nat → (Nat → Int32)
  | 0 => v
  | k + 1 => (psS I T B W (seX I T B W on x e w v k) w on x e).1
theorem VS_sx (hv : VS I v) : ∀ k, VS I (seX I T B W on x e w v k)
  | 0 => hv
  | k + 1 => VS_ps (VS_sx hv k)
theorem seX_o (h6 : I ≤ 6) (h4 : B ≤ 4) {j : Nat} (hj : 43 ≤ j) : ∀ k, seX I T B W on x e w v k j = v j
  | 0 => rfl
  | k + 1 => (psS_o h6 h4 hj).trans (seX_o h6 h4 hj k)
/-- charts: season, isle, x, y -/
abbrev CQT : Type := Nat → Nat × Nat × Int32 × Int32
def CQ (I c : Nat) (q : CQT) : Prop := c ≤ 20 ∧ ∀ k, k < c → 1 ≤ (q k).1 ∧ (q k).1 ≤ 20 ∧ (q k).2.1 < I
def CQc (c : Nat) (q : CQT) (s : S2) : Prop := s.1 49 0 8 = nI c ∧ ∀ k, k < c → s.1 50 0 k = nI (q k).1 ∧ s.1 51 0 k = nI (q k).2.1 ∧ s.1 52 0 k = (q k).2.2.1 ∧ s.1 53 0 k = (q k).2.2.2
def CQm (c : Nat) (q : CQT) (s : S2) : Prop := s.1 60 0 76 = nI c ∧ ∀ k, k < c → s.1 97 0 k = nI (q k).1 ∧ s.1 98 0 k = nI (q k).2.1 ∧ s.1 99 0 k = (q k).2.2.1 ∧ s.1 100 0 k = (q k).2.2.2
theorem CQ_of (h6 : I ≤ 6) (h : iCha I s) : ∃ c q, CQ I c q ∧ CQc c q s ∧ CQm c q s := by
  obtain ⟨c, c1, c2, c3, c4⟩ := h
  have key : ∀ k, k < c → ∃ n a : Nat, 1 ≤ n ∧ n ≤ 20 ∧ a < I ∧ s.1 97 0 k = nI n ∧ s.1 98 0 k = nI a ∧ (s.1 97 0 k).toNatClampNeg = n ∧ (s.1 98 0 k).toNatClampNeg = a := fun k hk => by
    obtain ⟨-, ⟨n, n1, n2, n3⟩, a, a1, a2⟩ := c4 k hk
    exact ⟨n, a, n1, n2, a1, n3, a2, by rw [n3, nI_clamp (by omega)], by rw [a2, nI_clamp (by omega)]⟩
  refine ⟨c, fun k => ((s.1 97 0 k).toNatClampNeg, (s.1 98 0 k).toNatClampNeg, s.1 99 0 k, s.1 100 0 k), ⟨c1, fun k hk => ?_⟩, ⟨c2, fun k hk => ?_⟩, ⟨c3, fun k hk => ?_⟩⟩
  · obtain ⟨n, a, n1, n2, a1, -, -, e1, e2⟩ := key k hk
    show 1 ≤ (s.1 97 0 k).toNatClampNeg ∧ (s.1 97 0 k).toNatClampNeg ≤ 20 ∧ (s.1 98 0 k).toNatClampNeg < I
    rw [e1, e2]
    exact ⟨n1, n2, a1⟩
  · obtain ⟨n, a, n1, n2, a1, g1, g2, e1, e2⟩ := key k hk
    obtain ⟨⟨k1, k2, k3, k4⟩, -⟩ := c4 k hk
    show s.1 50 0 k = nI (s.1 97 0 k).toNatClampNeg ∧ s.1 51 0 k = nI (s.1 98 0 k).toNatClampNeg ∧ _
    rw [e1, e2, k1, k2, g1, g2]
    exact ⟨rfl, rfl, k3, k4⟩
  · obtain ⟨n, a, n1, n2, a1, g1, g2, e1, e2⟩ := key k hk
    show s.1 97 0 k = nI (s.1 97 0 k).toNatClampNeg ∧ s.1 98 0 k = nI (s.1 98 0 k).toNatClampNeg ∧ _
    rw [e1, e2, g1, g2]
    exact ⟨rfl, rfl, rfl, rfl⟩
/-- the latest season of a chart -/
def lsN (q : CQT) : Nat → Nat
  | 0 => 0
  | k + 1 => max (lsN q k) (q k).1
theorem lsN_le {c : Nat} {q : CQT} (h : CQ I c q) : ∀ k, k ≤ c → lsN q k ≤ 20 := by
  intro k
  induction k with
  | zero => intro _; exact Nat.zero_le _
  | succ k ih =>
    intro hk
    have := ih (by omega)
    have := (h.2 k (by omega)).2.1
    show max (lsN q k) (q k).1 ≤ 20
    omega
/-- all charts of one season are so -/
def chO (q : CQT) (v : Nat → Int32) (n : Nat) : Nat → Nat → Bool
  | 0, _ => true
  | m + 1, k => (!decide ((q k).1 = n) || (decide (v (hdS v (q k).2.1) = (q k).2.2.1) && decide (v (6 + hdS v (q k).2.1) = (q k).2.2.2))) && chO q v n m (k + 1)
def agS (q : CQT) (c : Nat) (f : Nat → Nat → Int32) : Nat → Nat → Bool
  | 0, _ => true
  | m + 1, n => chO q (f n) n c 0 && agS q c f m (n + 1)
theorem fc_soL {c n : Nat} {q : CQT} (h6 : I ≤ 6) (hq : CQ I c q) (hc : CQc c q s) (hn : n ≤ 20) (hv : VS I (s.1 21 4)) : ∀ (m k fu : Nat), k + m = c → m < fu → f_Charts_areSoBehind_L2 fu (nI n) (nI k) s = some (chO q (s.1 21 4) n m k) := by
  have h20 := hq.1
  intro m
  induction m with
  | zero =>
    intro k fu hk hf
    obtain ⟨f, rfl, hf'⟩ := suc_of hf
    show b_Charts_areSoBehind_L2 _ _ _ _ = _
    unfold b_Charts_areSoBehind_L2
    rw [hc.1, if_pos (nI_le (by omega) (by omega))]
    rfl
  | succ m ih =>
    intro k fu hk hf
    obtain ⟨f, rfl, hf'⟩ := suc_lt hf
    obtain ⟨e1, e2, e3, e4⟩ := hc.2 k (by omega)
    obtain ⟨g1, g2, g3⟩ := hq.2 k (by omega)
    show b_Charts_areSoBehind_L2 _ _ _ _ = some ((!decide ((q k).1 = n) || (decide (s.1 21 4 (hdS (s.1 21 4) (q k).2.1) = (q k).2.2.1) && decide (s.1 21 4 (6 + hdS (s.1 21 4) (q k).2.1) = (q k).2.2.2))) && chO q (s.1 21 4) n m (k + 1))
    unfold b_Charts_areSoBehind_L2 f_Charts_areSoBehind_L66
    rw [hc.1, if_neg (nI_ge (by omega) (by omega)), ix_nI (n := 20) (k := k) (by omega) (by omega), Option.bind_some, e1, of_1, nI_add]
    by_cases c1 : (q k).1 = n
    · rw [if_pos (by rw [c1]), decide_eq_true c1, Option.bind_some, e2, fc_xOf hv g3, Option.bind_some, Option.bind_some, e3]
      by_cases c2 : s.1 21 4 (hdS (s.1 21 4) (q k).2.1) = (q k).2.2.1
      · rw [if_pos c2, decide_eq_true c2, Option.bind_some, e2, fc_yOf hv g3, Option.bind_some, Option.bind_some, e4]
        by_cases c3 : s.1 21 4 (6 + hdS (s.1 21 4) (q k).2.1) = (q k).2.2.2
        · rw [if_pos c3, decide_eq_true c3, ih (k + 1) f (by omega) hf']
          rfl
        · rw [if_neg c3, decide_eq_false c3]
          rfl
      · rw [if_neg c2, decide_eq_false c2]
        rfl
    · rw [if_neg (fun z => c1 ((nI_eq (by omega) (by omega)).mp z)), decide_eq_false c1, ih (k + 1) f (by omega) hf']
      rfl
theorem CQc_KP {c : Nat} {q : CQT} {s' : S2} (h : CQc c q s) (hF : Fr (KP 4) s s') : CQc c q s' := by
  unfold CQc at h ⊢
  rw [hF.1 49 0 8 rfl, hF.arr (c := 50) (i := 0) fun _ => rfl, hF.arr (c := 51) (i := 0) fun _ => rfl, hF.arr (c := 52) (i := 0) fun _ => rfl, hF.arr (c := 53) (i := 0) fun _ => rfl]
  exact h
theorem fc_soO {c l : Nat} {q : CQT} (h6 : I ≤ 6) (hq : CQ I c q) (hl : l ≤ 20) (hv : VS I v) : ∀ (m n fu : Nat) (s : S2), n + m = l + 1 → 1 ≤ n → m < fu → CX I T B W on x e w s → CQc c q s → s.1 21 4 = seX I T B W on x e w v (n - 1) → Fr (KP 4) s0 s → ∃ s' k, f_Charts_areSo_L42 fu (nI l) (nI n) s = some (s', agS q c (seX I T B W on x e w v) m n) ∧ Fr (KP 4) s0 s' ∧ s'.1 21 4 = seX I T B W on x e w v k := by
  intro m
  induction m with
  | zero =>
    intro n fu s hn h1 hf hX hc hs hF
    obtain ⟨f, rfl, hf'⟩ := suc_of hf
    refine ⟨s, n - 1, ?_, hF, hs⟩
    show b_Charts_areSo_L42 _ _ _ _ = _
    unfold b_Charts_areSo_L42
    rw [if_pos (nI_lt (by omega) (by omega))]
    rfl
  | succ m ih =>
    intro n fu s hn h1 hf hX hc hs hF
    obtain ⟨f, rfl, hf'⟩ := suc_lt hf
    obtain ⟨s1, a1, a2, -, -, -, a6⟩ := fc_pass (i := 4) (by rw [hs]; exact VS_sx hv (n - 1)) hX
    rw [hs, show (psS I T B W (seX I T B W on x e w v (n - 1)) w on x e).1 = seX I T B W on x e w v (n - 1 + 1) from rfl, show n - 1 + 1 = n by omega] at a2
    have hc1 := CQc_KP hc a6
    have hb := fc_soL (n := n) h6 hq hc1 (by omega) (by rw [a2]; exact VS_sx hv n) c 0 FU (by omega) (lt_FU (by have := hq.1; omega))
    rw [a2] at hb
    show ∃ s' k, b_Charts_areSo_L42 _ _ _ _ = some (s', chO q (seX I T B W on x e w v n) n c 0 && agS q c (seX I T B W on x e w v) m (n + 1)) ∧ _
    unfold b_Charts_areSo_L42 f_Charts_areSoBehind
    rw [if_neg (nI_nlt (by omega) (by omega)), a1, Option.bind_some, show Int32.ofInt 0 = nI 0 from of_0, hb, Option.bind_some, of_1, nI_add]
    cases d : chO q (seX I T B W on x e w v n) n c 0 with
    | false =>
      rw [ifF]
      exact ⟨s1, n, rfl, hF.trans a6, a2⟩
    | true =>
      rw [ifT, Bool.true_and]
      exact ih (n + 1) f s1 (by omega) (by omega) hf' (CX_KP hX a6) hc1 (by rw [show n + 1 - 1 = n by omega]; exact a2) (hF.trans a6)
theorem fc_soM {c : Nat} {q : CQT} (hq : CQ I c q) (hc : CQc c q s) : ∀ (m k fu : Nat), k + m = c → m < fu → f_Charts_areSo_L4 fu (nI (lsN q k)) (nI k) s = ((f_State_copy 4 0 s).bind fun q1 => (f_Charts_areSo_L42 FU (nI (lsN q c)) (Int32.ofInt 1) q1)) := by
  have h20 := hq.1
  intro m
  induction m with
  | zero =>
    intro k fu hk hf
    obtain ⟨f, rfl, hf'⟩ := suc_of hf
    show b_Charts_areSo_L4 _ _ _ _ = _
    unfold b_Charts_areSo_L4
    rw [hc.1, if_pos (nI_le (by omega) (by omega)), show k = c by omega]
  | succ m ih =>
    intro k fu hk hf
    obtain ⟨f, rfl, hf'⟩ := suc_lt hf
    have g := hq.2 k (by omega)
    have := lsN_le hq k (by omega)
    show b_Charts_areSo_L4 _ _ _ _ = _
    unfold b_Charts_areSo_L4
    rw [hc.1, if_neg (nI_ge (by omega) (by omega)), ix_nI (n := 20) (k := k) (by omega) (by omega), Option.bind_some, (hc.2 k (by omega)).1, jmax_nI (by omega) (by omega), of_1, nI_add]
    exact ih (k + 1) f (by omega) hf'
/-- a state copied over another one -/
def mkV (u v : Nat → Int32) (j : Nat) : Int32 := if j < 49 then u j else v j
theorem mkV_AG (u v : Nat → Int32) : AG u (mkV u v) := fun k hk => if_pos hk
theorem mkV_cp (s : S2) (i j : Nat) : (cpS s 21 i (s.1 21 j) 0 0 49).1 21 i = mkV (s.1 21 j) (s.1 21 i) := by
  funext k
  rw [cpS_1, if_pos ⟨rfl, rfl⟩]
  unfold va_cpy mkV
  by_cases c : k < 49
  · rw [if_pos (by omega), if_pos c, Nat.sub_zero, Nat.zero_add]
  · rw [if_neg (by omega), if_neg c]
theorem fc_areSo {c : Nat} {q : CQT} {u : Nat → Int32} (h6 : I ≤ 6) (h4 : B ≤ 4) (hq : CQ I c q) (hX : CX I T B W on x e w s) (hc : CQc c q s) (hv : VS I v) (h0 : s.1 21 0 = u) (hm : mkV u (s.1 21 4) = v) : ∃ s', f_Charts_areSo s = some (s', agS q c (seX I T B W on x e w v) (lsN q c) 1) ∧ Fr (KP 4) s s' ∧ mkV u (s'.1 21 4) = v := by
  have hl := lsN_le hq c (Nat.le_refl c)
  have F1 : Fr (KP 4) s (cpS s 21 4 (s.1 21 0) 0 0 49) := Fr_cp (fun k => KP_21 4 k) s _ 0 0 49
  have e4 : (cpS s 21 4 (s.1 21 0) 0 0 49).1 21 4 = v := by rw [mkV_cp, h0, hm]
  obtain ⟨s', k, a1, a2, a3⟩ := fc_soO (s0 := s) (v := v) h6 hq hl hv (lsN q c) 1 FU (cpS s 21 4 (s.1 21 0) 0 0 49) (by omega) (by omega) (lt_FU (by omega)) (CX_KP hX F1) (CQc_KP hc F1) e4 F1
  refine ⟨s', ?_, a2, ?_⟩
  · unfold f_Charts_areSo
    rw [show Int32.ofInt 0 = nI 0 from of_0]
    have := fc_soM hq hc c 0 FU (by omega) (lt_FU (by have := hq.1; omega))
    rw [show lsN q 0 = 0 from rfl] at this
    rw [this, fc_copy, Option.bind_some, of_1, a1]
  · rw [a3, ← hm]
    funext j
    unfold mkV
    by_cases d : j < 49
    · rw [if_pos d, if_pos d]
    · rw [if_neg d, if_neg d, seX_o h6 h4 (by omega)]
      exact if_neg d
/-- the reference -/
theorem fm_agL {c n l : Nat} {q : CQT} (h6 : I ≤ 6) (hq : CQ I c q) (hc : CQm c q s) (hn : n ≤ 20) (hv : VS I v) (hr : RS I T B v s) (K : Int32 → Int32 → Int32 → S2 → Option (S2 × Bool)) : ∀ (m k fu : Nat) (b : Bool), k + m = c → m < fu → f_M_agrees_L25 K fu (nI l) (bI b) (nI n) (nI k) s = K (nI l) (bI (b && chO q v n m k)) (nI (n + 1)) s := by
  have h20 := hq.1
  intro m
  induction m with
  | zero =>
    intro k fu b hk hf
    obtain ⟨f, rfl, hf'⟩ := suc_of hf
    show b_M_agrees_L25 _ _ _ _ _ _ _ = _
    unfold b_M_agrees_L25
    rw [hc.1, if_pos (nI_le (by omega) (by omega)), of_1, nI_add]
    cases b <;> rfl
  | succ m ih =>
    intro k fu b hk hf
    obtain ⟨f, rfl, hf'⟩ := suc_lt hf
    obtain ⟨e1, e2, e3, e4⟩ := hc.2 k (by omega)
    obtain ⟨g1, g2, g3⟩ := hq.2 k (by omega)
    obtain ⟨d1, d2, -⟩ := hv.2.1 _ g3
    have e82 := RS_hd hv hr g3
    have r := hr.1 _ d2
    have s0 := ih (k + 1) f false (by omega) hf'
    have s1 := ih (k + 1) f true (by omega) hf'
    rw [show bI false = Int32.ofInt 0 from rfl, Bool.false_and] at s0
    rw [show bI true = nI 1 from rfl, Bool.true_and] at s1
    show b_M_agrees_L25 _ _ _ _ _ _ _ = K (nI l) (bI (b && ((!decide ((q k).1 = n) || (decide (v (hdS v (q k).2.1) = (q k).2.2.1) && decide (v (6 + hdS v (q k).2.1) = (q k).2.2.2))) && chO q v n m (k + 1)))) (nI (n + 1)) s
    unfold b_M_agrees_L25 f_M_agrees_L101 f_M_agrees_L97 f_M_agrees_L102
    rw [hc.1, if_neg (nI_ge (by omega) (by omega)), ix_nI (n := 20) (k := k) (by omega) (by omega), Option.bind_some, e2, ix_nI (n := 6) (k := (q k).2.1) (by omega) (by omega), Option.bind_some, of_1, nI_add]
    cases b with
    | false =>
      rw [ifF, Bool.false_and]
      exact s0
    | true =>
      rw [ifT, Bool.true_and, Option.bind_some, e1]
      by_cases c1 : (q k).1 = n
      · rw [if_pos (by rw [c1]), decide_eq_true c1, e82, ix_nI (n := 6) (k := hdS v (q k).2.1) (by omega) (by omega), Option.bind_some, Option.bind_some, e3, ← r.1]
        by_cases c2 : v (hdS v (q k).2.1) = (q k).2.2.1
        · rw [if_pos c2, decide_eq_true c2, Option.bind_some, Option.bind_some, e4, ← r.2.1]
          by_cases c3 : v (6 + hdS v (q k).2.1) = (q k).2.2.2
          · rw [if_pos c3, decide_eq_true c3]
            exact s1
          · rw [if_neg c3, decide_eq_false c3]
            exact s0
        · rw [if_neg c2, decide_eq_false c2]
          exact s0
      · rw [if_neg (fun z => c1 ((nI_eq (by omega) (by omega)).mp z)), decide_eq_false c1]
        exact s1
theorem CQm_MP {c : Nat} {q : CQT} {s' : S2} (h : CQm c q s) (hF : Fr MP s s') : CQm c q s' := by
  unfold CQm at h ⊢
  rw [hF.1 60 0 76 rfl, hF.arr (c := 97) (i := 0) fun _ => rfl, hF.arr (c := 98) (i := 0) fun _ => rfl, hF.arr (c := 99) (i := 0) fun _ => rfl, hF.arr (c := 100) (i := 0) fun _ => rfl]
  exact h
theorem fm_agO {c l : Nat} {q : CQT} (h6 : I ≤ 6) (hq : CQ I c q) (hl : l ≤ 20) (hv : VS I v) : ∀ (m n fu : Nat) (s : S2), n + m = l + 1 → 1 ≤ n → m + 1 < fu → MX I T B W on x e w s → CQm c q s → RS I T B (seX I T B W on x e w v (n - 1)) s → Fr MP s0 s → ∃ s', f_M_agrees_L9 fu (nI l) (nI 1) (nI n) s = some (s', agS q c (seX I T B W on x e w v) m n) ∧ Fr MP s0 s' := by
  intro m
  induction m with
  | zero =>
    intro n fu s hn h1 hf hX hc hr hF
    obtain ⟨f, rfl, hf'⟩ := suc_of (show 0 < fu by omega)
    refine ⟨s, ?_, hF⟩
    show b_M_agrees_L9 _ _ _ _ _ = _
    unfold b_M_agrees_L9
    rw [if_pos (nI_lt (by omega) (by omega))]
    rfl
  | succ m ih =>
    intro n fu s hn h1 hf hX hc hr hF
    obtain ⟨f, rfl, hf'⟩ := suc_lt hf
    obtain ⟨s1, a1, a2, -, -, -, a6⟩ := fm_pass (VS_sx hv (n - 1)) hX hr
    rw [show (psS I T B W (seX I T B W on x e w v (n - 1)) w on x e).1 = seX I T B W on x e w v (n - 1 + 1) from rfl, show n - 1 + 1 = n by omega] at a2
    have hc1 := CQm_MP hc a6
    have hb := fm_agL (l := l) (n := n) h6 hq hc1 (by omega) (VS_sx hv n) a2 (f_M_agrees_L9 f) c 0 FU true (by omega) (lt_FU (by have := hq.1; omega))
    rw [show bI true = nI 1 from rfl, Bool.true_and] at hb
    show ∃ s', b_M_agrees_L9 _ _ _ _ _ = some (s', chO q (seX I T B W on x e w v n) n c 0 && agS q c (seX I T B W on x e w v) m (n + 1)) ∧ _
    unfold b_M_agrees_L9
    rw [if_neg (nI_nlt (by omega) (by omega)), if_neg (show ¬ nI 1 = 0 by decide), a1, Option.bind_some, show Int32.ofInt 0 = nI 0 from of_0, hb]
    cases d : chO q (seX I T B W on x e w v n) n c 0 with
    | false =>
      refine ⟨s1, ?_, hF.trans a6⟩
      obtain ⟨f', rfl, -⟩ := suc_of (show 0 < f by omega)
      show b_M_agrees_L9 _ _ _ _ _ = _
      unfold b_M_agrees_L9
      rw [if_pos (show bI false = 0 from rfl)]
      split <;> rfl
    | true =>
      rw [Bool.true_and]
      exact ih (n + 1) f s1 (by omega) (by omega) (by omega) (MX_MP hX a6) hc1 (by rw [show n + 1 - 1 = n by omega]; exact a2) (hF.trans a6)
theorem fm_lastL {c : Nat} {q : CQT} (hq : CQ I c q) (hc : CQm c q s) : ∀ (m k fu : Nat), k + m = c → m < fu → f_M_lastChart_L4 fu (nI (lsN q k)) (nI k) s = some (nI (lsN q c)) := by
  have h20 := hq.1
  intro m
  induction m with
  | zero =>
    intro k fu hk hf
    obtain ⟨f, rfl, hf'⟩ := suc_of hf
    show b_M_lastChart_L4 _ _ _ _ = _
    unfold b_M_lastChart_L4
    rw [hc.1, if_pos (nI_le (by omega) (by omega)), show k = c by omega]
  | succ m ih =>
    intro k fu hk hf
    obtain ⟨f, rfl, hf'⟩ := suc_lt hf
    have g := hq.2 k (by omega)
    have := lsN_le hq k (by omega)
    show b_M_lastChart_L4 _ _ _ _ = _
    unfold b_M_lastChart_L4
    rw [hc.1, if_neg (nI_ge (by omega) (by omega)), ix_nI (n := 20) (k := k) (by omega) (by omega), Option.bind_some, (hc.2 k (by omega)).1, jmax_nI (by omega) (by omega), of_1, nI_add]
    exact ih (k + 1) f (by omega) hf'
theorem fm_agrees {c : Nat} {q : CQT} (h6 : I ≤ 6) (hq : CQ I c q) (hX : MX I T B W on x e w s) (hc : CQm c q s) (hv : VS I v) (hr : RS I T B v s) : ∃ s', f_M_agrees s = some (s', agS q c (seX I T B W on x e w v) (lsN q c) 1) ∧ Fr MP s s' := by
  have hl := lsN_le hq c (Nat.le_refl c)
  obtain ⟨s', a1, a2⟩ := fm_agO (s0 := s) (v := v) h6 hq hl hv (lsN q c) 1 FU s (by omega) (by omega) (lt_FU (by omega)) hX hc hr (Fr.refl _ s)
  refine ⟨s', ?_, a2⟩
  have := fm_lastL hq hc c 0 FU (by omega) (lt_FU (by have := hq.1; omega))
  rw [show lsN q 0 = 0 from rfl] at this
  unfold f_M_agrees f_M_lastChart
  rw [show Int32.ofInt 0 = nI 0 from of_0, this, Option.bind_some, of_1, a1]
/-- a list of tries: the one that is asked for, or how many -/
def ruL (p : Nat → Bool) (i : Int32) : List Nat → Nat → Nat ⊕ Nat
  | [], f => Sum.inr f
  | c :: cs, f => if p c then (if nI f = i then Sum.inl c else ruL p i cs (f + 1)) else ruL p i cs f
theorem ruL_app {p : Nat → Bool} {i : Int32} {l2 : List Nat} : ∀ (l1 : List Nat) (f : Nat), ruL p i (l1 ++ l2) f = (match ruL p i l1 f with
    | Sum.inl c => Sum.inl c
    | Sum.inr f' => ruL p i l2 f') := by
  intro l1
  induction l1 with
  | nil => intro f; rfl
  | cons c cs ih =>
    intro f
    show (if p c then (if nI f = i then Sum.inl c else ruL p i (cs ++ l2) (f + 1)) else ruL p i (cs ++ l2) f) = _
    rw [ih, ih]
    show _ = (match (if p c then (if nI f = i then Sum.inl c else ruL p i cs (f + 1)) else ruL p i cs f) with
    | Sum.inl c => Sum.inl c
    | Sum.inr f' => ruL p i l2 f')
    cases p c with
    | false => rfl
    | true =>
      rw [if_pos rfl, if_pos rfl]
      by_cases d : nI f = i
      · rw [if_pos d, if_pos d]
      · rw [if_neg d, if_neg d]
def reS (i : Int32) : Nat ⊕ Nat → Int32
  | Sum.inl c => nI c
  | Sum.inr f => if i = -1 then nI f else -1
/-- below -1 nothing is found -/
theorem ruL_neg {p : Nat → Bool} {i : Int32} (hi : i < -1) : ∀ (l : List Nat) (f : Nat), f + l.length < 2 ^ 31 → reS i (ruL p i l f) = -1 := by
  have hn : ∀ f : Nat, f < 2 ^ 31 → ¬ nI f = i := fun f hf z => by
    rw [← z] at hi
    exact nI_pos hf (Int32.lt_trans hi (by decide))
  intro l
  induction l with
  | nil =>
    intro f _
    show (if i = -1 then nI f else -1) = -1
    rw [if_neg (fun z => by rw [z] at hi; exact Int32.lt_irrefl hi)]
  | cons c cs ih =>
    intro f hf
    have hf' : f + (cs.length + 1) < 2 ^ 31 := hf
    show reS i (if p c then (if nI f = i then Sum.inl c else ruL p i cs (f + 1)) else ruL p i cs f) = -1
    rw [if_neg (hn f (by omega))]
    split
    · exact ih (f + 1) (by omega)
    · exact ih f (by omega)
end
