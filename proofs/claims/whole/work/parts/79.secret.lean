/-! ===== secret ===== -/
section
variable {I T B R : Nat} {W : Option WF6} {s s0 : S2} {w v : Nat → Int32}
/-- one tie more, from its code -/
def xcS (k : Nat) : XT := fun _ => (k / 1000, k / 100 % 10, nI (k / 10 % 10), nI (k % 10))
def okS2 (I k : Nat) : Bool := decide (k / 1000 < k / 100 % 10) && (decide (k / 100 % 10 < I) && (decide (k / 10 % 10 < 2) && (decide (1 ≤ k % 10) && decide (k % 10 ≤ 3))))
def rgF (I : Nat) : Nat → Nat → List Nat
  | 0, _ => []
  | m + 1, k => if okS2 I k then k :: rgF I m (k + 1) else rgF I m (k + 1)
def seD (a b : Nat) : Nat → Nat → List Nat
  | 0, _ => []
  | m + 1, d => (1000 * a + 100 * b + 10 * (d / 3) + (d % 3 + 1)) :: seD a b m (d + 1)
def seO (a : Nat) : Nat → Nat → List Nat
  | 0, _ => []
  | m + 1, b => seD a b 6 0 ++ seO a m (b + 1)
def seA (I : Nat) : Nat → Nat → List Nat
  | 0, _ => []
  | m + 1, a => seO a (I - (a + 1)) (a + 1) ++ seA I m (a + 1)
/-- both sides try the same codes, in the same order -/
theorem se_rg : ∀ I, I < 7 → rgF I (1000 * I) 0 = seA I I 0 := by decide +kernel
theorem rgF_len (I : Nat) : ∀ m k, (rgF I m k).length ≤ m := by
  intro m
  induction m with
  | zero => intro k; exact Nat.le_refl 0
  | succ m ih =>
    intro k
    have := ih (k + 1)
    unfold rgF
    split
    · show (rgF I m (k + 1)).length + 1 ≤ m + 1
      omega
    · omega
def scP (I T B : Nat) (W : Option WF6) (w v : Nat → Int32) (c : Nat) (q : CQT) (k : Nat) : Bool := agS q c (seX I T B W onA (xcS k) 1 w v) (lsN q c) 1
/-- where the loops of the class stand -/
def STS (I : Nat) (s0 s : S2) (c : Nat) (q : CQT) (v : Nat → Int32) : Prop := Fr KS s0 s ∧ CQc c q s ∧ mkV (s0.1 21 0) (s.1 21 4) = v
theorem fc_sx1 {c a b d : Nat} {q : CQT} (h : INV I T B R W s0) (hq : CQ I c q) (hv : VS I v) (hS : STS I s0 s c q v) (hab : a < b) (hb : b < I) (hd : d < 6) : ∃ s1 s2, f_Course_drawByTold s = some s1 ∧ f_Course_addTie (nI a) (nI b) (nI d / Int32.ofInt 3) (jrem (nI d) (Int32.ofInt 3) + Int32.ofInt 1) s1 = some s2 ∧ ∃ s', f_Charts_areSo s2 = some (s', scP I T B W (s0.1 14 0) v c q (1000 * a + 100 * b + 10 * (d / 3) + (d % 3 + 1))) ∧ STS I s0 s' c q v := by
  obtain ⟨h6, h8, h4⟩ := h.1.2.2.1.1
  obtain ⟨hF, hc, hm⟩ := hS
  obtain ⟨t1, ht1⟩ : ∃ t, pkS (pkS s 31 0 12 (nI 255)) 31 0 13 (nI 0) = t := ⟨_, rfl⟩
  have e13 : t1.1 31 0 13 = nI 0 := by rw [← ht1, pkS_v, if_pos ⟨rfl, rfl, rfl⟩]
  have e12 : t1.1 31 0 12 = nI 255 := by rw [← ht1, pkS_v, if_neg (by omega), pkS_v, if_pos ⟨rfl, rfl, rfl⟩]
  obtain ⟨t2, ht2⟩ : ∃ t, pkS (pkS (pkS (pkS (pkS t1 37 0 0 (nI a)) 38 0 0 (nI b)) 39 0 0 (nI (d / 3))) 40 0 0 (nI (d % 3 + 1))) 31 0 13 (nI 1) = t := ⟨_, rfl⟩
  have F1 : Fr KS s t1 := by rw [← ht1]; exact ((Fr.refl KS s).pk' _ rfl).pk' _ rfl
  have F2 : Fr KS s t2 := by
    rw [← ht2]
    exact ((((F1.pk' _ rfl).pk' _ rfl).pk' _ rfl).pk' _ rfl).pk' _ rfl
  generalize hk : 1000 * a + 100 * b + 10 * (d / 3) + (d % 3 + 1) = k
  have x1 : k / 1000 = a := by omega
  have hp : d / 3 ≤ 1 := by omega
  have x20 : k / 100 = 10 * a + b := by omega
  have x2 : k / 100 % 10 = b := by omega
  have x3 : k / 10 % 10 = d / 3 := by omega
  have x4 : k % 10 = d % 3 + 1 := by omega
  have hX : CX I T B W onA (xcS k) 1 (s0.1 14 0) t2 := CX_of h (hF.trans F2) ⟨⟨255, by omega, by rw [← ht2, pkS_v, if_neg (by omega), pkS_v, if_neg (by omega), pkS_v, if_neg (by omega), pkS_v, if_neg (by omega), pkS_v, if_neg (by omega)]; exact e12, fun t ht => tst255 t (by omega)⟩, by rw [← ht2, pkS_v, if_pos ⟨rfl, rfl, rfl⟩], by omega, fun j hj => by
    rw [show j = 0 by omega]
    unfold xcS
    rw [x1, x2, x3, x4, ← ht2]
    refine ⟨?_, ?_, ?_, ?_, by omega, hb⟩
    · rw [pkS_v, if_neg (by omega), pkS_v, if_neg (by omega), pkS_v, if_neg (by omega), pkS_v, if_neg (by omega), pkS_v, if_pos ⟨rfl, rfl, rfl⟩]
    · rw [pkS_v, if_neg (by omega), pkS_v, if_neg (by omega), pkS_v, if_neg (by omega), pkS_v, if_pos ⟨rfl, rfl, rfl⟩]
    · rw [pkS_v, if_neg (by omega), pkS_v, if_neg (by omega), pkS_v, if_pos ⟨rfl, rfl, rfl⟩]
    · rw [pkS_v, if_neg (by omega), pkS_v, if_pos ⟨rfl, rfl, rfl⟩]⟩
  have e4 : t2.1 21 4 = s.1 21 4 := by
    rw [← ht2, pkS_1, if_neg (by omega), pkS_1, if_neg (by omega), pkS_1, if_neg (by omega), pkS_1, if_neg (by omega), pkS_1, if_neg (by omega), ← ht1, pkS_1, if_neg (by omega), pkS_1, if_neg (by omega)]
  obtain ⟨s', a1, a2, a3⟩ := fc_areSo (u := s0.1 21 0) h6 h4 hq hX (CQc_KS hc F2) hv ((F2.arr fun _ => rfl).trans (hF.arr fun _ => rfl)) (by rw [e4]; exact hm)
  have F3 : Fr KS s s' := F2.trans (a2.mono fun _ _ _ => KPj_KS (Or.inr (Or.inr rfl)))
  refine ⟨t1, t2, ?_, ?_, s', a1, hF.trans F3, CQc_KS hc F3, a3⟩
  · unfold f_Course_drawByTold
    rw [of_255, show Int32.ofInt 0 = nI 0 from of_0, Option.bind_some, Option.bind_some, ht1]
  · unfold f_Course_addTie
    rw [e13, of_3, if_neg (nI_ge (by omega) (by omega)), ix_nI (n := 3) (k := 0) (by omega) (by omega), Option.bind_some, Option.bind_some, show (pkS t1 37 0 0 (nI a)).1 31 0 13 = nI 0 by rw [pkS_v, if_neg (by omega)]; exact e13, ix_nI (n := 3) (k := 0) (by omega) (by omega), Option.bind_some, Option.bind_some, show (pkS (pkS t1 37 0 0 (nI a)) 38 0 0 (nI b)).1 31 0 13 = nI 0 by rw [pkS_v, if_neg (by omega), pkS_v, if_neg (by omega)]; exact e13, ix_nI (n := 3) (k := 0) (by omega) (by omega), Option.bind_some, Option.bind_some, div_nI (by omega) (by omega) (by omega), jrem_nI (by omega) (by omega) (by omega), of_1, nI_add, show (pkS (pkS (pkS t1 37 0 0 (nI a)) 38 0 0 (nI b)) 39 0 0 (nI (d / 3))).1 31 0 13 = nI 0 by rw [pkS_v, if_neg (by omega), pkS_v, if_neg (by omega), pkS_v, if_neg (by omega)]; exact e13, ix_nI (n := 3) (k := 0) (by omega) (by omega), Option.bind_some, Option.bind_some, show (pkS (pkS (pkS (pkS t1 37 0 0 (nI a)) 38 0 0 (nI b)) 39 0 0 (nI (d / 3))) 40 0 0 (nI (d % 3 + 1))).1 31 0 13 = nI 0 by rw [pkS_v, if_neg (by omega), pkS_v, if_neg (by omega), pkS_v, if_neg (by omega), pkS_v, if_neg (by omega)]; exact e13, nI_add, Option.bind_some]
    exact congrArg some ht2
theorem fc_seD {c a b : Nat} {q : CQT} {i : Int32} (h : INV I T B R W s0) (hq : CQ I c q) (hv : VS I v) (hab : a < b) (hb : b < I) (k4 : Int32 → Int32 → Int32 → S2 → Option (S2 × Int32)) (k20 : Int32 → Int32 → Int32 → Int32 → S2 → Option (S2 × Int32)) : ∀ (m d fu f : Nat) (s : S2), d + m = 6 → m < fu → STS I s0 s c q v → ∃ s', f_Charts_secretTie_L35 k4 k20 fu i (nI f) (nI a) (nI b) (nI d) s = (match ruL (scP I T B W (s0.1 14 0) v c q) i (seD a b m d) f with
    | Sum.inl z => some (s', nI z)
    | Sum.inr f' => k20 i (nI f') (nI a) (nI (b + 1)) s') ∧ STS I s0 s' c q v := by
  have h6 := h.1.2.2.1.1.1
  intro m
  induction m with
  | zero =>
    intro d fu f s hd hf hS
    obtain ⟨g, rfl, hf'⟩ := suc_of hf
    refine ⟨s, ?_, hS⟩
    show b_Charts_secretTie_L35 _ _ _ _ _ _ _ _ _ = _
    unfold b_Charts_secretTie_L35
    rw [of_6, if_pos (nI_le (by omega) (by omega)), of_1, nI_add]
    rfl
  | succ m ih =>
    intro d fu f s hd hf hS
    obtain ⟨g, rfl, hf'⟩ := suc_lt hf
    obtain ⟨t1, t2, a1, a2, t3, a3, a4⟩ := fc_sx1 h hq hv hS hab hb (show d < 6 by omega)
    obtain ⟨u1, n1, p1⟩ := ih (d + 1) g f t3 (by omega) hf' a4
    obtain ⟨u2, n2, p2⟩ := ih (d + 1) g (f + 1) t3 (by omega) hf' a4
    show ∃ s', b_Charts_secretTie_L35 _ _ _ _ _ _ _ _ _ = (match (if scP I T B W (s0.1 14 0) v c q (1000 * a + 100 * b + 10 * (d / 3) + (d % 3 + 1)) then (if nI f = i then Sum.inl (1000 * a + 100 * b + 10 * (d / 3) + (d % 3 + 1)) else ruL (scP I T B W (s0.1 14 0) v c q) i (seD a b m (d + 1)) (f + 1)) else ruL (scP I T B W (s0.1 14 0) v c q) i (seD a b m (d + 1)) f) with
    | Sum.inl z => some (s', nI z)
    | Sum.inr f' => k20 i (nI f') (nI a) (nI (b + 1)) s') ∧ STS I s0 s' c q v
    unfold b_Charts_secretTie_L35 f_Charts_secretTie_L113
    rw [of_6, if_neg (nI_ge (by omega) (by omega)), a1, Option.bind_some, a2, Option.bind_some, a3, Option.bind_some, of_1, nI_add, nI_add]
    cases e : scP I T B W (s0.1 14 0) v c q (1000 * a + 100 * b + 10 * (d / 3) + (d % 3 + 1)) with
    | false =>
      rw [ifF, if_neg (show ¬ (false = true) by decide)]
      exact ⟨u1, n1, p1⟩
    | true =>
      rw [ifT, if_pos rfl]
      by_cases g1 : nI f = i
      · rw [if_pos g1, if_pos g1]
        refine ⟨t3, ?_, a4⟩
        show some (t3, _) = some (t3, nI (1000 * a + 100 * b + 10 * (d / 3) + (d % 3 + 1)))
        rw [of_1000, of_100, of_10, of_3, div_nI (by omega) (by omega) (by omega), jrem_nI (by omega) (by omega) (by omega), mul_nI, mul_nI, mul_nI, nI_add, nI_add, nI_add, nI_add]
      · rw [if_neg g1, if_neg g1]
        exact ⟨u2, n2, p2⟩
theorem fc_seO {c a : Nat} {q : CQT} {i : Int32} (h : INV I T B R W s0) (hq : CQ I c q) (hv : VS I v) (k4 : Int32 → Int32 → Int32 → S2 → Option (S2 × Int32)) : ∀ (m b fu f : Nat) (s : S2), b + m = I → a < b → m < fu → STS I s0 s c q v → ∃ s', f_Charts_secretTie_L20 k4 fu i (nI f) (nI a) (nI b) s = (match ruL (scP I T B W (s0.1 14 0) v c q) i (seO a m b) f with
    | Sum.inl z => some (s', nI z)
    | Sum.inr f' => k4 i (nI f') (nI (a + 1)) s') ∧ STS I s0 s' c q v := by
  have h6 := h.1.2.2.1.1.1
  intro m
  induction m with
  | zero =>
    intro b fu f s hb hab hf hS
    obtain ⟨g, rfl, hf'⟩ := suc_of hf
    refine ⟨s, ?_, hS⟩
    show b_Charts_secretTie_L20 _ _ _ _ _ _ _ = _
    unfold b_Charts_secretTie_L20
    rw [show g_Sea_isles 0 s = nI I from (hS.1.1 15 0 1 rfl).trans h.1.2.2.2.1.1, if_pos (nI_le (by omega) (by omega)), of_1, nI_add]
    rfl
  | succ m ih =>
    intro b fu f s hb hab hf hS
    obtain ⟨g, rfl, hf'⟩ := suc_lt hf
    obtain ⟨t, a1, a2⟩ := fc_seD (i := i) h hq hv hab (show b < I by omega) k4 (f_Charts_secretTie_L20 k4 g) 6 0 FU f s (by omega) (lt_FU (by omega)) hS
    show ∃ s', b_Charts_secretTie_L20 _ _ _ _ _ _ _ = (match ruL (scP I T B W (s0.1 14 0) v c q) i (seD a b 6 0 ++ seO a m (b + 1)) f with
    | Sum.inl z => some (s', nI z)
    | Sum.inr f' => k4 i (nI f') (nI (a + 1)) s') ∧ STS I s0 s' c q v
    unfold b_Charts_secretTie_L20
    rw [show g_Sea_isles 0 s = nI I from (hS.1.1 15 0 1 rfl).trans h.1.2.2.2.1.1, if_neg (nI_ge (by omega) (by omega)), show Int32.ofInt 0 = nI 0 from of_0, a1, ruL_app]
    cases e : ruL (scP I T B W (s0.1 14 0) v c q) i (seD a b 6 0) f with
    | inl z => exact ⟨t, rfl, a2⟩
    | inr f' => exact ih (b + 1) g f' t (by omega) (by omega) hf' a2
theorem fc_seA {c : Nat} {q : CQT} {i : Int32} (h : INV I T B R W s0) (hq : CQ I c q) (hv : VS I v) : ∀ (m a fu f : Nat) (s : S2), a + m = I → m < fu → STS I s0 s c q v → ∃ s', f_Charts_secretTie_L4 fu i (nI f) (nI a) s = some (s', reS i (ruL (scP I T B W (s0.1 14 0) v c q) i (seA I m a) f)) ∧ Fr KS s0 s' := by
  have h6 := h.1.2.2.1.1.1
  intro m
  induction m with
  | zero =>
    intro a fu f s ha hf hS
    obtain ⟨g, rfl, hf'⟩ := suc_of hf
    show ∃ s', b_Charts_secretTie_L4 _ _ _ _ _ = some (s', if i = -1 then nI f else -1) ∧ _
    unfold b_Charts_secretTie_L4
    rw [show g_Sea_isles 0 s = nI I from (hS.1.1 15 0 1 rfl).trans h.1.2.2.2.1.1, if_pos (nI_le (by omega) (by omega)), of_m1]
    by_cases d : i = -1
    · rw [if_pos d, if_pos d]; exact ⟨s, rfl, hS.1⟩
    · rw [if_neg d, if_neg d]; exact ⟨s, rfl, hS.1⟩
  | succ m ih =>
    intro a fu f s ha hf hS
    obtain ⟨g, rfl, hf'⟩ := suc_lt hf
    obtain ⟨t, a1, a2⟩ := fc_seO (a := a) (i := i) h hq hv (f_Charts_secretTie_L4 g) (I - (a + 1)) (a + 1) FU f s (by omega) (by omega) (lt_FU (by omega)) hS
    show ∃ s', b_Charts_secretTie_L4 _ _ _ _ _ = some (s', reS i (ruL (scP I T B W (s0.1 14 0) v c q) i (seO a (I - (a + 1)) (a + 1) ++ seA I m (a + 1)) f)) ∧ _
    unfold b_Charts_secretTie_L4
    rw [show g_Sea_isles 0 s = nI I from (hS.1.1 15 0 1 rfl).trans h.1.2.2.2.1.1, if_neg (nI_ge (by omega) (by omega)), of_1, nI_add, a1, ruL_app]
    cases e : ruL (scP I T B W (s0.1 14 0) v c q) i (seO a (I - (a + 1)) (a + 1)) f with
    | inl z => exact ⟨t, rfl, a2.1⟩
    | inr f' => exact ih (a + 1) g f' t (by omega) hf' a2
/-- the reference: a deal more -/
def KDl (T c i k : Nat) : Bool := (c == 77 && (i == 0 && Nat.ble (4 * T) k)) || (c == 60 && (i == 0 && k == 42))
theorem KDl_MS {c i k : Nat} (h : MS T c i k = false) : KDl T c i k = false := by
  unfold MS at h
  obtain ⟨-, h2⟩ := Bool.or_eq_false_iff.mp h
  obtain ⟨-, h3⟩ := Bool.or_eq_false_iff.mp h2
  obtain ⟨h4, h5⟩ := Bool.or_eq_false_iff.mp h3
  unfold KDl
  have e1 : (c == 77 && (i == 0 && Nat.ble (4 * T) k)) = false := by
    cases q : c == 77 with
    | false => rfl
    | true =>
      rw [q, Bool.true_and] at h4
      rw [h4]
      simp
  have e2 : (c == 60 && (i == 0 && k == 42)) = false := by
    cases q : c == 60 with
    | false => rfl
    | true =>
      rw [q] at h5
      simp only [Bool.true_and, Bool.or_eq_false_iff] at h5
      rw [h5.2.2.1]
      simp
  rw [e1, e2]
  rfl
theorem KDl_77 {k : Nat} (h : 4 * T ≤ k) : KDl T 77 0 k = true := by
  unfold KDl
  rw [Nat.ble_eq_true_of_le h]
  rfl
theorem KDl_o {k : Nat} (h : k < 4 * T) : KDl T 77 0 k = false := by
  unfold KDl
  rw [show Nat.ble (4 * T) k = false from by
    cases q : Nat.ble (4 * T) k with
    | false => rfl
    | true => have := Nat.le_of_ble_eq_true q; omega]
  simp
theorem KDl_f {c i k : Nat} (h : ¬ c = 77) (h' : ¬ (c = 60 ∧ k = 42)) : KDl T c i k = false := by
  unfold KDl
  rw [show (c == 77) = false from by simp [h]]
  cases q : c == 60 with
  | false => rfl
  | true =>
    rw [show (k == 42) = false from by simp; exact fun z => h' ⟨eq_of_beq q, z⟩]
    simp
theorem fm_deal {x : XT} {e : Nat} {a b : Nat} {y z : Int32} (he : e < 3) (hX : MX I T B W onA x e w s) (ha : a < I) (hb : b < I) (hx : x e = (a, b, y, z)) : ∃ s', f_M_deal (nI a) (nI b) y z s = some s' ∧ MX I T B W onA x (e + 1) w s' ∧ Fr (KDl T) s s' ∧ (∀ t, t < T → s'.1 77 0 (4 * t + 2) = s.1 77 0 (4 * t + 2)) := by
  obtain ⟨g1, g2, g3, g4, g5⟩ := hX
  obtain ⟨h6, h8, h4⟩ := g1.1
  obtain ⟨t, ht⟩ : ∃ t, pkS (pkS (pkS (pkS (pkS s 77 0 (4 * (T + e)) (nI a)) 77 0 (4 * (T + e) + 1) (nI b)) 77 0 (4 * (T + e) + 2) y) 77 0 (4 * (T + e) + 3) z) 60 0 42 (nI (e + 1)) = t := ⟨_, rfl⟩
  have F : Fr (KDl T) s t := by
    rw [← ht]
    exact (((((Fr.refl (KDl T) s).pk' _ (KDl_77 (by omega))).pk' _ (KDl_77 (by omega))).pk' _ (KDl_77 (by omega))).pk' _ (KDl_77 (by omega))).pk' _ (by unfold KDl; simp)
  have o77 : ∀ k, k < 4 * (T + e) → t.1 77 0 k = s.1 77 0 k := fun k hk => by
    rw [← ht, pkS_v, if_neg (by omega), pkS_v, if_neg (by omega), pkS_v, if_neg (by omega), pkS_v, if_neg (by omega), pkS_v, if_neg (by omega)]
  have eo : ∀ c k, ¬ c = 77 → ¬ (c = 60 ∧ k = 42) → t.1 c 0 k = s.1 c 0 k := fun c k h1 h2 => F.1 c 0 k (KDl_f h1 h2)
  refine ⟨t, ?_, ⟨g1, ?_, ?_, ?_, ?_⟩, F, fun t' ht' => o77 _ (by omega)⟩
  · have e1 : ∀ t : S2, t.1 60 0 29 = nI T → t.1 60 0 42 = nI e → (Int32.ofInt 4) * ((t.1 60 0 29) + (t.1 60 0 42)) = nI (4 * (T + e)) := fun t h1 h2 => by rw [h1, h2, nI_add, of_4, mul_nI]
    have j0 := e1 s g2.2.1 g4.2.1
    unfold f_M_deal
    rw [j0, show Int32.ofInt 0 = nI 0 from of_0, nI_add, ix_nI (n := 44) (k := 4 * (T + e) + 0) (by omega) (by omega), Option.bind_some, Nat.add_zero, Option.bind_some, of_1, nI_add, ix_nI (n := 44) (k := 4 * (T + e) + 1) (by omega) (by omega), Option.bind_some, Option.bind_some, of_2, nI_add, ix_nI (n := 44) (k := 4 * (T + e) + 2) (by omega) (by omega), Option.bind_some, Option.bind_some, of_3, nI_add, ix_nI (n := 44) (k := 4 * (T + e) + 3) (by omega) (by omega), Option.bind_some, Option.bind_some]
    have j4 : (pkS (pkS (pkS (pkS s 77 0 (4 * (T + e)) (nI a)) 77 0 (4 * (T + e) + 1) (nI b)) 77 0 (4 * (T + e) + 2) y) 77 0 (4 * (T + e) + 3) z).1 60 0 42 = nI e := by
      rw [pkS_v, if_neg (by omega), pkS_v, if_neg (by omega), pkS_v, if_neg (by omega), pkS_v, if_neg (by omega)]
      exact g4.2.1
    rw [j4, nI_add, ht]
    rfl
  · rw [eo 60 28 (by omega) (by omega), eo 60 29 (by omega) (by omega), eo 60 30 (by omega) (by omega)]; exact g2
  · obtain ⟨k1, k2, k3, k4, k5⟩ := g3
    refine ⟨fun t' ht' => ?_, fun j hj => ?_, fun k hk => ?_, fun a' ha' k h1 h2 => ?_, fun b' hb' k hk => ?_⟩
    · rw [o77 _ (by omega), o77 _ (by omega), o77 _ (by omega)]; exact k1 t' ht'
    · by_cases c : j = e
      · rw [c, hx, ← ht]
        refine ⟨?_, ?_, ?_, ?_, ha, hb⟩
        · rw [pkS_v, if_neg (by omega), pkS_v, if_neg (by omega), pkS_v, if_neg (by omega), pkS_v, if_neg (by omega), pkS_v, if_pos ⟨rfl, rfl, rfl⟩]
        · rw [pkS_v, if_neg (by omega), pkS_v, if_neg (by omega), pkS_v, if_neg (by omega), pkS_v, if_pos ⟨rfl, rfl, rfl⟩]
        · rw [pkS_v, if_neg (by omega), pkS_v, if_neg (by omega), pkS_v, if_pos ⟨rfl, rfl, rfl⟩]
        · rw [pkS_v, if_neg (by omega), pkS_v, if_pos ⟨rfl, rfl, rfl⟩]
      · rw [o77 _ (by omega), o77 _ (by omega), o77 _ (by omega), o77 _ (by omega)]
        exact k2 j (by omega)
    · rw [eo 75 k (by omega) (by omega)]; exact k3 k hk
    · rw [eo 76 _ (by omega) (by omega)]; exact k4 a' ha' k h1 h2
    · rw [eo 78 _ (by omega) (by omega)]; exact k5 b' hb' k hk
  · obtain ⟨⟨l, l1, l2, l3⟩, -, -⟩ := g4
    refine ⟨⟨l, l1, (eo 60 41 (by omega) (by omega)).trans l2, l3⟩, ?_, by omega⟩
    rw [← ht, pkS_v, if_pos ⟨rfl, rfl, rfl⟩]
  · exact HM_fr g5 (eo 60 40 (by omega) (by omega)) ⟨F.arr fun _ => KDl_f (by omega) (by omega), F.arr fun _ => KDl_f (by omega) (by omega), F.arr fun _ => KDl_f (by omega) (by omega), F.arr fun _ => KDl_f (by omega) (by omega), F.arr fun _ => KDl_f (by omega) (by omega), F.arr fun _ => KDl_f (by omega) (by omega)⟩
theorem RS_deal {s' : S2} (hr : RS I T B v s) (F : Fr (KDl T) s s') (h : ∀ t, t < T → s'.1 77 0 (4 * t + 2) = s.1 77 0 (4 * t + 2)) : RS I T B v s' := by
  have eo : ∀ c k, ¬ c = 77 → ¬ (c = 60 ∧ k = 42) → s'.1 c 0 k = s.1 c 0 k := fun c k h1 h2 => F.1 c 0 k (KDl_f h1 h2)
  obtain ⟨r1, r2, ⟨m, m1, m2, m3⟩, r4⟩ := hr
  refine ⟨fun a ha => ?_, fun t ht => (r2 t ht).trans (h t ht).symm, ⟨m, m1, (eo 60 36 (by omega) (by omega)).trans m2, m3⟩, r4.trans (eo 60 37 (by omega) (by omega)).symm⟩
  rw [eo 79 _ (by omega) (by omega), eo 80 _ (by omega) (by omega), eo 81 _ (by omega) (by omega), eo 82 _ (by omega) (by omega), eo 83 _ (by omega) (by omega), eo 76 _ (by omega) (by omega)]
  exact r1 a ha
theorem MX_x {x x' : XT} (h : MX I T B W onA x 0 w s) : MX I T B W onA x' 0 w s := by
  obtain ⟨g1, g2, ⟨k1, k2, k3, k4, k5⟩, g4, g5⟩ := h
  exact ⟨g1, g2, ⟨k1, fun j hj => by omega, k3, k4, k5⟩, g4, g5⟩
theorem fm_seL {c : Nat} {q : CQT} {i : Int32} {u : Nat → Int32} (hq : CQ I c q) (hv : VS I v) (hA : AG u v) : ∀ (m k fu f : Nat) (s : S2), k + m = 1000 * I → m < fu → INV I T B R W s → s.1 21 0 = u → s.1 14 0 = w → CQm c q s → ∃ s', f_M_secret_L18 fu i (nI f) (nI k) s = some (s', reS i (ruL (scP I T B W w v c q) i (rgF I m k) f)) ∧ INV I T B R W s' := by
  intro m
  induction m with
  | zero =>
    intro k fu f s hk hf h hu hw hc
    have h6 := h.1.2.2.1.1.1
    obtain ⟨g, rfl, hf'⟩ := suc_of hf
    show ∃ s', b_M_secret_L18 _ _ _ _ _ = some (s', if i = -1 then nI f else -1) ∧ _
    unfold b_M_secret_L18
    rw [h.1.2.2.2.2.2.1.1, of_1000, mul_nI, if_pos (nI_le (by omega) (by omega)), of_m1]
    by_cases d : i = -1
    · rw [if_pos d, if_pos d]; exact ⟨s, rfl, h⟩
    · rw [if_neg d, if_neg d]; exact ⟨s, rfl, h⟩
  | succ m ih =>
    intro k fu f s hk hf h hu hw hc
    obtain ⟨h6, h8, h4⟩ := h.1.2.2.1.1
    obtain ⟨g, rfl, hf'⟩ := suc_lt hf
    have n0 := ih (k + 1) g f s (by omega) hf' h hu hw hc
    show ∃ s', b_M_secret_L18 _ _ _ _ _ = some (s', reS i (ruL (scP I T B W w v c q) i (if okS2 I k then k :: rgF I m (k + 1) else rgF I m (k + 1)) f)) ∧ _
    unfold b_M_secret_L18 f_M_secret_L135
    rw [h.1.2.2.2.2.2.1.1, of_1000, mul_nI, if_neg (nI_ge (by omega) (by omega)), of_100, div_nI (by omega) (by omega) (by omega), of_10, jrem_nI (by omega) (by omega) (by omega), div_nI (by omega) (by omega) (by omega), div_nI (by omega) (by omega) (by omega), jrem_nI (by omega) (by omega) (by omega), jrem_nI (by omega) (by omega) (by omega), of_1, nI_add, nI_add, of_2, of_3, g_M_in_eq]
    by_cases c1 : k / 1000 < k / 100 % 10
    · rw [if_neg (nI_ge c1 (by omega))]
      by_cases c2 : k / 100 % 10 < I
      · rw [if_neg (nI_ge c2 (by omega))]
        by_cases c3 : k / 10 % 10 < 2
        · rw [if_neg (nI_ge c3 (by omega))]
          cases c4 : inS (nI (k % 10)) (nI 1) (nI 3) with
          | false =>
            have : okS2 I k = false := by
              unfold okS2
              have : ¬ (1 ≤ k % 10 ∧ k % 10 ≤ 3) := fun z => by
                rw [inS_of z.1 z.2 (by omega)] at c4
                cases c4
              by_cases d : 1 ≤ k % 10
              · rw [decide_eq_false (show ¬ k % 10 ≤ 3 from fun z => this ⟨d, z⟩)]; simp
              · rw [decide_eq_false d]; simp
            rw [this, ifF]
            exact n0
          | true =>
            obtain ⟨j, j1, j2, j3⟩ := inS_lit c4 (by omega) (by omega)
            have j4 := (nI_eq (by omega) (by omega)).mp j3
            have hok : okS2 I k = true := by
              unfold okS2
              rw [decide_eq_true c1, decide_eq_true c2, decide_eq_true c3, decide_eq_true (show 1 ≤ k % 10 by omega), decide_eq_true (show k % 10 ≤ 3 by omega)]
              rfl
            obtain ⟨t1, u1, ⟨u2, u4, u5⟩, u3⟩ := fm_begin (v := v) h (by rw [hu]; exact hA)
            rw [hw] at u2
            obtain ⟨t2, d1, d2, d3, d4⟩ := fm_deal (x := xcS k) (e := 0) (a := k / 1000) (b := k / 100 % 10) (y := nI (k / 10 % 10)) (z := nI (k % 10)) (by omega) (MX_x u2) (by omega) c2 rfl
            have F2 : Fr (MS T) s t2 := u3.trans (d3.mono fun _ _ _ => KDl_MS)
            obtain ⟨t3, a1, a2⟩ := fm_agrees (v := v) h6 hq d2 (CQm_fr hc F2 rfl fun _ => ⟨rfl, rfl, rfl, rfl⟩) hv (RS_deal u4 d3 d4)
            have F3 : Fr (MS T) s t3 := F2.trans (a2.mono fun _ _ _ => MP_MS)
            obtain ⟨t4, b1, b2, b3⟩ := fm_endF h (by rw [hu]; exact hA) F3 (SV_fr (s := t1) u5 ((a2.arr fun _ => rfl).trans (d3.arr fun _ => KDl_f (by omega) (by omega))))
            have hc4 : CQm c q t4 := CQm_fr (CQm_fr hc F3 rfl fun _ => ⟨rfl, rfl, rfl, rfl⟩) b3 (KTB_60 (by omega)) fun _ => ⟨KTB_c (by omega), KTB_c (by omega), KTB_c (by omega), KTB_c (by omega)⟩
            have hu4 : t4.1 21 0 = u := (b3.arr fun _ => KTB_c (by omega)).trans ((F3.arr fun _ => rfl).trans hu)
            have hw4 : t4.1 14 0 = w := (b3.arr fun _ => KTB_c (by omega)).trans ((F3.arr fun _ => rfl).trans hw)
            have n1 := ih (k + 1) g f t4 (by omega) hf' b2 hu4 hw4 hc4
            have n2 := ih (k + 1) g (f + 1) t4 (by omega) hf' b2 hu4 hw4 hc4
            rw [hok, if_pos rfl, ifT, u1, Option.bind_some, d1, Option.bind_some, a1, Option.bind_some, b1, Option.bind_some]
            show ∃ s', _ = some (s', reS i (if scP I T B W w v c q k then (if nI f = i then Sum.inl k else ruL (scP I T B W w v c q) i (rgF I m (k + 1)) (f + 1)) else ruL (scP I T B W w v c q) i (rgF I m (k + 1)) f)) ∧ _
            rw [show agS q c (seX I T B W onA (xcS k) (0 + 1) w v) (lsN q c) 1 = scP I T B W w v c q k from rfl]
            cases d : scP I T B W w v c q k with
            | false =>
              rw [ifF, if_neg (by decide)]
              exact n1
            | true =>
              rw [ifT, if_pos rfl]
              by_cases g1 : nI f = i
              · rw [if_pos g1, if_pos g1]
                exact ⟨t4, rfl, b2⟩
              · rw [if_neg g1, if_neg g1]
                exact n2
        · rw [if_pos (nI_le (by omega) (by omega)), show okS2 I k = false by unfold okS2; rw [decide_eq_false c3]; simp]
          exact n0
      · rw [if_pos (nI_le (by omega) (by omega)), show okS2 I k = false by unfold okS2; rw [decide_eq_false c2]; simp]
        exact n0
    · rw [if_pos (nI_le (by omega) (by omega)), show okS2 I k = false by unfold okS2; rw [decide_eq_false c1]; simp]
      exact n0
theorem q_secret (h : INV I T B R W s) (i : Int32) : ∃ s1 r s2, f_D_secret i s = some (s1, r) ∧ f_M_secret i s1 = some (s2, r) ∧ INV I T B R W s2 := by
  obtain ⟨h6, h8, h4⟩ := h.1.2.2.1.1
  have hI := h.1.2.2.2.2.2.1.1
  unfold f_D_secret
  rw [v_hasSea h]
  by_cases cI : I = 0
  · rw [decide_eq_false (fun z => z cI)]
    exact ⟨s, _, s, by rw [ifF], by unfold f_M_secret; rw [if_pos (by rw [hI, cI]; exact nI_0)], h⟩
  · rw [decide_eq_true cI]
    obtain ⟨c, q, q1, q2, q3⟩ := CQ_of h6 h.2.2.2.2.2.2.2
    have hv : VS I (mkV (s.1 21 0) (s.1 21 4)) := VS_ag h.1.2.2.2.2.1 (mkV_AG _ _)
    obtain ⟨s1, a1, a2⟩ := fc_seA (i := i) h q1 hv I 0 FU 0 s (by omega) (lt_FU (by omega)) ⟨Fr.refl KS s, q2, rfl⟩
    have h1 := INV_KS h a2
    have hI1 : ¬ s1.1 60 0 28 = 0 := by
      rw [a2.1 60 0 28 rfl, hI]
      exact fun z => cI ((nI_eq (by omega) (by omega)).mp (z.trans nI_0.symm))
    have e1 : f_Charts_secretTie i s = some (s1, reS i (ruL (scP I T B W (s.1 14 0) (mkV (s.1 21 0) (s.1 21 4)) c q) i (seA I I 0) 0)) := by
      unfold f_Charts_secretTie
      rw [show Int32.ofInt 0 = nI 0 from of_0, a1]
    rw [← se_rg I (by omega)] at e1
    by_cases ci : -1 ≤ i
    · obtain ⟨s2, b1, b2⟩ := fm_seL (i := i) (u := s.1 21 0) (w := s.1 14 0) q1 hv (mkV_AG _ _) (1000 * I) 0 FU 0 s1 (by omega) (lt_FU (by omega)) h1 (a2.arr fun _ => rfl) (a2.arr fun _ => rfl) (CQm_fr q3 a2 rfl fun _ => ⟨rfl, rfl, rfl, rfl⟩)
      refine ⟨s1, reS i (ruL (scP I T B W (s.1 14 0) (mkV (s.1 21 0) (s.1 21 4)) c q) i (rgF I (1000 * I) 0) 0), s2, ?_, ?_, b2⟩
      · rw [ifT, e1]; rfl
      · unfold f_M_secret
        rw [if_neg hI1, of_m1, if_pos ci, show Int32.ofInt 0 = nI 0 from of_0, b1]
    · refine ⟨s1, -1, s1, ?_, ?_, h1⟩
      · have := rgF_len I (1000 * I) 0
        rw [ifT, e1, ruL_neg (Int32.not_le.mp ci) _ _ (by omega)]; rfl
      · unfold f_M_secret
        rw [if_neg hI1, of_m1, if_neg ci]
end
