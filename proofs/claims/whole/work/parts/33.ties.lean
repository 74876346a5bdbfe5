/-! ===== all ties draw ===== -/
theorem smod_t : ∀ t, t < 32 → ((nI t).toBitVec.smod 32).toNat = t := by decide
theorem shr_nI {m t : Nat} (hm : m < 2 ^ 31) (ht : t < 32) : nI m >>> (nI t &&& 31) = nI (m / 2 ^ t) := by
  rw [pk_andN (n := t) (by omega) 5 (by decide), Nat.mod_eq_of_lt (by omega)]
  exact pk_shrN hm _ t (smod_t t ht)
theorem bit_nI {m t : Nat} (hm : m < 2 ^ 31) (ht : t < 32) : ((nI m >>> (nI t &&& 31)) &&& nI 1) = nI (if m.testBit t then 1 else 0) := by
  rw [shr_nI hm ht]
  have hq : m / 2 ^ t < 2 ^ 32 := Nat.lt_of_le_of_lt (Nat.div_le_self _ _) (by omega)
  rw [pk_andN hq 1 (by decide), Nat.testBit_eq_decide_div_mod_eq]
  have : m / 2 ^ t % 2 < 2 := Nat.mod_lt _ (by decide)
  by_cases h : m / 2 ^ t % 2 = 1
  · simp [h]
  · have h0 : m / 2 ^ t % 2 = 0 := by omega
    simp [h0]
theorem g_M_has_nI {m t : Nat} {s : S2} (hm : m < 2 ^ 31) (ht : t < 32) : g_M_has (nI m) (nI t) s = m.testBit t := by
  unfold g_M_has
  rw [of_1, bit_nI hm ht]
  cases m.testBit t <;> decide
def Kar (c i : Nat) (c' i' _ : Nat) : Bool := c' == c && i' == i
theorem Kar_self (c i k : Nat) : Kar c i c i k = true := by simp [Kar]
theorem fc_fillL {c i n : Nat} {x : Int32} (hn : n < 2 ^ 31) : ∀ (m k fu : Nat) (s : S2), k + m = n → m < fu → ∃ s', f_Arrays_fill_L5 c i n fu x (nI k) (nI n) s = some s' ∧ (∀ j, k ≤ j → j < n → s'.1 c i j = x) ∧ (∀ j, j < k → s'.1 c i j = s.1 c i j) ∧ Fr (Kar c i) s s' := by
  intro m
  induction m with
  | zero =>
    intro k fu s hk hf
    obtain ⟨f, rfl, hf'⟩ := suc_of hf
    refine ⟨s, ?_, fun j h1 h2 => by omega, fun _ _ => rfl, Fr.refl _ _⟩
    show b_Arrays_fill_L5 c i n _ _ _ _ _ = _
    unfold b_Arrays_fill_L5
    rw [if_pos (nI_le (by omega) (by omega))]
  | succ m ih =>
    intro k fu s hk hf
    obtain ⟨f, rfl, hf'⟩ := suc_lt hf
    obtain ⟨s', h1, h2, h3, h4⟩ := ih (k + 1) f (pkS s c i k x) (by omega) hf'
    refine ⟨s', ?_, fun j h1 h2' => ?_, fun j hj => ?_, Fr.trans (Fr.pk (Kar_self c i k) s x) h4⟩
    · show b_Arrays_fill_L5 c i n _ _ _ _ _ = _
      unfold b_Arrays_fill_L5
      rw [if_neg (nI_ge (by omega) (by omega)), ix_nI (by omega) (by omega), Option.bind_some, Option.bind_some, of_1, nI_add]
      exact h1
    · by_cases hj : j = k
      · subst hj
        rw [h3 j (by omega), pkS_v, if_pos ⟨rfl, rfl, rfl⟩]
      · exact h2 j (by omega) h2'
    · rw [h3 j (by omega), pkS_v, if_neg (by omega)]
theorem fc_fill {c i n : Nat} {x : Int32} {s : S2} (hn : n < 10000) : ∃ s', f_Arrays_fill c i n x s = some s' ∧ (∀ j, j < n → s'.1 c i j = x) ∧ Fr (Kar c i) s s' := by
  obtain ⟨s', h1, h2, -, h3⟩ := fc_fillL (c := c) (i := i) (x := x) (n := n) (by omega) n 0 FU s (by omega) (lt_FU (by omega))
  refine ⟨s', ?_, fun j hj => h2 j (by omega) hj, h3⟩
  unfold f_Arrays_fill
  rw [of_0]
  exact h1
abbrev XT : Type := Nat → Nat × Nat × Int32 × Int32
def ta (w : Nat → Int32) (t : Nat) : Nat := (w ((7 + t) * 8)).toNatClampNeg
def tb (w : Nat → Int32) (t : Nat) : Nat := (w ((7 + t) * 8 + 1)).toNatClampNeg
def ba (w : Nat → Int32) (t : Nat) : Nat := (w ((15 + t) * 8)).toNatClampNeg
def bb (w : Nat → Int32) (t : Nat) : Nat := (w ((15 + t) * 8 + 1)).toNatClampNeg
/-- the told sea: sizes, and ends that are told isles -/
def SE (I T B : Nat) (w : Nat → Int32) : Prop := (I ≤ 6 ∧ T ≤ 8 ∧ B ≤ 4) ∧ (∀ t, t < T → w ((7 + t) * 8) = nI (ta w t) ∧ ta w t < I ∧ w ((7 + t) * 8 + 1) = nI (tb w t) ∧ tb w t < I) ∧ (∀ t, t < B → w ((15 + t) * 8) = nI (ba w t) ∧ ba w t < I ∧ w ((15 + t) * 8 + 1) = nI (bb w t) ∧ bb w t < I ∧ 0 ≤ w ((15 + t) * 8 + 2)) ∧ (∀ a, a < I → (∃ q : Nat, q ≤ 9 ∧ w ((1 + a) * 8 + 5) = nI q) ∧ ∃ q : Nat, q ≤ 99 ∧ w ((1 + a) * 8 + 6) = nI q)
def tiS (W : Option WF6) (v w : Nat → Int32) (on : Nat → Bool) : Nat → D2
  | 0 => (fun _ => 0, fun _ => 0)
  | t + 1 => if on t then adS v (ta w t) (tb w t) (plS W v (ta w t) (tb w t) (v (30 + t)) (w ((7 + t) * 8 + 3))) (tiS W v w on t) else tiS W v w on t
def exS (W : Option WF6) (v : Nat → Int32) (x : XT) (d : D2) : Nat → D2
  | 0 => d
  | j + 1 => adS v (x j).1 (x j).2.1 (plS W v (x j).1 (x j).2.1 (x j).2.2.1 (x j).2.2.2) (exS W v x d j)
def dtS (W : Option WF6) (v w : Nat → Int32) (T : Nat) (on : Nat → Bool) (x : XT) (e : Nat) : D2 := exS W v x (tiS W v w on T) e
/-- the class: how many isles, ties, bridges; which ties draw -/
def CN (I T B : Nat) (s : S2) : Prop := s.1 15 0 1 = nI I ∧ s.1 15 0 2 = nI T ∧ s.1 15 0 3 = nI B
def CF (I T : Nat) (on : Nat → Bool) (x : XT) (e : Nat) (s : S2) : Prop := (∃ m : Nat, m < 2 ^ 31 ∧ s.1 31 0 12 = nI m ∧ ∀ t, t < T → m.testBit t = on t) ∧ s.1 31 0 13 = nI e ∧ e ≤ 3 ∧ ∀ j, j < e → s.1 37 0 j = nI (x j).1 ∧ s.1 38 0 j = nI (x j).2.1 ∧ s.1 39 0 j = (x j).2.2.1 ∧ s.1 40 0 j = (x j).2.2.2 ∧ (x j).1 < I ∧ (x j).2.1 < I
def KD (c i _ : Nat) : Bool := c == 19 || (c == 32 || (c == 33 || (c == 34 || ((c == 26 || (c == 27 || (c == 28 || (c == 29 || c == 30)))) && i == 1))))
theorem KD_KDw {c i k : Nat} (h : KD c i k = false) : KDw c i k = false := by
  unfold KD at h
  unfold KDw
  simp only [Bool.or_eq_false_iff] at h ⊢
  exact ⟨h.2.2.1, h.2.2.2.1⟩
theorem KD_KLt {c i k : Nat} (h : KD c i k = false) : KLt c i k = false := by
  unfold KD at h
  unfold KLt
  simp only [Bool.or_eq_false_iff] at h ⊢
  exact ⟨h.1, h.2.1⟩
/-- what holds on the class's side, whatever is drawn -/
def CX (I T B : Nat) (W : Option WF6) (on : Nat → Bool) (x : XT) (e : Nat) (w : Nat → Int32) (s : S2) : Prop := SE I T B w ∧ s.1 14 0 = w ∧ CN I T B s ∧ CF I T on x e s ∧ HC W s
theorem CX_fr {I T B : Nat} {W : Option WF6} {on : Nat → Bool} {x : XT} {e : Nat} {w : Nat → Int32} {s s' : S2} {K : Nat → Nat → Nat → Bool} (h : CX I T B W on x e w s) (hF : Fr K s s') (hK : ∀ k, K 14 0 k = false ∧ K 15 0 k = false ∧ (∀ n, K 17 n k = false ∧ K 18 n k = false) ∧ K 37 0 k = false ∧ K 38 0 k = false ∧ K 39 0 k = false ∧ K 40 0 k = false) (h11 : K 31 0 11 = false) (h12 : K 31 0 12 = false) (h13 : K 31 0 13 = false) : CX I T B W on x e w s' := by
  obtain ⟨g1, g2, g3, g4, g5⟩ := h
  have e14 : s'.1 14 0 = s.1 14 0 := hF.arr fun k => (hK k).1
  have e15 : s'.1 15 0 = s.1 15 0 := hF.arr fun k => (hK k).2.1
  have e37 : s'.1 37 0 = s.1 37 0 := hF.arr fun k => (hK k).2.2.2.1
  have e38 : s'.1 38 0 = s.1 38 0 := hF.arr fun k => (hK k).2.2.2.2.1
  have e39 : s'.1 39 0 = s.1 39 0 := hF.arr fun k => (hK k).2.2.2.2.2.1
  have e40 : s'.1 40 0 = s.1 40 0 := hF.arr fun k => (hK k).2.2.2.2.2.2
  refine ⟨g1, e14.trans g2, ?_, ?_, HC_fr g5 (hF.1 _ _ _ h11) (fun n => hF.arr fun k => ((hK k).2.2.1 n).1) (fun n => hF.arr fun k => ((hK k).2.2.1 n).2)⟩
  · unfold CN at g3 ⊢
    rw [e15]; exact g3
  · unfold CF at g4 ⊢
    rw [e37, e38, e39, e40, hF.1 _ _ _ h12, hF.1 _ _ _ h13]; exact g4
theorem CX_KD {I T B : Nat} {W : Option WF6} {on : Nat → Bool} {x : XT} {e : Nat} {w : Nat → Int32} {s s' : S2} (h : CX I T B W on x e w s) (hF : Fr KD s s') : CX I T B W on x e w s' := CX_fr h hF (fun _ => ⟨rfl, rfl, fun _ => ⟨rfl, rfl⟩, rfl, rfl, rfl, rfl⟩) rfl rfl rfl
theorem nI_if (b : Bool) : (nI (if b = true then 1 else 0) = 0) = (b = false) := by cases b <;> simp <;> decide
theorem fc_tiesX {s0 : S2} {i I T B : Nat} {W : Option WF6} {on : Nat → Bool} {x : XT} {e : Nat} {v w : Nat → Int32} {d : D2} (hv : VS I v) : ∀ (m k fu : Nat) (s : S2), k + m = e → m < fu → CX I T B W on x e w s → s.1 21 i = v → DC (exS W v x d k) s → Fr KD s0 s → ∃ s', f_Course_drawByTies_L103 i fu (nI k) s = some s' ∧ DC (exS W v x d e) s' ∧ Fr KD s0 s' := by
  intro m
  induction m with
  | zero =>
    intro k fu s hk hf hX hs hd hF
    obtain ⟨f, rfl, hf'⟩ := suc_of hf
    refine ⟨s, ?_, by rw [← show k = e by omega]; exact hd, hF⟩
    show b_Course_drawByTies_L103 i _ _ _ = _
    unfold b_Course_drawByTies_L103
    have h3 := hX.2.2.2.1.2.2.1
    rw [hX.2.2.2.1.2.1, if_pos (nI_le (by omega) (by omega))]
  | succ m ih =>
    intro k fu s hk hf hX hs hd hF
    obtain ⟨f, rfl, hf'⟩ := suc_lt hf
    have h3 := hX.2.2.2.1.2.2.1
    obtain ⟨x1, x2, x3, x4, x5, x6⟩ := hX.2.2.2.1.2.2.2 k (by omega)
    obtain ⟨s1, a1, a2⟩ := fc_pullOf (i := i) (a := (x k).1) (b := (x k).2.1) (k := (x k).2.2.1) (st := (x k).2.2.2) (s := s) (I := I) (W := W) (by rw [hs]; exact hv) x5 x6 hX.2.2.2.2
    have F1 : Fr KD s s1 := a2.mono fun _ _ _ => KD_KLt
    have hs1 : s1.1 21 i = v := (F1.arr fun _ => rfl).trans hs
    have hX1 := CX_KD hX F1
    obtain ⟨y1, y2, -⟩ := hX1.2.2.2.1.2.2.2 k (by omega)
    have hd1 : DC (exS W v x d k) s1 := fun j hj => ⟨(a2.1 33 0 j rfl).trans (hd j hj).1, (a2.1 34 0 j rfl).trans (hd j hj).2⟩
    obtain ⟨s2, b1, b2, b3⟩ := fc_drawTwo (i := i) (s := s1) (I := I) (p := plS W (s.1 21 i) (x k).1 (x k).2.1 (x k).2.2.1 (x k).2.2.2) (by rw [hs1]; exact hv) x5 x6 hd1
    have F2 : Fr KD s1 s2 := b2.mono fun _ _ _ => KD_KDw
    obtain ⟨s', c1, c2, c3⟩ := ih (k + 1) f s2 (by omega) hf' (CX_KD hX1 F2) ((F2.arr fun _ => rfl).trans hs1) (by
      show DC (adS v _ _ _ _) s2
      rw [hs1, hs] at b3
      exact b3) ((hF.trans F1).trans F2)
    refine ⟨s', ?_, c2, c3⟩
    show b_Course_drawByTies_L103 i _ _ _ = _
    unfold b_Course_drawByTies_L103
    rw [hX.2.2.2.1.2.1, if_neg (nI_ge (by omega) (by omega))]
    simp (disch := omega) only [ix_nI, Option.bind_some, x1, x2, x3, x4, a1, y1, y2, b1, of_1, nI_add]
    exact c1
theorem fc_tiesT {s0 : S2} {i I T B : Nat} {W : Option WF6} {on : Nat → Bool} {x : XT} {e : Nat} {v w : Nat → Int32} (hv : VS I v) : ∀ (m k fu : Nat) (s : S2), k + m = T → m < fu → CX I T B W on x e w s → s.1 21 i = v → DC (tiS W v w on k) s → Fr KD s0 s → ∃ s', f_Course_drawByTies_L18 i fu (nI k) s = some s' ∧ DC (dtS W v w T on x e) s' ∧ Fr KD s0 s' := by
  intro m
  induction m with
  | zero =>
    intro k fu s hk hf hX hs hd hF
    obtain ⟨f, rfl, hf'⟩ := suc_of hf
    obtain ⟨s', h1, h2, h3⟩ := fc_tiesX (s0 := s0) (i := i) (W := W) (x := x) (e := e) (d := tiS W v w on T) hv e 0 FU s (by omega) (lt_FU (by have := hX.2.2.2.1.2.2.1; omega)) hX hs (by rw [← show k = T by omega]; exact hd) hF
    refine ⟨s', ?_, h2, h3⟩
    show b_Course_drawByTies_L18 i _ _ _ = _
    unfold b_Course_drawByTies_L18
    have h8 := hX.1.1.2.1
    rw [show g_Sea_ties 0 s = nI T from hX.2.2.1.2.1, if_pos (nI_le (by omega) (by omega)), of_0]
    exact h1
  | succ m ih =>
    intro k fu s hk hf hX hs hd hF
    obtain ⟨f, rfl, hf'⟩ := suc_lt hf
    have h8 := hX.1.1.2.1
    obtain ⟨bm, hm1, hm2, hm3⟩ := hX.2.2.2.1.1
    show ∃ s', b_Course_drawByTies_L18 i (f_Course_drawByTies_L18 i f) (nI k) s = some s' ∧ _
    unfold b_Course_drawByTies_L18
    rw [show g_Sea_ties 0 s = nI T from hX.2.2.1.2.1, if_neg (nI_ge (by omega) (by omega)), hm2, of_1, bit_nI hm1 (by omega), hm3 k (by omega)]
    by_cases hon : on k = true
    · rw [hon, if_neg (by decide)]
      obtain ⟨t1, t2, t3, t4⟩ := hX.1.2.1 k (by omega)
      have hw := hX.2.1
      rw [show Int32.ofInt 0 = nI 0 from of_0, show Int32.ofInt 3 = nI 3 from of_3, fc_ofTie (a := k) (k := 0) (by omega) (by omega), Option.bind_some, fc_ofTie (a := k) (k := 1) (by omega) (by omega), Option.bind_some, fc_kindOf (by omega), Option.bind_some, fc_ofTie (a := k) (k := 3) (by omega) (by omega), Option.bind_some, hw, Nat.add_zero, t1, t3, hs]
      obtain ⟨s1, a1, a2⟩ := fc_pullOf (i := i) (a := ta w k) (b := tb w k) (k := v (30 + k)) (st := w ((7 + k) * 8 + 3)) (s := s) (I := I) (W := W) (by rw [hs]; exact hv) t2 t4 hX.2.2.2.2
      have F1 : Fr KD s s1 := a2.mono fun _ _ _ => KD_KLt
      have hs1 : s1.1 21 i = v := (F1.arr fun _ => rfl).trans hs
      have hd1 : DC (tiS W v w on k) s1 := fun j hj => ⟨(a2.1 33 0 j rfl).trans (hd j hj).1, (a2.1 34 0 j rfl).trans (hd j hj).2⟩
      rw [a1, Option.bind_some]
      obtain ⟨s2, b1, b2, b3⟩ := fc_drawTwo (i := i) (s := s1) (I := I) (p := plS W (s.1 21 i) (ta w k) (tb w k) (v (30 + k)) (w ((7 + k) * 8 + 3))) (by rw [hs1]; exact hv) t2 t4 hd1
      have F2 : Fr KD s1 s2 := b2.mono fun _ _ _ => KD_KDw
      rw [b1, Option.bind_some]
      obtain ⟨s', c1, c2, c3⟩ := ih (k + 1) f s2 (by omega) hf' (CX_KD (CX_KD hX F1) F2) ((F2.arr fun _ => rfl).trans hs1) (by
        show DC (if on k then adS v _ _ _ _ else _) s2
        rw [if_pos hon]
        rw [hs1, hs] at b3
        exact b3) ((hF.trans F1).trans F2)
      refine ⟨s', ?_, c2, c3⟩
      unfold f_Course_drawByTies_L95
      rw [of_1, nI_add]
      exact c1
    · have hon' : on k = false := by cases h : on k <;> simp_all
      rw [hon', if_pos (by decide)]
      obtain ⟨s', c1, c2, c3⟩ := ih (k + 1) f s (by omega) hf' hX hs (by
        show DC (if on k then adS v _ _ _ _ else _) s
        rw [hon']
        exact hd) hF
      refine ⟨s', ?_, c2, c3⟩
      unfold f_Course_drawByTies_L95
      rw [of_1, nI_add]
      exact c1
theorem fc_drawByTies {s : S2} {i I T B : Nat} {W : Option WF6} {on : Nat → Bool} {x : XT} {e : Nat} {w : Nat → Int32} (hv : VS I (s.1 21 i)) (hX : CX I T B W on x e w s) : ∃ s', f_Course_drawByTies i s = some s' ∧ DC (dtS W (s.1 21 i) w T on x e) s' ∧ Fr KD s s' := by
  unfold f_Course_drawByTies
  rw [of_0]
  obtain ⟨s1, a1, a2, a3⟩ := fc_fill (c := 33) (i := 0) (n := 6) (x := 0) (s := s) (by omega)
  rw [a1, Option.bind_some]
  obtain ⟨s2, b1, b2, b3⟩ := fc_fill (c := 34) (i := 0) (n := 6) (x := 0) (s := s1) (by omega)
  rw [b1, Option.bind_some]
  have hk : ∀ c, (c = 33 ∨ c = 34) → ∀ c' i' k, KD c' i' k = false → Kar c 0 c' i' k = false := by
    intro c hc c' i' k h
    unfold Kar
    cases hq : c' == c with
    | false => rfl
    | true =>
      have := eq_of_beq hq
      subst this
      rcases hc with rfl | rfl <;> cases h
  have F1 : Fr KD s s1 := a3.mono (hk 33 (Or.inl rfl))
  have F2 : Fr KD s s2 := F1.trans (b3.mono (hk 34 (Or.inr rfl)))
  exact fc_tiesT (s0 := s) hv T 0 FU s2 (by omega) (lt_FU (by have := hX.1.1.2.1; omega)) (CX_KD hX F2) (F2.arr fun _ => rfl) (fun k hk => ⟨(b3.1 33 0 k rfl).trans (a2 k hk), b2 k hk⟩) F2
