/-! ===== land ===== -/
section
variable {I T B R : Nat} {W : Option WF6} {s s' s0 : S2} {w v : Nat → Int32} {d : Int32}
/-- one round: every isle of the mask brings those it sees -/
def lpS (I : Nat) (v : Nat → Int32) (d : Int32) : Nat → Nat → Nat → Nat
  | 0, _, m => m
  | k + 1, a, m => lpS I v d k (a + 1) (if m.testBit a then m ||| bsS (viS I v a d) I else m)
def itS (f : Nat → Nat) : Nat → Nat → Nat
  | 0, m => m
  | k + 1, m => itS f k (f m)
def HB (I : Nat) (v : Nat → Int32) (m : Nat) : Prop := ∀ j, m.testBit j = true → isH I v j = true
theorem HB_lt {m : Nat} (h : HB I v m) (h6 : I ≤ 6) : m < 2 ^ I ∧ m < 64 := by
  have : m < 2 ^ I := Nat.lt_pow_two_of_testBit m fun j hj => by
    cases q : m.testBit j with
    | false => rfl
    | true => have := isH_lt (h j q); omega
  exact ⟨this, Nat.lt_of_lt_of_le this (Nat.pow_le_pow_right (by omega) h6 : 2 ^ I ≤ 2 ^ 6)⟩
theorem viS_H {a j : Nat} (h : viS I v a d j = true) : isH I v j = true := by
  unfold viS at h
  simp only [Bool.and_eq_true] at h
  exact h.2.1
theorem HB_or {m a : Nat} (h : HB I v m) : HB I v (m ||| bsS (viS I v a d) I) := fun j hj => by
  rw [Nat.testBit_or, bsS_bit] at hj
  simp only [Bool.or_eq_true, Bool.and_eq_true] at hj
  rcases hj with k | k
  · exact h j k
  · exact viS_H k.2
theorem HB_lp : ∀ (k a m : Nat), HB I v m → HB I v (lpS I v d k a m) := by
  intro k
  induction k with
  | zero => intro a m h; exact h
  | succ k ih =>
    intro a m h
    refine ih (a + 1) _ ?_
    split
    · exact HB_or h
    · exact h
theorem lpS_cut (h6 : I ≤ 6) : ∀ (k a k' m : Nat), a + k = I → k ≤ k' → HB I v m → lpS I v d k' a m = lpS I v d k a m := by
  have hz : ∀ (k a m : Nat), I ≤ a → HB I v m → lpS I v d k a m = m := by
    intro k
    induction k with
    | zero => intro a m _ _; rfl
    | succ k ih =>
      intro a m ha h
      have hb : m.testBit a = false := by
        cases q : m.testBit a with
        | false => rfl
        | true => have := isH_lt (h a q); omega
      show lpS I v d k (a + 1) (if m.testBit a then m ||| bsS (viS I v a d) I else m) = m
      rw [hb]
      exact ih (a + 1) m (by omega) h
  intro k
  induction k with
  | zero => intro a k' m ha _ h; rw [hz k' a m (by omega) h]; rfl
  | succ k ih =>
    intro a k' m ha hk h
    obtain ⟨k'', rfl⟩ : ∃ j, k' = j + 1 := ⟨k' - 1, by omega⟩
    refine ih (a + 1) k'' _ (by omega) (by omega) ?_
    split
    · exact HB_or h
    · exact h
theorem lpS_sub : ∀ (k a m j : Nat), m.testBit j = true → (lpS I v d k a m).testBit j = true := by
  intro k
  induction k with
  | zero => intro a m j h; exact h
  | succ k ih =>
    intro a m j h
    refine ih (a + 1) _ j ?_
    split
    · rw [Nat.testBit_or, h, Bool.true_or]
    · exact h
def cbS (m : Nat) : Nat → Nat
  | 0 => 0
  | k + 1 => cbS m k + (if m.testBit k then 1 else 0)
theorem cbS_le (m : Nat) : ∀ k, cbS m k ≤ k := by
  intro k
  induction k with
  | zero => exact Nat.le_refl 0
  | succ k ih =>
    show cbS m k + (if m.testBit k then 1 else 0) ≤ k + 1
    split <;> omega
theorem cbS_mono {m m' : Nat} (h : ∀ j, m.testBit j = true → m'.testBit j = true) : ∀ k, cbS m k ≤ cbS m' k := by
  intro k
  induction k with
  | zero => exact Nat.le_refl 0
  | succ k ih =>
    show cbS m k + (if m.testBit k then 1 else 0) ≤ cbS m' k + (if m'.testBit k then 1 else 0)
    cases q : m.testBit k with
    | false => rw [if_neg (by decide)]; omega
    | true => rw [h k q, if_pos rfl]; omega
theorem cbS_lt {m m' i : Nat} (h : ∀ j, m.testBit j = true → m'.testBit j = true) (h1 : m.testBit i = false) (h2 : m'.testBit i = true) : ∀ k, i < k → cbS m k < cbS m' k := by
  intro k
  induction k with
  | zero => intro hi; omega
  | succ k ih =>
    intro hi
    show cbS m k + (if m.testBit k then 1 else 0) < cbS m' k + (if m'.testBit k then 1 else 0)
    by_cases c : i = k
    · subst c
      have := cbS_mono h i
      rw [h1, h2, if_neg (by decide), if_pos rfl]; omega
    · have := ih (by omega)
      cases q : m.testBit k with
      | false => rw [if_neg (by decide)]; omega
      | true => rw [h k q, if_pos rfl]; omega
theorem cbS_1 {m i : Nat} (h : m.testBit i = true) : ∀ k, i < k → 1 ≤ cbS m k := by
  intro k hi
  have := cbS_lt (m := 0) (m' := m) (i := i) (fun j hj => by rw [Nat.zero_testBit] at hj; cases hj) (Nat.zero_testBit i) h k hi
  omega
def lfS (I : Nat) (v : Nat → Int32) (d : Int32) (m : Nat) : Nat := lpS I v d I 0 m
theorem lfS_grow (h6 : I ≤ 6) {m : Nat} (h : HB I v m) (hn : ¬ lfS I v d m = m) : cbS m 6 < cbS (lfS I v d m) 6 := by
  have hs : ∀ j, m.testBit j = true → (lfS I v d m).testBit j = true := fun j hj => lpS_sub I 0 m j hj
  have : ∃ i, m.testBit i = false ∧ (lfS I v d m).testBit i = true := by
    apply Classical.byContradiction
    intro hc
    apply hn
    apply Nat.eq_of_testBit_eq
    intro i
    cases q : m.testBit i with
    | true => rw [hs i q]
    | false =>
      cases r : (lfS I v d m).testBit i with
      | false => rfl
      | true => exact absurd ⟨i, q, r⟩ hc
  obtain ⟨i, i1, i2⟩ := this
  have hi := isH_lt ((HB_lp (d := d) I 0 m h) i i2)
  exact cbS_lt hs i1 i2 6 (by omega)
theorem itS_fix {f : Nat → Nat} {m : Nat} (h : f m = m) : ∀ k, itS f k m = m := by
  intro k
  induction k with
  | zero => rfl
  | succ k ih => show itS f k (f m) = m; rw [h, ih]
/-- as many rounds as there may be new isles -/
theorem itS_enough (h6 : I ≤ 6) : ∀ (n m : Nat), HB I v m → 6 ≤ cbS m 6 + n → ∀ k, n ≤ k → itS (lfS I v d) k m = itS (lfS I v d) n m ∧ lfS I v d (itS (lfS I v d) n m) = itS (lfS I v d) n m := by
  intro n
  induction n with
  | zero =>
    intro m h hc k hk
    have : lfS I v d m = m := by
      apply Classical.byContradiction
      intro hn
      have := lfS_grow h6 h hn
      have := cbS_le (lfS I v d m) 6
      omega
    exact ⟨itS_fix this k, this⟩
  | succ n ih =>
    intro m h hc k hk
    obtain ⟨k', rfl⟩ : ∃ j, k = j + 1 := ⟨k - 1, by omega⟩
    by_cases e : lfS I v d m = m
    · rw [itS_fix e (k' + 1), itS_fix e (n + 1)]
      exact ⟨rfl, e⟩
    · have hg := lfS_grow h6 h e
      exact ih (lfS I v d m) (HB_lp I 0 m h) (by omega) k' (by omega)
theorem fc_landI {i : Nat} (hv : VS I (s.1 21 i)) (k7 : Int32 → Int32 → Int32 → S2 → Option Int32) (r : Int32) : ∀ (n a fu m : Nat), a + n = 6 → n < fu → HB I (s.1 21 i) m → f_State_landOf_L17 i k7 fu d (nI m) r (nI a) s = k7 d (nI (lpS I (s.1 21 i) d n a m)) (r + nI 1) s := by
  have h6 := hv.1
  intro n
  induction n with
  | zero =>
    intro a fu m ha hf hb
    obtain ⟨f, rfl, hf'⟩ := suc_of hf
    show b_State_landOf_L17 _ _ _ _ _ _ _ _ = _
    unfold b_State_landOf_L17
    rw [of_6, if_pos (nI_le (by omega) (by omega)), of_1]
    rfl
  | succ n ih =>
    intro a fu m ha hf hb
    obtain ⟨f, rfl, hf'⟩ := suc_lt hf
    obtain ⟨hm, hm6⟩ := HB_lt hb h6
    show b_State_landOf_L17 _ _ _ _ _ _ _ _ = k7 d (nI (lpS I (s.1 21 i) d n (a + 1) (if m.testBit a then m ||| bsS (viS I (s.1 21 i) a d) I else m))) (r + nI 1) s
    unfold b_State_landOf_L17 f_State_landOf_L43
    rw [of_6, if_neg (nI_ge (by omega) (by omega)), of_1, bit_nI (by omega) (by omega), nI_add]
    cases c : m.testBit a with
    | false =>
      rw [if_neg (show ¬ (false = true) by decide), if_neg (show ¬ (false = true) by decide), if_pos nI_0]
      exact ih (a + 1) f m (by omega) hf' hb
    | true =>
      have ha' := isH_lt (hb a c)
      rw [if_pos rfl, if_pos rfl, if_neg (show ¬ nI 1 = 0 by decide), fc_seen hv ha', Option.bind_some, or64 _ hm6 _ (bsS_64 _ h6)]
      exact ih (a + 1) f _ (by omega) hf' (HB_or hb)
theorem fc_landO {i : Nat} (hv : VS I (s.1 21 i)) : ∀ (n k fu m : Nat), k + n = 6 → n < fu → HB I (s.1 21 i) m → f_State_landOf_L7 i fu d (nI m) (nI k) s = some (nI (itS (lfS I (s.1 21 i) d) n m)) := by
  have h6 := hv.1
  intro n
  induction n with
  | zero =>
    intro k fu m hk hf hb
    obtain ⟨f, rfl, hf'⟩ := suc_of hf
    show b_State_landOf_L7 _ _ _ _ _ _ = _
    unfold b_State_landOf_L7
    rw [of_6, if_pos (nI_le (by omega) (by omega))]
    rfl
  | succ n ih =>
    intro k fu m hk hf hb
    obtain ⟨f, rfl, hf'⟩ := suc_lt hf
    show b_State_landOf_L7 _ _ _ _ _ _ = some (nI (itS (lfS I (s.1 21 i) d) n (lpS I (s.1 21 i) d I 0 m)))
    unfold b_State_landOf_L7
    rw [of_6, if_neg (nI_ge (by omega) (by omega)), show Int32.ofInt 0 = nI 0 from of_0, fc_landI hv (f_State_landOf_L7 i f) (nI k) 6 0 FU m (by omega) (lt_FU (by omega)) hb, nI_add, lpS_cut h6 I 0 6 m (by omega) h6 hb]
    exact ih (k + 1) f _ (by omega) hf' (HB_lp I 0 m hb)
theorem HB_one {g : Nat} (hg : isH I v g = true) : HB I v (2 ^ g) := fun j hj => by
  by_cases c : j = g
  · rw [c]; exact hg
  · rw [Nat.testBit_two_pow_of_ne (fun z => c z.symm)] at hj
    cases hj
theorem fc_land {i g : Nat} (hv : VS I (s.1 21 i)) (hg : isH I (s.1 21 i) g = true) : f_State_landOf i (nI g) d s = some (nI (itS (lfS I (s.1 21 i) d) 6 (2 ^ g))) := by
  have h6 := hv.1
  have hl := isH_lt hg
  unfold f_State_landOf
  rw [of_1, sh6 g (by omega), show Int32.ofInt 0 = nI 0 from of_0]
  exact fc_landO hv 6 0 FU _ (by omega) (lt_FU (by omega)) (HB_one hg)
/-- the reference's inner loop: isle a brings b -/
def qnS (I : Nat) (v : Nat → Int32) (a : Nat) (d : Int32) (b : Nat) : Bool := isH I v b && !decide (d < apS v a b)
theorem or_seen {m a : Nat} (ha : m.testBit a = true) : m ||| bsS (qnS I v a d) I = m ||| bsS (viS I v a d) I := by
  apply Nat.eq_of_testBit_eq
  intro j
  rw [Nat.testBit_or, Nat.testBit_or, bsS_bit, bsS_bit]
  by_cases c : j = a
  · rw [c, ha, Bool.true_or, Bool.true_or]
  · unfold viS qnS
    rw [decide_eq_false c]
    rfl
theorem fm_landI {a x4 : Nat} (hI : s.1 60 0 28 = nI I) (hv : VS I v) (hr : RS I T B v s) (ha : a < I) (k12 : Int32 → Int32 → Int32 → S2 → Option Int32) (k24 : Int32 → Int32 → Int32 → Int32 → S2 → Option Int32) {m : Nat} (hb : HB I v m) : ∀ (n b fu : Nat), b + n = I → n < fu → f_M_landOf_L36 k12 k24 fu d (nI (if m.testBit a then m ||| bsS (qnS I v a d) b else m)) (nI x4) (nI a) (nI b) s = k24 d (nI (if m.testBit a then m ||| bsS (qnS I v a d) I else m)) (nI x4) (nI (a + 1)) s := by
  have h6 := hv.1
  obtain ⟨hm, hm6⟩ := HB_lt hb h6
  intro n
  induction n with
  | zero =>
    intro b fu hbn hf
    obtain ⟨f, rfl, hf'⟩ := suc_of hf
    show b_M_landOf_L36 _ _ _ _ _ _ _ _ _ = _
    unfold b_M_landOf_L36
    rw [hI, if_pos (nI_le (by omega) (by omega)), of_1, nI_add, show b = I by omega]
  | succ n ih =>
    intro b fu hbn hf
    obtain ⟨f, rfl, hf'⟩ := suc_lt hf
    have st := ih (b + 1) f (by omega) hf'
    show b_M_landOf_L36 _ _ _ _ _ _ _ _ _ = _
    unfold b_M_landOf_L36 f_M_landOf_L92 f_M_landOf_L93
    rw [hI, if_neg (nI_ge (by omega) (by omega)), fm_isHead hI hv hr (by omega), Option.bind_some, fm_isHead hI hv hr (by omega), Option.bind_some, of_1, nI_add, show Int32.ofInt 0 = 0 from of_0, Int32.or_zero]
    cases c : m.testBit a with
    | false =>
      rw [c] at st
      simp only [Bool.false_eq_true, if_false] at st ⊢
      have hh : g_M_has (nI m) (nI a) s = false := by rw [g_M_has_nI (by omega) (by omega), c]
      rw [hh]
      cases isH I v a with
      | false => rw [ifF]; exact st
      | true =>
        cases isH I v b with
        | false => rw [ifT, ifF]; exact st
        | true => rw [ifT, ifT, ifF]; exact st
    | true =>
      rw [c] at st
      simp only [if_true] at st ⊢
      have hq6 := bsS_64 (qnS I v a d) (n := b) (by omega)
      have hor : m ||| bsS (qnS I v a d) b < 64 := Nat.or_lt_two_pow (n := 6) hm6 hq6
      have hh : g_M_has (nI (m ||| bsS (qnS I v a d) b)) (nI a) s = true := by
        rw [g_M_has_nI (by omega) (by omega), Nat.testBit_or, c, Bool.true_or]
      rw [hb a c, ifT]
      cases c2 : isH I v b with
      | false =>
        have hp : qnS I v a d b = false := by unfold qnS; rw [c2]; rfl
        rw [bsS_f hp] at st
        rw [ifF]; exact st
      | true =>
        rw [ifT, hh, ifT, fm_isNear hv hr ha (by omega), Option.bind_some]
        cases c3 : decide (d < apS v a b) with
        | true =>
          have hp : qnS I v a d b = false := by unfold qnS; rw [c3, c2]; rfl
          rw [bsS_f hp] at st
          exact (if_pos rfl).trans st
        | false =>
          have hp : qnS I v a d b = true := by unfold qnS; rw [c3, c2]; rfl
          have e : nI (m ||| bsS (qnS I v a d) b) ||| (nI 1 <<< (nI b &&& 31)) = nI (m ||| bsS (qnS I v a d) (b + 1)) := by
            rw [sh6 b (by omega), or64 _ hor _ (Nat.pow_lt_pow_right (by omega) (show b < 6 by omega) : 2 ^ b < 2 ^ 6), bsS_t hp, Nat.or_assoc]
          rw [e]
          exact (if_neg (by decide)).trans st
theorem fm_landA {x4 : Nat} (hI : s.1 60 0 28 = nI I) (hv : VS I v) (hr : RS I T B v s) (k12 : Int32 → Int32 → Int32 → S2 → Option Int32) : ∀ (n a fu m : Nat), a + n = I → n < fu → HB I v m → f_M_landOf_L24 k12 fu d (nI m) (nI x4) (nI a) s = k12 d (nI (lpS I v d n a m)) (nI x4) s := by
  have h6 := hv.1
  intro n
  induction n with
  | zero =>
    intro a fu m ha hf hb
    obtain ⟨f, rfl, hf'⟩ := suc_of hf
    show b_M_landOf_L24 _ _ _ _ _ _ _ = _
    unfold b_M_landOf_L24
    rw [hI, if_pos (nI_le (by omega) (by omega))]
    rfl
  | succ n ih =>
    intro a fu m ha hf hb
    obtain ⟨f, rfl, hf'⟩ := suc_lt hf
    show b_M_landOf_L24 _ _ _ _ _ _ _ = k12 d (nI (lpS I v d n (a + 1) (if m.testBit a then m ||| bsS (viS I v a d) I else m))) (nI x4) s
    unfold b_M_landOf_L24
    have st := fm_landI (x4 := x4) (d := d) hI hv hr (show a < I by omega) k12 (f_M_landOf_L24 k12 f) hb I 0 FU (by omega) (lt_FU (by omega))
    rw [show (if m.testBit a then m ||| bsS (qnS I v a d) 0 else m) = m from by
      split
      · exact Nat.or_zero m
      · rfl] at st
    rw [hI, if_neg (nI_ge (by omega) (by omega)), show Int32.ofInt 0 = nI 0 from of_0, st]
    cases c : m.testBit a with
    | false =>
      simp only [Bool.false_eq_true, if_false]
      exact ih (a + 1) f m (by omega) hf' hb
    | true =>
      simp only [if_true]
      rw [or_seen c]
      exact ih (a + 1) f _ (by omega) hf' (HB_or hb)
theorem fm_landO (hI : s.1 60 0 28 = nI I) (hv : VS I v) (hr : RS I T B v s) : ∀ (n fu m p : Nat), 7 ≤ cbS m 6 + n → n < fu → HB I v m → p < 64 → (p = m → lfS I v d m = m) → (¬ p = m → 1 ≤ n) → f_M_landOf_L12 fu d (nI m) (nI p) s = some (nI (itS (lfS I v d) 6 m)) := by
  have h6 := hv.1
  intro n
  induction n with
  | zero =>
    intro fu m p hc hf hb hp he h1
    obtain ⟨f, rfl, hf'⟩ := suc_of hf
    have := cbS_le m 6
    omega
  | succ n ih =>
    intro fu m p hc hf hb hp he h1
    obtain ⟨f, rfl, hf'⟩ := suc_lt hf
    obtain ⟨hm, hm6⟩ := HB_lt hb h6
    show b_M_landOf_L12 _ _ _ _ _ = _
    unfold b_M_landOf_L12
    by_cases c : p = m
    · rw [if_pos (by rw [c]), itS_fix (he c)]
    · rw [if_neg (fun z => c ((nI_eq (by omega) (by omega)).mp z)), show Int32.ofInt 0 = nI 0 from of_0, fm_landA hI hv hr (f_M_landOf_L12 f) I 0 FU m (by omega) (lt_FU (by omega)) hb]
      have hb' : HB I v (lfS I v d m) := HB_lp I 0 m hb
      have hx : itS (lfS I v d) 6 (lfS I v d m) = itS (lfS I v d) 6 m := by
        obtain ⟨e1, e2⟩ := itS_enough (d := d) h6 6 m hb (by omega) 7 (by omega)
        exact e1
      by_cases e : lfS I v d m = m
      · have : f_M_landOf_L12 f d (nI (lfS I v d m)) (nI m) s = some (nI (itS (lfS I v d) 6 m)) := by
          obtain ⟨f', rfl, -⟩ := suc_of (show 0 < f by omega)
          show b_M_landOf_L12 _ _ _ _ _ = _
          unfold b_M_landOf_L12
          rw [if_pos (by rw [e]), itS_fix e, e]
        exact this
      · have hg := lfS_grow h6 hb e
        have := ih f (lfS I v d m) m (by omega) (by omega) hb' hm6 (fun z => absurd z.symm e) (fun _ => by
          have := cbS_le (lfS I v d m) 6
          omega)
        rw [hx] at this
        exact this
theorem fm_land {a : Nat} (hI : s.1 60 0 28 = nI I) (hv : VS I v) (hr : RS I T B v s) (ha : a < I) : f_M_landOf (nI a) d s = some (nI (itS (lfS I v d) 6 (2 ^ hdS v a))) := by
  have h6 := hv.1
  obtain ⟨g1, g2, g3⟩ := hv.2.1 a ha
  have hh : isH I v (hdS v a) = true := by
    unfold isH
    rw [decide_eq_true g2, decide_eq_true g3]; rfl
  unfold f_M_landOf
  rw [ix_nI (n := 6) (k := a) (by omega) (by omega), Option.bind_some, RS_hd hv hr ha, of_1, sh6 _ (by omega), show Int32.ofInt 0 = nI 0 from of_0]
  exact fm_landO hI hv hr 7 FU _ 0 (by omega) (lt_FU (by omega)) (HB_one hh) (by omega) (fun z => by
    have := Nat.two_pow_pos (hdS v a)
    omega) (fun _ => by omega)
theorem q_land (h : INV I T B R W s) (x y : Int32) : ∃ r, f_D_land x y s = some r ∧ f_M_land x y s = some r := by
  have h6 := h.1.2.2.1.1.1
  have hv := h.1.2.2.2.2.1
  unfold f_D_land f_M_land
  rw [(v_isle h x).1, (v_isle h x).2, g_D_isWithin_eq, g_M_in_eq]
  cases c1 : inS x 0 (nI I - nI 1) with
  | false => exact ⟨_, by rw [ifF], by rw [ifF]⟩
  | true =>
    cases c2 : inS y (Int32.ofInt 0) (Int32.ofInt 999) with
    | false => exact ⟨_, by rw [ifT, ifF], by rw [ifT, ifF]⟩
    | true =>
      obtain ⟨a, a1, rfl⟩ := inS_nI c1 (by omega)
      obtain ⟨g1, g2, g3⟩ := hv.2.1 a a1
      have hh : isH I (s.1 21 0) (hdS (s.1 21 0) a) = true := by
        unfold isH
        rw [decide_eq_true g2, decide_eq_true g3]; rfl
      refine ⟨nI (itS (lfS I (s.1 21 0) y) 6 (2 ^ hdS (s.1 21 0) a)), ?_, ?_⟩
      · rw [ifT, ifT, fc_headOf hv a1, Option.bind_some, fc_land hv hh]
        rfl
      · rw [ifT, ifT, fm_land h.1.2.2.2.2.2.1.1 hv h.1.2.2.2.2.2.2.2.2 a1]
        rfl
end
