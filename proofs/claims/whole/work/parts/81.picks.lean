/-! ===== treaties: the class's rows ===== -/
section
variable {I T B R : Nat} {W : Option WF6} {s s0 : S2} {w v : Nat → Int32} {on : Nat → Bool}
def alO (a : Nat) : Nat → Nat → List Nat
  | 0, _ => []
  | m + 1, b => (10 * a + b) :: alO a m (b + 1)
def alA (I : Nat) : Nat → Nat → List Nat
  | 0, _ => []
  | m + 1, a => alO a (I - (a + 1)) (a + 1) ++ alA I m (a + 1)
theorem al_len : ∀ I, I < 7 → (alA I I 0).length ≤ 15 := by decide +kernel
/-- not of one head -/
def dfP (v : Nat → Int32) (c : Nat) : Bool := !decide (hdS v (c / 10) = hdS v (c % 10))
/-- the pairs that the class has written -/
def PT (I : Nat) (L : List Nat) (s : S2) : Prop := L.length ≤ 15 ∧ s.1 45 0 7 = nI L.length ∧ ∀ j, j < L.length → L.getD j 0 / 10 < I ∧ L.getD j 0 % 10 < I ∧ s.1 46 0 j = nI (L.getD j 0 / 10) ∧ s.1 47 0 j = nI (L.getD j 0 % 10)
def Ktp (c i k : Nat) : Bool := i == 0 && (c == 46 || (c == 47 || (c == 45 && k == 7)))
theorem Ktp_KS {c i k : Nat} (h : KS c i k = false) : Ktp c i k = false := by
  unfold KS at h
  unfold Ktp
  have key : ∀ x : Nat, 32 ≤ x → x ≤ 48 → (c == x) = false := fun x h1 h2 => by
    cases hq : c == x with
    | false => rfl
    | true =>
      have e := eq_of_beq hq
      rw [e, show Nat.ble 32 x = true from Nat.ble_eq_true_of_le h1, show Nat.ble x 48 = true from Nat.ble_eq_true_of_le h2] at h
      simp at h
  rw [key 46 (by omega) (by omega), key 47 (by omega) (by omega), key 45 (by omega) (by omega)]
  simp
theorem getD_app {l : List Nat} {c j : Nat} : (l ++ [c]).getD j 0 = if j = l.length then c else l.getD j 0 := by
  rw [List.getD_eq_getElem?_getD, List.getD_eq_getElem?_getD]
  by_cases h : j = l.length
  · rw [if_pos h, h, List.getElem?_append_right (Nat.le_refl _), Nat.sub_self]
    rfl
  · rw [if_neg h]
    by_cases h2 : j < l.length
    · rw [List.getElem?_append_left h2]
    · rw [List.getElem?_append_right (by omega), List.getElem?_eq_none (by simp; omega), List.getElem?_eq_none (by omega)]
theorem fc_tpO {a : Nat} (h6 : I ≤ 6) (hv : VS I v) (k7 : Int32 → S2 → Option S2) (rest : List Nat) (ha : a < I) : ∀ (m b fu : Nat) (s : S2) (L : List Nat), b + m = I → m < fu → s.1 15 0 1 = nI I → s.1 21 0 = v → PT I L s → L.length + (alO a m b ++ rest).length ≤ 15 → Fr Ktp s0 s → ∃ s', f_Deals_tellPairs_L22 k7 fu (nI a) (nI b) s = k7 (nI (a + 1)) s' ∧ PT I (L ++ (alO a m b).filter (dfP v)) s' ∧ Fr Ktp s0 s' := by
  intro m
  induction m with
  | zero =>
    intro b fu s L hb hf hI hs hL hc hF
    obtain ⟨f, rfl, hf'⟩ := suc_of hf
    refine ⟨s, ?_, by rw [show (alO a 0 b).filter (dfP v) = [] from rfl, List.append_nil]; exact hL, hF⟩
    show b_Deals_tellPairs_L22 _ _ _ _ _ = _
    unfold b_Deals_tellPairs_L22
    rw [show g_Sea_isles 0 s = nI I from hI, if_pos (nI_le (by omega) (by omega)), of_1, nI_add]
  | succ m ih =>
    intro b fu s L hb hf hI hs hL hc hF
    obtain ⟨f, rfl, hf'⟩ := suc_lt hf
    have hc' : L.length + ((alO a m (b + 1) ++ rest).length + 1) ≤ 15 := by
      have : (alO a (m + 1) b ++ rest).length = (alO a m (b + 1) ++ rest).length + 1 := by
        show ((10 * a + b) :: alO a m (b + 1) ++ rest).length = _
        rw [List.cons_append, List.length_cons]
      omega
    have hv' : VS I (s.1 21 0) := by rw [hs]; exact hv
    obtain ⟨g0, g1, g2⟩ := hL
    have d1 : (10 * a + b) / 10 = a := by omega
    have d2 : (10 * a + b) % 10 = b := by omega
    show ∃ s', b_Deals_tellPairs_L22 _ _ _ _ _ = _ ∧ PT I (L ++ ((10 * a + b) :: alO a m (b + 1)).filter (dfP v)) s' ∧ _
    unfold b_Deals_tellPairs_L22 f_Deals_tellPairs_L91
    rw [show g_Sea_isles 0 s = nI I from hI, if_neg (nI_ge (by omega) (by omega)), g1, of_15, if_neg (nI_ge (by omega) (by omega)), fc_headOf hv' ha, Option.bind_some, fc_headOf hv' (by omega), Option.bind_some, hs, of_1, nI_add]
    have hlt1 := (hv.2.1 a ha).2.1
    have hlt2 := (hv.2.1 b (by omega)).2.1
    by_cases c : hdS v a = hdS v b
    · rw [if_pos (by rw [c]), List.filter_cons_of_neg (by unfold dfP; rw [d1, d2, decide_eq_true c]; simp)]
      exact ih (b + 1) f s L (by omega) hf' hI hs ⟨g0, g1, g2⟩ (by omega) hF
    · rw [if_neg (fun z => c ((nI_eq (by omega) (by omega)).mp z)), List.filter_cons_of_pos (by unfold dfP; rw [d1, d2, decide_eq_false c]; rfl)]
      obtain ⟨t, ht⟩ : ∃ t, pkS (pkS (pkS s 46 0 L.length (nI a)) 47 0 L.length (nI b)) 45 0 7 (nI (L.length + 1)) = t := ⟨_, rfl⟩
      have Ft : Fr Ktp s t := by rw [← ht]; exact (((Fr.refl Ktp s).pk' _ rfl).pk' _ rfl).pk' _ rfl
      have hL' : PT I (L ++ [10 * a + b]) t := by
        refine ⟨by rw [List.length_append, List.length_singleton]; omega, by rw [← ht, pkS_v, if_pos ⟨rfl, rfl, rfl⟩, List.length_append, List.length_singleton], fun j hj => ?_⟩
        rw [List.length_append, List.length_singleton] at hj
        rw [getD_app]
        by_cases e : j = L.length
        · rw [if_pos e, d1, d2, e, ← ht]
          refine ⟨ha, by omega, ?_, ?_⟩
          · rw [pkS_v, if_neg (by omega), pkS_v, if_neg (by omega), pkS_v, if_pos ⟨rfl, rfl, rfl⟩]
          · rw [pkS_v, if_neg (by omega), pkS_v, if_pos ⟨rfl, rfl, rfl⟩]
        · rw [if_neg e, ← ht, pkS_v, if_neg (by omega), pkS_v, if_neg (by omega), pkS_v, if_neg (by omega), pkS_v, if_neg (by omega), pkS_v, if_neg (by omega), pkS_v, if_neg (by omega)]
          exact g2 j (by omega)
      obtain ⟨s', a1, a2, a3⟩ := ih (b + 1) f t (L ++ [10 * a + b]) (by omega) hf' ((Ft.1 15 0 1 rfl).trans hI) ((Ft.arr fun _ => rfl).trans hs) hL' (by rw [List.length_append, List.length_singleton]; omega) (hF.trans Ft)
      refine ⟨s', ?_, by rw [List.append_assoc] at a2; exact a2, a3⟩
      rw [ix_nI (n := 15) (k := L.length) (by omega) (by omega), Option.bind_some, Option.bind_some, show (pkS s 46 0 L.length (nI a)).1 45 0 7 = nI L.length by rw [pkS_v, if_neg (by omega)]; exact g1, ix_nI (n := 15) (k := L.length) (by omega) (by omega), Option.bind_some, Option.bind_some, show (pkS (pkS s 46 0 L.length (nI a)) 47 0 L.length (nI b)).1 45 0 7 = nI L.length by rw [pkS_v, if_neg (by omega), pkS_v, if_neg (by omega)]; exact g1, nI_add, ht, Option.bind_some]
      exact a1
theorem fc_tpA (h6 : I ≤ 6) (hv : VS I v) : ∀ (m a fu : Nat) (s : S2) (L : List Nat), a + m = I → m < fu → s.1 15 0 1 = nI I → s.1 21 0 = v → PT I L s → L.length + (alA I m a).length ≤ 15 → Fr Ktp s0 s → ∃ s', f_Deals_tellPairs_L7 fu (nI a) s = some s' ∧ PT I (L ++ (alA I m a).filter (dfP v)) s' ∧ Fr Ktp s0 s' := by
  intro m
  induction m with
  | zero =>
    intro a fu s L ha hf hI hs hL hc hF
    obtain ⟨f, rfl, hf'⟩ := suc_of hf
    refine ⟨s, ?_, by rw [show (alA I 0 a).filter (dfP v) = [] from rfl, List.append_nil]; exact hL, hF⟩
    show b_Deals_tellPairs_L7 _ _ _ = _
    unfold b_Deals_tellPairs_L7
    rw [show g_Sea_isles 0 s = nI I from hI, if_pos (nI_le (by omega) (by omega))]
  | succ m ih =>
    intro a fu s L ha hf hI hs hL hc hF
    obtain ⟨f, rfl, hf'⟩ := suc_lt hf
    have hc' : L.length + (alO a (I - (a + 1)) (a + 1) ++ alA I m (a + 1)).length ≤ 15 := hc
    obtain ⟨t, a1, a2, a3⟩ := fc_tpO (s0 := s0) h6 hv (f_Deals_tellPairs_L7 f) (alA I m (a + 1)) (show a < I by omega) (I - (a + 1)) (a + 1) FU s L (by omega) (lt_FU (by omega)) hI hs hL hc' hF
    have hlen : ((alO a (I - (a + 1)) (a + 1)).filter (dfP v)).length ≤ (alO a (I - (a + 1)) (a + 1)).length := List.length_filter_le _ _
    rw [List.length_append] at hc'
    obtain ⟨s', b1, b2, b3⟩ := ih (a + 1) f t _ (by omega) hf' ((show t.1 15 0 1 = s0.1 15 0 1 from a3.1 15 0 1 rfl).trans ((hF.1 15 0 1 rfl).symm.trans hI)) ((show t.1 21 0 = s0.1 21 0 from a3.arr fun _ => rfl).trans ((hF.arr (c := 21) (i := 0) fun _ => rfl).symm.trans hs)) a2 (by rw [List.length_append]; omega) a3
    refine ⟨s', ?_, ?_, b3⟩
    · show b_Deals_tellPairs_L7 _ _ _ = _
      unfold b_Deals_tellPairs_L7
      rw [show g_Sea_isles 0 s = nI I from hI, if_neg (nI_ge (by omega) (by omega)), of_1, nI_add, a1]
      exact b1
    · show PT I (L ++ (alO a (I - (a + 1)) (a + 1) ++ alA I m (a + 1)).filter (dfP v)) s'
      rw [List.filter_append, ← List.append_assoc]
      exact b2
theorem fc_tellPairs (h6 : I ≤ 6) (hv : VS I v) (hI : s.1 15 0 1 = nI I) (hs : s.1 21 0 = v) : ∃ s', f_Deals_tellPairs s = some s' ∧ PT I ((alA I I 0).filter (dfP v)) s' ∧ Fr Ktp s s' := by
  obtain ⟨t, ht⟩ : ∃ t, pkS s 45 0 7 (nI 0) = t := ⟨_, rfl⟩
  have Ft : Fr Ktp s t := by rw [← ht]; exact (Fr.refl Ktp s).pk' _ rfl
  obtain ⟨s', a1, a2, a3⟩ := fc_tpA (s0 := s) h6 hv I 0 FU t [] (by omega) (lt_FU (by omega)) ((Ft.1 15 0 1 rfl).trans hI) ((Ft.arr fun _ => rfl).trans hs) ⟨by decide, by rw [← ht, pkS_v, if_pos ⟨rfl, rfl, rfl⟩]; rfl, fun j hj => absurd hj (Nat.not_lt_zero j)⟩ (by have := al_len I (by omega); simp; omega) Ft
  refine ⟨s', ?_, a2, a3⟩
  unfold f_Deals_tellPairs
  rw [show Int32.ofInt 0 = nI 0 from of_0, Option.bind_some, ht, a1]
/-- the next row of picks -/
def fsP (N m : Nat) : Option (List Nat) := if N < m ∨ 3 < m then none else some (List.range m)
def nxP (N : Nat) : List Nat → Option (List Nat)
  | [] => fsP N 1
  | [a] => if a + 1 < N then some [a + 1] else fsP N 2
  | [a, b] => if b + 1 < N then some [a, b + 1] else if a + 2 < N then some [a + 1, a + 2] else fsP N 3
  | [a, b, c] => if c + 1 < N then some [a, b, c + 1] else if b + 2 < N then some [a, b + 1, b + 2] else if a + 3 < N then some [a + 1, a + 2, a + 3] else fsP N 4
  | _ => none
def PK (N : Nat) (ps : List Nat) (s : S2) : Prop := ps.length ≤ 3 ∧ ps.length ≤ N ∧ s.1 45 0 8 = nI ps.length ∧ ∀ j, j < ps.length → ps.getD j 0 < N ∧ s.1 48 0 j = nI (ps.getD j 0)
def K48 (c i k : Nat) : Bool := i == 0 && (c == 48 || (c == 45 && k == 8))
theorem K48_KS {c i k : Nat} (h : KS c i k = false) : K48 c i k = false := by
  unfold KS at h
  unfold K48
  have key : ∀ x : Nat, 32 ≤ x → x ≤ 48 → (c == x) = false := fun x h1 h2 => by
    cases hq : c == x with
    | false => rfl
    | true =>
      have e := eq_of_beq hq
      rw [e, show Nat.ble 32 x = true from Nat.ble_eq_true_of_le h1, show Nat.ble x 48 = true from Nat.ble_eq_true_of_le h2] at h
      simp at h
  rw [key 48 (by omega) (by omega), key 45 (by omega) (by omega)]
  simp
theorem FU6 : FU = 99994 + 1 + 1 + 1 + 1 + 1 + 1 := rfl
theorem p45_end {f m x : Nat} (h8 : s.1 45 0 8 = nI m) (hm : m ≤ x) (hx : x < 10) : f_Deals_pickNext_L45 (f + 1) (nI x) s = some (s, true) := by
  show b_Deals_pickNext_L45 _ _ _ = _
  unfold b_Deals_pickNext_L45
  rw [h8, if_pos (nI_le hm (by omega))]
theorem p45_step {f m x a : Nat} (h8 : s.1 45 0 8 = nI m) (hx : x < m) (h1 : 1 ≤ x) (h3 : m ≤ 3) (ha : s.1 48 0 (x - 1) = nI a) : f_Deals_pickNext_L45 (f + 1) (nI x) s = f_Deals_pickNext_L45 f (nI (x + 1)) (pkS s 48 0 x (nI (a + 1))) := by
  show b_Deals_pickNext_L45 _ _ _ = _
  unfold b_Deals_pickNext_L45
  rw [h8, if_neg (nI_ge hx (by omega)), of_1, sub_nI h1, ix_nI (n := 3) (k := x - 1) (by omega) (by omega), Option.bind_some, ix_nI (n := 3) (k := x) (by omega) (by omega), Option.bind_some, Option.bind_some, ha, nI_add, nI_add]
theorem p7_inc {f N m i a : Nat} (h7 : s.1 45 0 7 = nI N) (h8 : s.1 45 0 8 = nI m) (him : i < m) (h3 : m ≤ 3) (hN : m ≤ N) (h15 : N ≤ 15) (ha : s.1 48 0 i = nI a) (hlt : a < N - m + i) : f_Deals_pickNext_L7 (f + 1) (nI i) s = f_Deals_pickNext_L45 FU (nI (i + 1)) (pkS s 48 0 i (nI (a + 1))) := by
  show b_Deals_pickNext_L7 _ _ _ = _
  unfold b_Deals_pickNext_L7
  rw [if_neg (nI_pos (by omega)), ix_nI (n := 3) (k := i) (by omega) (by omega), Option.bind_some, h7, h8, sub_nI hN, nI_add, ha, if_neg (nI_ge hlt (by omega)), Option.bind_some, Option.bind_some, Option.bind_some, ha, of_1, nI_add, nI_add]
theorem p7_dec {f N m i a : Nat} (h7 : s.1 45 0 7 = nI N) (h8 : s.1 45 0 8 = nI m) (him : i < m) (h3 : m ≤ 3) (hN : m ≤ N) (h15 : N ≤ 15) (ha : s.1 48 0 i = nI a) (haN : a < N) (hlt : ¬ a < N - m + i) : f_Deals_pickNext_L7 (f + 1) (nI i) s = f_Deals_pickNext_L7 f (pxS i 1) s := by
  show b_Deals_pickNext_L7 _ _ _ = _
  unfold b_Deals_pickNext_L7
  rw [if_neg (nI_pos (by omega)), ix_nI (n := 3) (k := i) (by omega) (by omega), Option.bind_some, h7, h8, sub_nI hN, nI_add, ha, if_pos (nI_le (by omega) (by omega))]
  have := pxS_s (P := i) (c := 0) (by omega)
  rw [Nat.sub_zero] at this
  rw [this]
theorem p22 {m : Nat} (h3 : m ≤ 3) : ∀ (n x f : Nat) (s : S2), x + n = m → n < f → (∀ j, j < x → s.1 48 0 j = nI j) → Fr K48 s0 s → ∃ s', f_Deals_pickFirst_L22 f (nI m) (nI x) s = some (s', true) ∧ (∀ j, j < m → s'.1 48 0 j = nI j) ∧ s'.1 45 0 8 = s.1 45 0 8 ∧ Fr K48 s0 s' := by
  intro n
  induction n with
  | zero =>
    intro x f s hx hf h hF
    obtain ⟨g, rfl, hf'⟩ := suc_of hf
    refine ⟨s, ?_, fun j hj => h j (by omega), rfl, hF⟩
    show b_Deals_pickFirst_L22 _ _ _ _ = _
    unfold b_Deals_pickFirst_L22
    rw [if_pos (nI_le (by omega) (by omega))]
  | succ n ih =>
    intro x f s hx hf h hF
    obtain ⟨g, rfl, hf'⟩ := suc_lt hf
    obtain ⟨s', a1, a2, a3, a4⟩ := ih (x + 1) g (pkS s 48 0 x (nI x)) (by omega) hf' (fun j hj => by
      rw [pkS_v]
      by_cases c : j = x
      · rw [if_pos ⟨rfl, rfl, c⟩, c]
      · rw [if_neg (by omega)]; exact h j (by omega)) (hF.pk' _ rfl)
    refine ⟨s', ?_, a2, a3.trans (by rw [pkS_v, if_neg (by omega)]), a4⟩
    show b_Deals_pickFirst_L22 _ _ _ _ = _
    unfold b_Deals_pickFirst_L22
    rw [if_neg (nI_ge (by omega) (by omega)), ix_nI (n := 3) (k := x) (by omega) (by omega), Option.bind_some, Option.bind_some, of_1, nI_add]
    exact a1
theorem getD_range {m j : Nat} (h : j < m) : (List.range m).getD j 0 = j := by
  rw [List.getD_eq_getElem?_getD, List.getElem?_range h]
  rfl
theorem fc_pickFirst {N m : Nat} (h7 : s.1 45 0 7 = nI N) (h15 : N ≤ 15) (hm : m ≤ 4) : ∃ s', f_Deals_pickFirst (nI m) s = some (s', (fsP N m).isSome) ∧ (∀ ps', fsP N m = some ps' → PK N ps' s') ∧ Fr K48 s s' := by
  unfold f_Deals_pickFirst fsP
  rw [h7, of_3]
  by_cases c1 : N < m
  · rw [if_pos (nI_lt c1 (by omega)), if_pos (Or.inl c1)]
    exact ⟨s, rfl, (fun ps' h => by cases h), Fr.refl _ _⟩
  · rw [if_neg (nI_nlt (by omega) (by omega))]
    by_cases c2 : 3 < m
    · rw [if_neg (nI_ge c2 (by omega)), if_pos (Or.inr c2)]
      exact ⟨s, rfl, (fun ps' h => by cases h), Fr.refl _ _⟩
    · rw [if_pos (nI_le (by omega) (by omega)), if_neg (by omega), Option.bind_some, show Int32.ofInt 0 = nI 0 from of_0]
      obtain ⟨s', a1, a2, a3, a4⟩ := p22 (s0 := s) (m := m) (by omega) m 0 FU (pkS s 45 0 8 (nI m)) (by omega) (lt_FU (by omega)) (fun j hj => by omega) ((Fr.refl K48 s).pk' _ rfl)
      refine ⟨s', a1, fun ps' h => ?_, a4⟩
      cases h
      refine ⟨by rw [List.length_range]; omega, by rw [List.length_range]; omega, by rw [List.length_range, a3, pkS_v, if_pos ⟨rfl, rfl, rfl⟩], fun j hj => ?_⟩
      rw [List.length_range] at hj
      rw [getD_range hj]
      exact ⟨by omega, a2 j hj⟩
theorem nx1 (N a : Nat) : nxP N [a] = if a + 1 < N then some [a + 1] else fsP N 2 := rfl
theorem nx2 (N a b : Nat) : nxP N [a, b] = if b + 1 < N then some [a, b + 1] else if a + 2 < N then some [a + 1, a + 2] else fsP N 3 := rfl
theorem nx3 (N a b c : Nat) : nxP N [a, b, c] = if c + 1 < N then some [a, b, c + 1] else if b + 2 < N then some [a, b + 1, b + 2] else if a + 3 < N then some [a + 1, a + 2, a + 3] else fsP N 4 := rfl
theorem fc_pickNext {N : Nat} {ps : List Nat} (h7 : s.1 45 0 7 = nI N) (h15 : N ≤ 15) (hp : PK N ps s) : ∃ s', f_Deals_pickNext s = some (s', (nxP N ps).isSome) ∧ (∀ ps', nxP N ps = some ps' → PK N ps' s') ∧ Fr K48 s s' := by
  obtain ⟨p1, p2, p3, p4⟩ := hp
  have neg : ∀ f m, s.1 45 0 8 = nI m → m ≤ 3 → ∃ s', f_Deals_pickNext_L7 (f + 1) (-1) s = some (s', (fsP N (m + 1)).isSome) ∧ (∀ ps', fsP N (m + 1) = some ps' → PK N ps' s') ∧ Fr K48 s s' := fun f m h8 hm => by
    obtain ⟨s', a1, a2, a3⟩ := fc_pickFirst (m := m + 1) h7 h15 (by omega)
    refine ⟨s', ?_, a2, a3⟩
    show b_Deals_pickNext_L7 _ _ _ = _
    unfold b_Deals_pickNext_L7
    rw [if_pos (by decide), h8, of_1, nI_add, a1]
    rfl
  unfold f_Deals_pickNext
  match ps, p1, p2, p3, p4 with
  | [], _, _, p3, _ =>
    rw [p3, of_1, FU6]
    exact neg _ 0 p3 (by omega)
  | [a], _, p2, p3, p4 =>
    have q0 := p4 0 (by simp)
    have p2' : 1 ≤ N := p2
    have p3' : s.1 45 0 8 = nI 1 := p3
    have qa : s.1 48 0 0 = nI a := q0.2
    have na : a < N := q0.1
    rw [nx1]
    rw [p3', of_1, sub_nI (by omega), FU6]
    by_cases c : a + 1 < N
    · rw [if_pos c, p7_inc h7 p3' (by omega) (by omega) p2' h15 qa (by omega), FU6, p45_end (m := 1) (by rw [pkS_v, if_neg (by omega)]; exact p3') (by omega) (by omega)]
      refine ⟨_, rfl, fun ps' h => ?_, (Fr.refl K48 s).pk' _ rfl⟩
      cases h
      refine ⟨by simp, p2', by rw [pkS_v, if_neg (by omega)]; exact p3', fun j hj => ?_⟩
      have hj' : j < 1 := hj
      rw [show j = 0 by omega]
      exact ⟨c, by rw [pkS_v, if_pos ⟨rfl, rfl, rfl⟩]; rfl⟩
    · rw [if_neg c, p7_dec h7 p3' (by omega) (by omega) p2' h15 qa na (by omega)]
      exact neg _ 1 p3' (by omega)
  | [a, b], _, p2, p3, p4 =>
    have p2' : 2 ≤ N := p2
    have p3' : s.1 45 0 8 = nI 2 := p3
    have na : a < N := (p4 0 (by simp)).1
    have qa : s.1 48 0 0 = nI a := (p4 0 (by simp)).2
    have nb : b < N := (p4 1 (by simp)).1
    have qb : s.1 48 0 1 = nI b := (p4 1 (by simp)).2
    rw [nx2]
    rw [p3', of_1, sub_nI (by omega), FU6]
    by_cases c : b + 1 < N
    · rw [if_pos c, show (2 : Nat) - 1 = 1 from rfl, p7_inc h7 p3' (by omega) (by omega) p2' h15 qb (by omega), FU6, p45_end (m := 2) (by rw [pkS_v, if_neg (by omega)]; exact p3') (by omega) (by omega)]
      refine ⟨_, rfl, fun ps' h => ?_, (Fr.refl K48 s).pk' _ rfl⟩
      cases h
      refine ⟨by simp, p2', by rw [pkS_v, if_neg (by omega)]; exact p3', fun j hj => ?_⟩
      have hj' : j < 2 := hj
      rcases (show j = 0 ∨ j = 1 by omega) with rfl | rfl
      · exact ⟨na, by rw [pkS_v, if_neg (by omega)]; exact qa⟩
      · exact ⟨c, by rw [pkS_v, if_pos ⟨rfl, rfl, rfl⟩]; rfl⟩
    · rw [if_neg c, show (2 : Nat) - 1 = 1 from rfl, p7_dec h7 p3' (by omega) (by omega) p2' h15 qb nb (by omega), show pxS 1 1 = nI 0 from rfl]
      by_cases d : a + 2 < N
      · rw [if_pos d, p7_inc h7 p3' (by omega) (by omega) p2' h15 qa (by omega), FU6, p45_step (m := 2) (a := a + 1) (by rw [pkS_v, if_neg (by omega)]; exact p3') (by omega) (by omega) (by omega) (by rw [pkS_v, if_pos ⟨rfl, rfl, rfl⟩]), p45_end (m := 2) (by rw [pkS_v, if_neg (by omega), pkS_v, if_neg (by omega)]; exact p3') (by omega) (by omega)]
        refine ⟨_, rfl, fun ps' h => ?_, ((Fr.refl K48 s).pk' _ rfl).pk' _ rfl⟩
        cases h
        refine ⟨by simp, p2', by rw [pkS_v, if_neg (by omega), pkS_v, if_neg (by omega)]; exact p3', fun j hj => ?_⟩
        have hj' : j < 2 := hj
        rcases (show j = 0 ∨ j = 1 by omega) with rfl | rfl
        · refine ⟨show a + 1 < N by omega, ?_⟩
          rw [pkS_v, if_neg (by omega), pkS_v, if_pos ⟨rfl, rfl, rfl⟩]; rfl
        · exact ⟨d, by rw [pkS_v, if_pos ⟨rfl, rfl, rfl⟩]; rfl⟩
      · rw [if_neg d, p7_dec h7 p3' (by omega) (by omega) p2' h15 qa na (by omega)]
        exact neg _ 2 p3' (by omega)
  | [a, b, e], _, p2, p3, p4 =>
    have p2' : 3 ≤ N := p2
    have p3' : s.1 45 0 8 = nI 3 := p3
    have na : a < N := (p4 0 (by simp)).1
    have qa : s.1 48 0 0 = nI a := (p4 0 (by simp)).2
    have nb : b < N := (p4 1 (by simp)).1
    have qb : s.1 48 0 1 = nI b := (p4 1 (by simp)).2
    have ne : e < N := (p4 2 (by simp)).1
    have qe : s.1 48 0 2 = nI e := (p4 2 (by simp)).2
    rw [nx3]
    rw [p3', of_1, sub_nI (by omega), FU6]
    by_cases c : e + 1 < N
    · rw [if_pos c, show (3 : Nat) - 1 = 2 from rfl, p7_inc h7 p3' (by omega) (by omega) p2' h15 qe (by omega), FU6, p45_end (m := 3) (by rw [pkS_v, if_neg (by omega)]; exact p3') (by omega) (by omega)]
      refine ⟨_, rfl, fun ps' h => ?_, (Fr.refl K48 s).pk' _ rfl⟩
      cases h
      refine ⟨by simp, p2', by rw [pkS_v, if_neg (by omega)]; exact p3', fun j hj => ?_⟩
      have hj' : j < 3 := hj
      rcases (show j = 0 ∨ j = 1 ∨ j = 2 by omega) with rfl | rfl | rfl
      · exact ⟨na, by rw [pkS_v, if_neg (by omega)]; exact qa⟩
      · exact ⟨nb, by rw [pkS_v, if_neg (by omega)]; exact qb⟩
      · exact ⟨c, by rw [pkS_v, if_pos ⟨rfl, rfl, rfl⟩]; rfl⟩
    · rw [if_neg c, show (3 : Nat) - 1 = 2 from rfl, p7_dec h7 p3' (by omega) (by omega) p2' h15 qe ne (by omega), show pxS 2 1 = nI 1 from rfl]
      by_cases d : b + 2 < N
      · rw [if_pos d, p7_inc h7 p3' (by omega) (by omega) p2' h15 qb (by omega), FU6, p45_step (m := 3) (a := b + 1) (by rw [pkS_v, if_neg (by omega)]; exact p3') (by omega) (by omega) (by omega) (by rw [pkS_v, if_pos ⟨rfl, rfl, rfl⟩]), p45_end (m := 3) (by rw [pkS_v, if_neg (by omega), pkS_v, if_neg (by omega)]; exact p3') (by omega) (by omega)]
        refine ⟨_, rfl, fun ps' h => ?_, ((Fr.refl K48 s).pk' _ rfl).pk' _ rfl⟩
        cases h
        refine ⟨by simp, p2', by rw [pkS_v, if_neg (by omega), pkS_v, if_neg (by omega)]; exact p3', fun j hj => ?_⟩
        have hj' : j < 3 := hj
        rcases (show j = 0 ∨ j = 1 ∨ j = 2 by omega) with rfl | rfl | rfl
        · exact ⟨na, by rw [pkS_v, if_neg (by omega), pkS_v, if_neg (by omega)]; exact qa⟩
        · refine ⟨show b + 1 < N by omega, ?_⟩
          rw [pkS_v, if_neg (by omega), pkS_v, if_pos ⟨rfl, rfl, rfl⟩]; rfl
        · exact ⟨d, by rw [pkS_v, if_pos ⟨rfl, rfl, rfl⟩]; rfl⟩
      · rw [if_neg d, p7_dec h7 p3' (by omega) (by omega) p2' h15 qb nb (by omega), show pxS 1 1 = nI 0 from rfl]
        by_cases g : a + 3 < N
        · rw [if_pos g, p7_inc h7 p3' (by omega) (by omega) p2' h15 qa (by omega), FU6, p45_step (m := 3) (a := a + 1) (by rw [pkS_v, if_neg (by omega)]; exact p3') (by omega) (by omega) (by omega) (by rw [pkS_v, if_pos ⟨rfl, rfl, rfl⟩]), p45_step (m := 3) (a := a + 2) (by rw [pkS_v, if_neg (by omega), pkS_v, if_neg (by omega)]; exact p3') (by omega) (by omega) (by omega) (by rw [pkS_v, if_pos ⟨rfl, rfl, rfl⟩]), p45_end (m := 3) (by rw [pkS_v, if_neg (by omega), pkS_v, if_neg (by omega), pkS_v, if_neg (by omega)]; exact p3') (by omega) (by omega)]
          refine ⟨_, rfl, fun ps' h => ?_, (((Fr.refl K48 s).pk' _ rfl).pk' _ rfl).pk' _ rfl⟩
          cases h
          refine ⟨by simp, p2', by rw [pkS_v, if_neg (by omega), pkS_v, if_neg (by omega), pkS_v, if_neg (by omega)]; exact p3', fun j hj => ?_⟩
          have hj' : j < 3 := hj
          rcases (show j = 0 ∨ j = 1 ∨ j = 2 by omega) with rfl | rfl | rfl
          · refine ⟨show a + 1 < N by omega, ?_⟩
            rw [pkS_v, if_neg (by omega), pkS_v, if_neg (by omega), pkS_v, if_pos ⟨rfl, rfl, rfl⟩]; rfl
          · refine ⟨show a + 2 < N by omega, ?_⟩
            rw [pkS_v, if_neg (by omega), pkS_v, if_pos ⟨rfl, rfl, rfl⟩]; rfl
          · exact ⟨g, by rw [pkS_v, if_pos ⟨rfl, rfl, rfl⟩]; rfl⟩
        · rw [if_neg g, p7_dec h7 p3' (by omega) (by omega) p2' h15 qa na (by omega)]
          exact neg _ 3 p3' (by omega)
  | _ :: _ :: _ :: _ :: _, p1, _, _, _ => exact absurd p1 (by simp)
/-- all rows, one behind another -/
def enL (N : Nat) : Nat → List Nat → List (List Nat)
  | 0, _ => []
  | f + 1, ps => ps :: (match nxP N ps with
    | none => []
    | some ps' => enL N f ps')
theorem en_all : ∀ N, N < 16 → enL N 576 [] = cmb 0 (List.range N) ++ (cmb 1 (List.range N) ++ (cmb 2 (List.range N) ++ cmb 3 (List.range N))) := by decide +kernel
end
