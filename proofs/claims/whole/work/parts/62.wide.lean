/-! ===== isle, count, wide ===== -/
section
variable {I T B R : Nat} {W : Option WF6} {s s' : S2} {w v : Nat → Int32}
theorem INV_60_0 (h : INV I T B R W s) (x : Int32) : INV I T B R W (pkS s 60 0 0 x) := by
  have F : Fr (MS T) s (pkS s 60 0 0 x) := (Fr.refl _ s).pk' _ (by unfold MS; simp)
  refine INV_MS h F (RS_52 h.1.2.2.2.2.2.2.2.2 (by omega) (by omega) _) ?_ ?_
  · rw [pkS_v, if_neg (by omega)]; exact h.1.2.2.2.2.2.2.2.1.1
  · rw [pkS_v, if_neg (by omega)]; exact h.1.2.2.2.2.2.2.2.1.2
theorem q_isle_no (h : INV I T B R W s) (x y : Int32) (c : (inS x 0 (nI I - nI 1) && inS y 0 (nI 9)) = false) : f_D_isle x y s = none ∧ f_M_isle x y s = some (pkS s 60 0 0 (nI 1), 0) := by
  have hM : f_M_isle_L23 x y s = some (pkS s 60 0 0 (nI 1), 0) := by
    unfold f_M_isle_L23 f_M_isle_L24
    rw [of_1, Option.bind_some, if_pos (by rw [pkS_v, if_pos ⟨rfl, rfl, rfl⟩])]
    rfl
  unfold f_D_isle f_M_isle f_D_isle_L18
  rw [(v_isle h x).1, (v_isle h x).2, g_D_isWithin_eq, g_M_in_eq, of_0, of_9, hM]
  cases c1 : inS x 0 (nI I - nI 1) with
  | false => exact ⟨by rw [ifF], by rw [ifF]⟩
  | true =>
    rw [c1, Bool.true_and] at c
    rw [c]
    exact ⟨by rw [ifT, ifF], by rw [ifT, ifF]⟩
theorem q_isle_ok (h : INV I T B R W s) (x y : Int32) (c : (inS x 0 (nI I - nI 1) && inS y 0 (nI 9)) = true) : ∃ r, f_D_isle x y s = some r ∧ f_M_isle x y s = some (pkS s 60 0 0 0, r) := by
  have h6 := h.1.2.2.1.1.1
  have hv := h.1.2.2.2.2.1
  have hr := h.1.2.2.2.2.2.2.2.2
  have hm := h.1.2.2.2.2.2.2.1.2.2.2.1
  obtain ⟨c1, c2⟩ := Bool.and_eq_true_iff.mp c
  unfold f_D_isle f_M_isle f_M_isle_L24
  rw [(v_isle h x).1, (v_isle h x).2, g_D_isWithin_eq, g_M_in_eq, of_0, of_9, c1, c2, ifT, ifT, ifT, ifT, Option.bind_some, of_1, of_2, of_3, of_4, of_5, of_6, of_7, of_8]
  obtain ⟨a, a1, rfl⟩ := inS_nI c1 (by omega)
  rw [← nI_0] at c2
  obtain ⟨k, -, k2, rfl⟩ := inS_lit c2 (by omega) (by omega)
  obtain ⟨g1, g2, -⟩ := hv.2.1 a a1
  obtain ⟨r1, r2, r3, r4, r5, r6⟩ := hr.1 a a1
  obtain ⟨t1, t2, t3, t4, t5, t6⟩ := hr.1 _ g2
  have e : ∀ c' j, ¬ c' = 60 → (pkS s 60 0 0 0).1 c' 0 j = s.1 c' 0 j := fun c' j hc => by rw [pkS_v, if_neg (by omega)]
  have e0 : ¬ (pkS s 60 0 0 0).1 60 0 0 = nI 1 := by rw [pkS_v, if_pos ⟨rfl, rfl, rfl⟩]; decide
  rw [if_neg e0, ix_nI (n := 6) (k := a) (by omega) (by omega), Option.bind_some, Option.bind_some, Option.bind_some, Option.bind_some, Option.bind_some, e 82 a (by omega), ← r4, g1, ix_nI (n := 6) (k := hdS (s.1 21 0) a) (by omega) (by omega), Option.bind_some, Option.bind_some, Option.bind_some, Option.bind_some, e 79 _ (by omega), e 80 _ (by omega), e 81 _ (by omega), e 83 _ (by omega), ← t1, ← t2, ← t3, ← t5, fc_xOf hv a1, fc_yOf hv a1, fc_massOf hv a1, fc_headOf hv a1, fc_scarsOf hv a1, fc_ofIsle (by omega) (by omega), fc_ofIsle (by omega) (by omega), fc_ofIsle (by omega) (by omega), fc_ofIsle (by omega) (by omega), fc_priceOf (by omega)]
  have m3 := hm a a1 3 (by omega) (by omega)
  have m4 := hm a a1 4 (by omega) (by omega)
  have m5 := hm a a1 5 (by omega) (by omega)
  have m6 := hm a a1 6 (by omega) (by omega)
  rcases (show k = 0 ∨ k = 1 ∨ k = 2 ∨ k = 3 ∨ k = 4 ∨ k = 5 ∨ k = 6 ∨ k = 7 ∨ k = 8 ∨ k = 9 by omega) with rfl | rfl | rfl | rfl | rfl | rfl | rfl | rfl | rfl | rfl
  · exact ⟨_, rfl, rfl⟩
  · exact ⟨_, rfl, rfl⟩
  · exact ⟨_, rfl, rfl⟩
  · exact ⟨_, rfl, rfl⟩
  · exact ⟨_, rfl, rfl⟩
  · refine ⟨s.1 14 0 ((1 + a) * 8 + 3), rfl, ?_⟩
    rw [← m3]
    rw [if_neg (by decide), if_neg (by decide), if_neg (by decide), if_neg (by decide), if_neg (by decide), sub_nI (by omega), fm_of (by omega) (by omega), e 76 _ (by omega)]
    rfl
  · refine ⟨s.1 14 0 ((1 + a) * 8 + 4), rfl, ?_⟩
    rw [← m4]
    rw [if_neg (by decide), if_neg (by decide), if_neg (by decide), if_neg (by decide), if_neg (by decide), sub_nI (by omega), fm_of (by omega) (by omega), e 76 _ (by omega)]
    rfl
  · refine ⟨s.1 14 0 ((1 + a) * 8 + 5), rfl, ?_⟩
    rw [← m5]
    rw [if_neg (by decide), if_neg (by decide), if_neg (by decide), if_neg (by decide), if_neg (by decide), sub_nI (by omega), fm_of (by omega) (by omega), e 76 _ (by omega)]
    rfl
  · refine ⟨s.1 14 0 ((1 + a) * 8 + 6), rfl, ?_⟩
    rw [← m6]
    rw [if_neg (by decide), if_neg (by decide), if_neg (by decide), if_neg (by decide), if_neg (by decide), sub_nI (by omega), fm_of (by omega) (by omega), e 76 _ (by omega)]
    rfl
  · refine ⟨s.1 21 0 (43 + a), rfl, ?_⟩
    rw [r6]
    rw [if_neg (by decide), if_neg (by decide), if_neg (by decide), if_neg (by decide), if_neg (by decide), sub_nI (by omega), fm_of (by omega) (by omega), e 76 _ (by omega)]
    rfl
/-- how many heads from k on -/
def hmS (I : Nat) (v : Nat → Int32) : Nat → Nat → Nat
  | 0, _ => 0
  | m + 1, k => (if isH I v k then 1 else 0) + hmS I v m (k + 1)
theorem hmS_le : ∀ m k, hmS I v m k ≤ m := by
  intro m
  induction m with
  | zero => intro k; exact Nat.le_refl 0
  | succ m ih =>
    intro k
    have := ih (k + 1)
    show (if isH I v k then 1 else 0) + hmS I v m (k + 1) ≤ m + 1
    split <;> omega
theorem hmS_cut : ∀ m k m', k + m = I → m ≤ m' → hmS I v m' k = hmS I v m k := by
  have hz : ∀ m k, I ≤ k → hmS I v m k = 0 := by
    intro m
    induction m with
    | zero => intro k _; rfl
    | succ m ih =>
      intro k hk
      show (if isH I v k then 1 else 0) + hmS I v m (k + 1) = 0
      rw [isH_ge hk, ih (k + 1) (by omega)]; rfl
  intro m
  induction m with
  | zero => intro k m' hk _; rw [hz m' k (by omega)]; rfl
  | succ m ih =>
    intro k m' hk hm
    obtain ⟨m'', rfl⟩ : ∃ j, m' = j + 1 := ⟨m' - 1, by omega⟩
    show (if isH I v k then 1 else 0) + hmS I v m'' (k + 1) = (if isH I v k then 1 else 0) + hmS I v m (k + 1)
    rw [ih (k + 1) m'' (by omega) (by omega)]
theorem fc_headsL {i : Nat} (hv : VS I (s.1 21 i)) : ∀ (m k fu c : Nat), k + m = 6 → m < fu → f_State_heads_L4 i fu (nI c) (nI k) s = some (nI (c + hmS I (s.1 21 i) m k)) := by
  have h6 := hv.1
  intro m
  induction m with
  | zero =>
    intro k fu c hk hf
    obtain ⟨f, rfl, hf'⟩ := suc_of hf
    show b_State_heads_L4 _ _ _ _ _ = _
    unfold b_State_heads_L4
    rw [of_6, if_pos (nI_le (by omega) (by omega))]
    rfl
  | succ m ih =>
    intro k fu c hk hf
    obtain ⟨f, rfl, hf'⟩ := suc_lt hf
    show b_State_heads_L4 _ _ _ _ _ = some (nI (c + ((if isH I (s.1 21 i) k then 1 else 0) + hmS I (s.1 21 i) m (k + 1))))
    unfold b_State_heads_L4 f_State_heads_L21
    rw [of_6, if_neg (nI_ge (by omega) (by omega)), fc_isHead hv (by omega), Option.bind_some, of_1, nI_add, nI_add]
    cases c2 : isH I (s.1 21 i) k with
    | false => rw [ifF, ih (k + 1) f c (by omega) hf', if_neg (by decide), Nat.zero_add]
    | true => rw [ifT, ih (k + 1) f (c + 1) (by omega) hf', if_pos rfl, Nat.add_assoc]
theorem fm_headsL (hI : s.1 60 0 28 = nI I) (hv : VS I v) (hr : RS I T B v s) : ∀ (m k fu c : Nat), k + m = I → m < fu → f_M_headMany_L4 fu (nI c) (nI k) s = some (nI (c + hmS I v m k)) := by
  have h6 := hv.1
  intro m
  induction m with
  | zero =>
    intro k fu c hk hf
    obtain ⟨f, rfl, hf'⟩ := suc_of hf
    show b_M_headMany_L4 _ _ _ _ = _
    unfold b_M_headMany_L4
    rw [hI, if_pos (nI_le (by omega) (by omega))]
    rfl
  | succ m ih =>
    intro k fu c hk hf
    obtain ⟨f, rfl, hf'⟩ := suc_lt hf
    show b_M_headMany_L4 _ _ _ _ = some (nI (c + ((if isH I v k then 1 else 0) + hmS I v m (k + 1))))
    unfold b_M_headMany_L4 f_M_headMany_L26
    rw [hI, if_neg (nI_ge (by omega) (by omega)), fm_isHead hI hv hr (by omega), Option.bind_some, of_1, nI_add, nI_add, of_0, Int32.add_zero]
    cases c2 : isH I v k with
    | false => rw [ifF, ih (k + 1) f c (by omega) hf', if_neg (by decide), Nat.zero_add]
    | true => rw [ifT, ih (k + 1) f (c + 1) (by omega) hf', if_pos rfl, Nat.add_assoc]
theorem fc_heads {i : Nat} (hv : VS I (s.1 21 i)) : f_State_heads i s = some (nI (hmS I (s.1 21 i) I 0)) := by
  unfold f_State_heads
  rw [show Int32.ofInt 0 = nI 0 from of_0, fc_headsL hv 6 0 FU 0 (by omega) (lt_FU (by omega)), Nat.zero_add, hmS_cut I 0 6 (by omega) hv.1]
theorem fm_heads (hI : s.1 60 0 28 = nI I) (hv : VS I v) (hr : RS I T B v s) : f_M_headMany s = some (nI (hmS I v I 0)) := by
  have h6 := hv.1
  unfold f_M_headMany
  rw [show Int32.ofInt 0 = nI 0 from of_0, fm_headsL hI hv hr I 0 FU 0 (by omega) (lt_FU (by omega)), Nat.zero_add]
theorem ex_ite {c : Prop} [Decidable c] {A B : Option Int32} (hA : ∃ r, A = some r) (hB : ∃ r, B = some r) : ∃ r, (if c then A else B) = some r := by
  by_cases h : c
  · rw [if_pos h]; exact hA
  · rw [if_neg h]; exact hB
theorem q_count (h : INV I T B R W s) (x : Int32) : ∃ r, f_D_count x s = some r ∧ f_M_count x s = some r := by
  have h6 := h.1.2.2.1.1.1
  have hv := h.1.2.2.2.2.1
  have hr := h.1.2.2.2.2.2.2.2.2
  obtain ⟨n1, n2, n3⟩ := h.1.2.2.2.1
  obtain ⟨i1, i2, i3⟩ := h.1.2.2.2.2.2.1
  obtain ⟨t, -, t1, t2, -⟩ := h.2.2.1
  obtain ⟨-, r1, r2, r3, -⟩ := h.2.2.2.1
  obtain ⟨a, p, l, q, -, -, -, -, -, p1, p2, -, p3, p4, -⟩ := h.2.2.2.2.1
  obtain ⟨c, -, c1, c2, -⟩ := h.2.2.2.2.2.2.2
  have hw : ∀ k, k < 4 → f_D_ofWater (nI k) s = some (s.1 75 0 k) := fun k hk => by
    unfold f_D_ofWater
    rw [v_hasSea h]
    by_cases cI : I = 0
    · rw [decide_eq_false (fun z => z cI), ifF, (h.1.2.1 cI).2.2 k hk]
      rfl
    · rw [decide_eq_true cI, ifT, fc_ofWater (by omega), h.1.2.2.2.2.2.2.1.2.2.1 k hk]
      rfl
  unfold f_D_count f_M_count g_Sea_isles g_Sea_ties g_Sea_bridges g_Tape_length g_State_season g_Charts_many g_Past_undoable g_Past_noted
  rw [n1, n2, n3, i1, i2, i3, t1, t2, r1, r2, r3, p1, p2, p3, p4, c1, c2, fc_heads hv, fm_heads i1 hv hr, hr.2.2.2, of_0, show f_D_ofWater 0 s = some (s.1 75 0 0) from hw 0 (by omega), of_1, hw 1 (by omega), of_2, hw 2 (by omega), of_3, hw 3 (by omega)]
  refine (fun p => Exists.elim p fun r e => ⟨r, e, e⟩ : (∃ r, _ = some r) → _) ?_
  exact ex_ite ⟨_, rfl⟩ (ex_ite ⟨_, rfl⟩ (ex_ite ⟨_, rfl⟩ (ex_ite ⟨_, rfl⟩ (ex_ite ⟨_, rfl⟩ (ex_ite ⟨_, rfl⟩ (ex_ite ⟨_, rfl⟩ (ex_ite ⟨_, rfl⟩ (ex_ite ⟨_, rfl⟩ (ex_ite ⟨_, rfl⟩ (ex_ite ⟨_, rfl⟩ (ex_ite ⟨_, rfl⟩ (ex_ite ⟨_, rfl⟩ (ex_ite ⟨_, rfl⟩ (ex_ite ⟨_, rfl⟩ ⟨_, rfl⟩))))))))))))))
/-- the farthest pair so far -/
def wiP (I : Nat) (v : Nat → Int32) (a b : Nat) (z : Int32 × Int32) : Int32 × Int32 := if (isH I v a && (isH I v b && !decide (apS v a b ≤ z.1))) = true then (apS v a b, nI (10 * a + b)) else z
def wiI (I : Nat) (v : Nat → Int32) (a : Nat) : Nat → Nat → Int32 × Int32 → Int32 × Int32
  | 0, _, z => z
  | m + 1, b, z => wiI I v a m (b + 1) (wiP I v a b z)
def wiO (I N : Nat) (v : Nat → Int32) : Nat → Nat → Int32 × Int32 → Int32 × Int32
  | 0, _, z => z
  | m + 1, a, z => wiO I N v m (a + 1) (wiI I v a (N - (a + 1)) (a + 1) z)
theorem wiP_no {a b : Nat} {z : Int32 × Int32} (h : (isH I v a && isH I v b) = false) : wiP I v a b z = z := by
  unfold wiP
  rw [← Bool.and_assoc, h, Bool.false_and, if_neg (by decide)]
theorem wiI_no {a : Nat} : ∀ m b z, (∀ j, b ≤ j → j < b + m → (isH I v a && isH I v j) = false) → wiI I v a m b z = z := by
  intro m
  induction m with
  | zero => intro b z _; rfl
  | succ m ih =>
    intro b z hb
    show wiI I v a m (b + 1) (wiP I v a b z) = z
    rw [wiP_no (hb b (by omega) (by omega))]
    exact ih (b + 1) z fun j j1 j2 => hb j (by omega) (by omega)
theorem wiI_cut {a : Nat} : ∀ m b m' z, b + m = I → m ≤ m' → wiI I v a m' b z = wiI I v a m b z := by
  intro m
  induction m with
  | zero =>
    intro b m' z hb _
    rw [wiI_no m' b z fun j j1 _ => by rw [isH_ge (k := j) (by omega), Bool.and_false]]
    rfl
  | succ m ih =>
    intro b m' z hb hm
    obtain ⟨m'', rfl⟩ : ∃ j, m' = j + 1 := ⟨m' - 1, by omega⟩
    exact ih (b + 1) m'' _ (by omega) (by omega)
theorem wiO_cut (h6 : I ≤ 6) : ∀ m a m' z, a + m = I → m ≤ m' → wiO I 6 v m' a z = wiO I I v m a z := by
  have hz : ∀ m a z, I ≤ a → wiO I 6 v m a z = z := by
    intro m
    induction m with
    | zero => intro a z _; rfl
    | succ m ih =>
      intro a z ha
      show wiO I 6 v m (a + 1) (wiI I v a (6 - (a + 1)) (a + 1) z) = z
      rw [wiI_no _ _ z fun j _ _ => by rw [isH_ge ha, Bool.false_and], ih (a + 1) z (by omega)]
  intro m
  induction m with
  | zero => intro a m' z ha _; rw [hz m' a z (by omega)]; rfl
  | succ m ih =>
    intro a m' z ha hm
    obtain ⟨m'', rfl⟩ : ∃ j, m' = j + 1 := ⟨m' - 1, by omega⟩
    show wiO I 6 v m'' (a + 1) (wiI I v a (6 - (a + 1)) (a + 1) z) = wiO I I v m (a + 1) (wiI I v a (I - (a + 1)) (a + 1) z)
    rw [wiI_cut (I - (a + 1)) (a + 1) (6 - (a + 1)) z (by omega) (by omega), ih (a + 1) m'' _ (by omega) (by omega)]
theorem hmS_1 {b : Nat} (hb : isH I v b = true) : ∀ m k, k ≤ b → b < k + m → 1 ≤ hmS I v m k := by
  intro m
  induction m with
  | zero => intro k h1 h2; omega
  | succ m ih =>
    intro k h1 h2
    show 1 ≤ (if isH I v k then 1 else 0) + hmS I v m (k + 1)
    by_cases c : k = b
    · rw [c, hb, if_pos rfl]; omega
    · have := ih (k + 1) (by omega) (by omega); omega
theorem hmS_2 {a b : Nat} (ha : isH I v a = true) (hb : isH I v b = true) (hab : a < b) : ∀ m k, k ≤ a → b < k + m → 2 ≤ hmS I v m k := by
  intro m
  induction m with
  | zero => intro k h1 h2; omega
  | succ m ih =>
    intro k h1 h2
    show 2 ≤ (if isH I v k then 1 else 0) + hmS I v m (k + 1)
    by_cases c : k = a
    · have := hmS_1 hb m (k + 1) (by omega) (by omega)
      rw [c, ha, if_pos rfl]
      rw [c] at this
      omega
    · have := ih (k + 1) (by omega) (by omega); omega
theorem wiO_no (h : hmS I v I 0 < 2) : ∀ m a z, wiO I I v m a z = z := by
  intro m
  induction m with
  | zero => intro a z; rfl
  | succ m ih =>
    intro a z
    show wiO I I v m (a + 1) (wiI I v a (I - (a + 1)) (a + 1) z) = z
    rw [ih, wiI_no _ _ z fun j j1 j2 => ?_]
    cases q : isH I v a && isH I v j with
    | false => rfl
    | true =>
      obtain ⟨q1, q2⟩ := Bool.and_eq_true_iff.mp q
      have := hmS_2 q1 q2 (show a < j by omega) I 0 (by omega) (by have := isH_lt q2; omega)
      omega
theorem fc_wideI {i a : Nat} {x : Int32} (hv : VS I (s.1 21 i)) (ha : a < 6) (k7 : Int32 → Int32 → Int32 → Int32 → S2 → Option Int32) : ∀ (m b fu : Nat) (z : Int32 × Int32), b + m = 6 → m < fu → f_State_widest_L20 i k7 fu x z.1 z.2 (nI a) (nI b) s = k7 x (wiI I (s.1 21 i) a m b z).1 (wiI I (s.1 21 i) a m b z).2 (nI (a + 1)) s := by
  have h6 := hv.1
  intro m
  induction m with
  | zero =>
    intro b fu z hb hf
    obtain ⟨f, rfl, hf'⟩ := suc_of hf
    show b_State_widest_L20 _ _ _ _ _ _ _ _ _ = _
    unfold b_State_widest_L20
    rw [of_6, if_pos (nI_le (by omega) (by omega)), of_1, nI_add]
    rfl
  | succ m ih =>
    intro b fu z hb hf
    obtain ⟨f, rfl, hf'⟩ := suc_lt hf
    have st := ih (b + 1) f (wiP I (s.1 21 i) a b z) (by omega) hf'
    show b_State_widest_L20 _ _ _ _ _ _ _ _ _ = k7 x (wiI I (s.1 21 i) a m (b + 1) (wiP I (s.1 21 i) a b z)).1 (wiI I (s.1 21 i) a m (b + 1) (wiP I (s.1 21 i) a b z)).2 (nI (a + 1)) s
    rw [← st]
    unfold b_State_widest_L20 f_State_widest_L75 wiP
    rw [of_6, if_neg (nI_ge (by omega) (by omega)), of_1, nI_add, fc_isHead hv ha, Option.bind_some, fc_isHead hv (by omega), Option.bind_some]
    cases c1 : isH I (s.1 21 i) a with
    | false => rw [ifF, Bool.false_and, if_neg (by decide)]
    | true =>
      cases c2 : isH I (s.1 21 i) b with
      | false => rw [ifT, ifF, Bool.true_and, Bool.false_and, if_neg (by decide)]
      | true =>
        rw [ifT, ifT, fc_apart hv (isH_lt c1) (isH_lt c2), Option.bind_some, Option.bind_some, Bool.true_and, Bool.true_and, of_10, mul_nI, nI_add]
        by_cases c3 : apS (s.1 21 i) a b ≤ z.1
        · rw [if_pos c3, decide_eq_true c3, if_neg (by decide)]
        · rw [if_neg c3, decide_eq_false c3, if_pos (show (!false) = true from rfl)]
theorem fc_wideO {i : Nat} {x : Int32} (hv : VS I (s.1 21 i)) : ∀ (m a fu : Nat) (z : Int32 × Int32), a + m = 6 → m < fu → f_State_widest_L7 i fu x z.1 z.2 (nI a) s = some (if x = 0 then (wiO I 6 (s.1 21 i) m a z).1 else (wiO I 6 (s.1 21 i) m a z).2) := by
  intro m
  induction m with
  | zero =>
    intro a fu z ha hf
    obtain ⟨f, rfl, hf'⟩ := suc_of hf
    show b_State_widest_L7 _ _ _ _ _ _ _ = _
    unfold b_State_widest_L7
    rw [of_6, if_pos (nI_le (by omega) (by omega))]
    split <;> rfl
  | succ m ih =>
    intro a fu z ha hf
    obtain ⟨f, rfl, hf'⟩ := suc_lt hf
    show b_State_widest_L7 _ _ _ _ _ _ _ = some (if x = 0 then (wiO I 6 (s.1 21 i) m (a + 1) (wiI I (s.1 21 i) a (6 - (a + 1)) (a + 1) z)).1 else (wiO I 6 (s.1 21 i) m (a + 1) (wiI I (s.1 21 i) a (6 - (a + 1)) (a + 1) z)).2)
    unfold b_State_widest_L7
    rw [of_6, if_neg (nI_ge (by omega) (by omega)), of_1, nI_add, fc_wideI hv (by omega) (f_State_widest_L7 i f) (6 - (a + 1)) (a + 1) FU z (by omega) (lt_FU (by omega))]
    exact ih (a + 1) f _ (by omega) hf'
theorem fm_wideI {a : Nat} {x : Int32} (hI : s.1 60 0 28 = nI I) (hv : VS I v) (hr : RS I T B v s) (ha : a < I) (k26 : Int32 → Int32 → Int32 → Int32 → S2 → Option Int32) : ∀ (m b fu : Nat) (z : Int32 × Int32), b + m = I → m < fu → f_M_wide_L41 k26 fu x z.2 z.1 (nI a) (nI b) s = k26 x (wiI I v a m b z).2 (wiI I v a m b z).1 (nI (a + 1)) s := by
  have h6 := hv.1
  intro m
  induction m with
  | zero =>
    intro b fu z hb hf
    obtain ⟨f, rfl, hf'⟩ := suc_of hf
    show b_M_wide_L41 _ _ _ _ _ _ _ _ = _
    unfold b_M_wide_L41
    rw [hI, if_pos (nI_le (by omega) (by omega)), of_1, nI_add]
    rfl
  | succ m ih =>
    intro b fu z hb hf
    obtain ⟨f, rfl, hf'⟩ := suc_lt hf
    have st := ih (b + 1) f (wiP I v a b z) (by omega) hf'
    show b_M_wide_L41 _ _ _ _ _ _ _ _ = k26 x (wiI I v a m (b + 1) (wiP I v a b z)).2 (wiI I v a m (b + 1) (wiP I v a b z)).1 (nI (a + 1)) s
    rw [← st]
    unfold b_M_wide_L41 f_M_wide_L98 wiP
    rw [hI, if_neg (nI_ge (by omega) (by omega)), of_1, nI_add, fm_isHead hI hv hr (by omega), Option.bind_some, fm_isHead hI hv hr (by omega), Option.bind_some]
    cases c1 : isH I v a with
    | false => rw [ifF, Bool.false_and, if_neg (by decide)]
    | true =>
      cases c2 : isH I v b with
      | false => rw [ifT, ifF, Bool.true_and, Bool.false_and, if_neg (by decide)]
      | true =>
        rw [ifT, ifT, fm_farOf hv hr ha (by omega), Option.bind_some, Option.bind_some, Bool.true_and, Bool.true_and, of_10, mul_nI, nI_add]
        by_cases c3 : apS v a b ≤ z.1
        · rw [if_pos c3, decide_eq_true c3, if_neg (by decide)]
        · rw [if_neg c3, decide_eq_false c3, if_pos (show (!false) = true from rfl)]
theorem fm_wideO {x : Int32} (hI : s.1 60 0 28 = nI I) (hv : VS I v) (hr : RS I T B v s) : ∀ (m a fu : Nat) (z : Int32 × Int32), a + m = I → m < fu → f_M_wide_L26 fu x z.2 z.1 (nI a) s = some (if x = 0 then (wiO I I v m a z).1 else (wiO I I v m a z).2) := by
  have h6 := hv.1
  intro m
  induction m with
  | zero =>
    intro a fu z ha hf
    obtain ⟨f, rfl, hf'⟩ := suc_of hf
    show b_M_wide_L26 _ _ _ _ _ _ = _
    unfold b_M_wide_L26
    rw [hI, if_pos (nI_le (by omega) (by omega))]
    split <;> rfl
  | succ m ih =>
    intro a fu z ha hf
    obtain ⟨f, rfl, hf'⟩ := suc_lt hf
    show b_M_wide_L26 _ _ _ _ _ _ = some (if x = 0 then (wiO I I v m (a + 1) (wiI I v a (I - (a + 1)) (a + 1) z)).1 else (wiO I I v m (a + 1) (wiI I v a (I - (a + 1)) (a + 1) z)).2)
    unfold b_M_wide_L26
    rw [hI, if_neg (nI_ge (by omega) (by omega)), of_1, nI_add, fm_wideI hI hv hr (by omega) (f_M_wide_L26 f) (I - (a + 1)) (a + 1) FU z (by omega) (lt_FU (by omega))]
    exact ih (a + 1) f _ (by omega) hf'
theorem q_wide (h : INV I T B R W s) (x : Int32) : ∃ r, f_D_wide x s = some r ∧ f_M_wide x s = some r := by
  have h6 := h.1.2.2.1.1.1
  have hv := h.1.2.2.2.2.1
  have hr := h.1.2.2.2.2.2.2.2.2
  have hI := h.1.2.2.2.2.2.1.1
  have hle := hmS_le (I := I) (v := s.1 21 0) I 0
  have hC : ∀ y : Int32, f_State_widest 0 y s = some (if y = 0 then (wiO I I (s.1 21 0) I 0 (-1, -1)).1 else (wiO I I (s.1 21 0) I 0 (-1, -1)).2) := fun y => by
    unfold f_State_widest
    rw [show Int32.ofInt 0 = nI 0 from of_0, of_m1, ← wiO_cut h6 I 0 6 _ (by omega) h6]
    exact fc_wideO hv 6 0 FU (-1, -1) (by omega) (lt_FU (by omega))
  have hM : f_M_wide_L26 FU x (-1) (-1) (nI 0) s = some (if x = 0 then (wiO I I (s.1 21 0) I 0 (-1, -1)).1 else (wiO I I (s.1 21 0) I 0 (-1, -1)).2) := fm_wideO hI hv hr I 0 FU (-1, -1) (by omega) (lt_FU (by omega))
  unfold f_D_wide f_M_wide f_D_wide_L30
  rw [v_hasSea h, g_D_isWithin_eq, fm_heads hI hv hr, Option.bind_some, g_M_in_eq, of_m1, of_2, show Int32.ofInt 0 = nI 0 from of_0, of_1, hM]
  by_cases cI : I = 0
  · rw [decide_eq_false (fun z => z cI)]
    exact ⟨-1, by rw [ifF], by rw [if_pos (nI_lt (by omega) (by omega))]⟩
  · rw [decide_eq_true cI, ifT]
    cases c2 : inS x (nI 0) (nI 1) with
    | false => exact ⟨-1, by rw [ifF], by split <;> first | rfl | rw [ifF]⟩
    | true =>
      rw [ifT, ifT]
      obtain ⟨j, -, j2, rfl⟩ := inS_lit c2 (by omega) (by omega)
      have hx : (if nI j = nI 1 then (f_State_widest 0 (nI 1) s).bind fun q1 => some q1 else (f_State_widest 0 (nI 0) s).bind fun q1 => some q1) = some (if nI j = 0 then (wiO I I (s.1 21 0) I 0 (-1, -1)).1 else (wiO I I (s.1 21 0) I 0 (-1, -1)).2) := by
        rcases (show j = 0 ∨ j = 1 by omega) with rfl | rfl
        · rw [if_neg (by decide), hC]; rfl
        · rw [if_pos rfl, hC]; rfl
      by_cases c3 : hmS I (s.1 21 0) I 0 < 2
      · rw [if_pos (nI_lt c3 (by omega))]
        refine ⟨-1, hx.trans ?_, rfl⟩
        rw [wiO_no c3]
        split <;> rfl
      · rw [if_neg (nI_nlt (by omega) (by omega))]
        exact ⟨_, hx, rfl⟩
end
