/-! ===== lands: how many, the largest ===== -/
section
variable {I T B R : Nat} {W : Option WF6} {s : S2} {v : Nat → Int32} {d : Int32}
/-- the land of a head -/
def ldS (I : Nat) (v : Nat → Int32) (d : Int32) (g : Nat) : Nat := itS (lfS I v d) 6 (2 ^ g)
theorem itS_keep {P : Nat → Prop} {f : Nat → Nat} (hf : ∀ m, P m → P (f m)) : ∀ (k m : Nat), P m → P (itS f k m) := by
  intro k
  induction k with
  | zero => intro m h; exact h
  | succ k ih => intro m h; exact ih (f m) (hf m h)
theorem lpS_in {Q : Nat → Prop} (hc : ∀ a b, Q a → viS I v a d b = true → Q b) : ∀ (k a m : Nat), (∀ j, m.testBit j = true → Q j) → ∀ j, (lpS I v d k a m).testBit j = true → Q j := by
  intro k
  induction k with
  | zero => intro a m h; exact h
  | succ k ih =>
    intro a m h
    refine ih (a + 1) _ ?_
    intro j hj
    cases c : m.testBit a with
    | false =>
      rw [c] at hj
      exact h j hj
    | true =>
      rw [c, if_pos rfl, Nat.testBit_or, bsS_bit] at hj
      rcases Bool.or_eq_true_iff.mp hj with z | z
      · exact h j z
      · exact hc a j (h a c) (Bool.and_eq_true_iff.mp z).2
theorem lpS_out : ∀ (k a m b j : Nat), a ≤ b → b < a + k → m.testBit b = true → j < I → viS I v b d j = true → (lpS I v d k a m).testBit j = true := by
  intro k
  induction k with
  | zero => intro a m b j h1 h2; omega
  | succ k ih =>
    intro a m b j h1 h2 hb hj hs
    show (lpS I v d k (a + 1) (if m.testBit a then m ||| bsS (viS I v a d) I else m)).testBit j = true
    by_cases c : a = b
    · subst c
      rw [hb, if_pos rfl]
      refine lpS_sub k (a + 1) _ j ?_
      rw [Nat.testBit_or, bsS_bit, decide_eq_true hj, hs, Bool.and_self, Bool.or_true]
    · refine ih (a + 1) _ b j (by omega) (by omega) ?_ hj hs
      split
      · rw [Nat.testBit_or, hb, Bool.true_or]
      · exact hb
theorem ldS_min {Q : Nat → Prop} {g : Nat} (hc : ∀ a b, Q a → viS I v a d b = true → Q b) (hg : Q g) : ∀ j, (ldS I v d g).testBit j = true → Q j := by
  refine itS_keep (P := fun m => ∀ j, m.testBit j = true → Q j) (fun m h => lpS_in hc I 0 m h) 6 (2 ^ g) (fun j hj => ?_)
  by_cases c : j = g
  · rw [c]; exact hg
  · rw [Nat.testBit_two_pow_of_ne (fun z => c z.symm)] at hj
    cases hj
theorem ldS_H {g : Nat} (hg : isH I v g = true) : HB I v (ldS I v d g) := itS_keep (P := HB I v) (fun m h => HB_lp I 0 m h) 6 (2 ^ g) (HB_one hg)
theorem ldS_self (g : Nat) : (ldS I v d g).testBit g = true := itS_keep (P := fun m => m.testBit g = true) (fun m h => lpS_sub I 0 m g h) 6 (2 ^ g) Nat.testBit_two_pow_self
theorem ldS_closed (h6 : I ≤ 6) {g : Nat} (hg : isH I v g = true) : ∀ a b, (ldS I v d g).testBit a = true → viS I v a d b = true → (ldS I v d g).testBit b = true := by
  intro a b ha hb
  have e := (itS_enough (d := d) h6 6 (2 ^ g) (HB_one hg) (by omega) 6 (by omega)).2
  have hl := isH_lt (ldS_H hg a ha)
  have := lpS_out (d := d) I 0 (ldS I v d g) a b (by omega) (by omega) ha (isH_lt (viS_H hb)) hb
  rw [show lpS I v d I 0 (ldS I v d g) = ldS I v d g from e] at this
  exact this
theorem ti_neg (z : Int32) : (-z).toInt = if z.toInt = -2147483648 then -2147483648 else -z.toInt := by
  have h1 : (-2147483648 : Int) ≤ z.toInt := Int32.le_toInt z
  have h2 : z.toInt < (2147483648 : Int) := Int32.toInt_lt z
  rw [Int32.toInt_neg]
  by_cases c : z.toInt = -2147483648
  · rw [if_pos c, c]; decide
  · rw [if_neg c]; exact Int.bmod_eq_of_le (by omega) (by omega)
theorem jabs_ng (z : Int32) : jabs (-z) = jabs z := by
  have h1 : (-2147483648 : Int) ≤ z.toInt := Int32.le_toInt z
  have h2 : z.toInt < (2147483648 : Int) := Int32.toInt_lt z
  have h3 := ti_neg z
  unfold jabs
  rw [Int32.zero_sub, Int32.zero_sub, Int32.neg_neg]
  have e0 : (0 : Int32).toInt = 0 := rfl
  by_cases c1 : 0 ≤ z
  · have c1' := Int32.le_iff_toInt_le.mp c1
    rw [e0] at c1'
    rw [if_neg (show ¬ z.toInt = -2147483648 by omega)] at h3
    rw [if_pos c1]
    by_cases c2 : 0 ≤ -z
    · have c2' := Int32.le_iff_toInt_le.mp c2
      rw [e0] at c2'
      rw [if_pos c2]
      exact Int32.toInt_inj.mp (by omega)
    · rw [if_neg c2]
  · rw [if_neg c1]
    by_cases c2 : 0 ≤ -z
    · rw [if_pos c2]
    · have c1' : ¬ (0 : Int32).toInt ≤ z.toInt := fun q => c1 (Int32.le_iff_toInt_le.mpr q)
      have c2' : ¬ (0 : Int32).toInt ≤ (-z).toInt := fun q => c2 (Int32.le_iff_toInt_le.mpr q)
      rw [e0] at c1' c2'
      rw [if_neg c2]
      refine Int32.toInt_inj.mp ?_
      by_cases c3 : z.toInt = -2147483648
      · rw [if_pos c3] at h3
        omega
      · rw [if_neg c3] at h3
        omega
theorem jabs_sub (x y : Int32) : jabs (x - y) = jabs (y - x) := by
  rw [← Int32.neg_sub, jabs_ng]
theorem apS_sym (v : Nat → Int32) (a b : Nat) : apS v a b = apS v b a := by
  unfold apS
  rw [jabs_sub (v (hdS v a)), jabs_sub (v (6 + hdS v a))]
theorem viS_sym {a b : Nat} (ha : isH I v a = true) (h : viS I v a d b = true) : viS I v b d a = true := by
  unfold viS at h ⊢
  simp only [Bool.and_eq_true, Bool.not_eq_true', decide_eq_false_iff_not] at h ⊢
  exact ⟨fun z => h.1 z.symm, ha, by rw [apS_sym]; exact h.2.2⟩
theorem ldS_sub (h6 : I ≤ 6) {g j : Nat} (hg : isH I v g = true) (hj : (ldS I v d g).testBit j = true) : ∀ k, (ldS I v d j).testBit k = true → (ldS I v d g).testBit k = true := ldS_min (ldS_closed h6 hg) hj
theorem ldS_sym (h6 : I ≤ 6) {g j : Nat} (hg : isH I v g = true) (hj : (ldS I v d g).testBit j = true) : (ldS I v d j).testBit g = true := by
  have hjH := ldS_H hg j hj
  apply Classical.byContradiction
  intro hn
  have := ldS_min (Q := fun b => isH I v b = true ∧ ¬ (ldS I v d j).testBit b = true) (fun a b hq hs => ⟨viS_H hs, fun z => hq.2 (ldS_closed h6 hjH b a z (viS_sym hq.1 hs))⟩) ⟨hg, hn⟩ j hj
  exact this.2 (ldS_self j)
/-- a head is the lowest of its land -/
def loS (I : Nat) (v : Nat → Int32) (d : Int32) (g : Nat) : Bool := isH I v g && decide (∀ j, j < g → (ldS I v d g).testBit j = false)
def clS (I : Nat) (v : Nat → Int32) (d : Int32) : Nat → Nat
  | 0 => 0
  | k + 1 => clS I v d k + (if loS I v d k then 1 else 0)
theorem clS_le (k : Nat) : clS I v d k ≤ k := by
  induction k with
  | zero => exact Nat.le_refl 0
  | succ k ih =>
    show clS I v d k + (if loS I v d k then 1 else 0) ≤ k + 1
    split <;> omega
theorem clS_stop : ∀ n, I ≤ n → clS I v d n = clS I v d I := by
  intro n
  induction n with
  | zero => intro hn; rw [show I = 0 by omega]
  | succ n ih =>
    intro hn
    by_cases c : I = n + 1
    · rw [c]
    · show clS I v d n + (if loS I v d n then 1 else 0) = _
      rw [show loS I v d n = false by unfold loS; rw [isH_ge (by omega)]; rfl, ih (by omega)]
      rfl
theorem fc_landN {i : Nat} (hv : VS I (s.1 21 i)) : ∀ (n k fu m : Nat), k + n = 6 → n < fu → m < 64 → (∀ j, m.testBit j = true ↔ ∃ g, g < k ∧ isH I (s.1 21 i) g = true ∧ (ldS I (s.1 21 i) d g).testBit j = true) → f_State_landCount_L7 i fu d (nI (clS I (s.1 21 i) d k)) (nI m) (nI k) s = some (nI (clS I (s.1 21 i) d 6)) := by
  have h6 := hv.1
  intro n
  induction n with
  | zero =>
    intro k fu m hk hf hm hi
    obtain ⟨f, rfl, hf'⟩ := suc_of hf
    show b_State_landCount_L7 _ _ _ _ _ _ _ = _
    unfold b_State_landCount_L7
    rw [of_6, if_pos (nI_le (by omega) (by omega)), show k = 6 by omega]
  | succ n ih =>
    intro k fu m hk hf hm hi
    obtain ⟨f, rfl, hf'⟩ := suc_lt hf
    have hle := clS_le (I := I) (v := s.1 21 i) (d := d) k
    show b_State_landCount_L7 _ _ _ _ _ _ _ = _
    unfold b_State_landCount_L7 f_State_landCount_L45
    rw [of_6, if_neg (nI_ge (by omega) (by omega)), fc_isHead hv (by omega), Option.bind_some, of_1, nI_add, nI_add]
    cases c : isH I (s.1 21 i) k with
    | false =>
      rw [ifF]
      have hl : loS I (s.1 21 i) d k = false := by unfold loS; rw [c]; rfl
      have := ih (k + 1) f m (by omega) hf' hm (fun j => by
        rw [hi j]
        constructor
        · rintro ⟨g, g1, g2, g3⟩; exact ⟨g, by omega, g2, g3⟩
        · rintro ⟨g, g1, g2, g3⟩
          by_cases e : g = k
          · rw [e, c] at g2; cases g2
          · exact ⟨g, by omega, g2, g3⟩)
      rw [show clS I (s.1 21 i) d (k + 1) = clS I (s.1 21 i) d k + (if loS I (s.1 21 i) d k then 1 else 0) from rfl, hl] at this
      exact this
    | true =>
      rw [ifT, bit_nI (by omega) (by omega)]
      cases cm : m.testBit k with
      | true =>
        rw [if_pos rfl, if_neg (show ¬ nI 1 = 0 by decide)]
        obtain ⟨g, g1, g2, g3⟩ := (hi k).mp cm
        have hl : loS I (s.1 21 i) d k = false := by
          unfold loS
          rw [c, Bool.true_and]
          apply decide_eq_false
          intro z
          have := z g g1
          rw [ldS_sym h6 g2 g3] at this
          cases this
        have := ih (k + 1) f m (by omega) hf' hm (fun j => by
          rw [hi j]
          constructor
          · rintro ⟨g, g1, g2, g3⟩; exact ⟨g, by omega, g2, g3⟩
          · rintro ⟨g', k1, k2, k3⟩
            by_cases e : g' = k
            · rw [e] at k3
              exact ⟨g, g1, g2, ldS_sub h6 g2 g3 j k3⟩
            · exact ⟨g', by omega, k2, k3⟩)
        rw [show clS I (s.1 21 i) d (k + 1) = clS I (s.1 21 i) d k + (if loS I (s.1 21 i) d k then 1 else 0) from rfl, hl] at this
        exact this
      | false =>
        rw [if_neg (show ¬ (false = true) by decide), if_pos nI_0, fc_land hv c, Option.bind_some]
        have hb := HB_lt (ldS_H (d := d) c) h6
        rw [show itS (lfS I (s.1 21 i) d) 6 (2 ^ k) = ldS I (s.1 21 i) d k from rfl, or64 _ hm _ hb.2]
        have hl : loS I (s.1 21 i) d k = true := by
          unfold loS
          rw [c, Bool.true_and]
          apply decide_eq_true
          intro g hg
          cases q : (ldS I (s.1 21 i) d k).testBit g with
          | false => rfl
          | true =>
            have := (hi k).mpr ⟨g, hg, ldS_H c g q, ldS_sym h6 c q⟩
            rw [cm] at this
            cases this
        have := ih (k + 1) f (m ||| ldS I (s.1 21 i) d k) (by omega) hf' (Nat.or_lt_two_pow (n := 6) hm hb.2) (fun j => by
          rw [Nat.testBit_or, Bool.or_eq_true_iff, hi j]
          constructor
          · rintro (⟨g, g1, g2, g3⟩ | z)
            · exact ⟨g, by omega, g2, g3⟩
            · exact ⟨k, by omega, c, z⟩
          · rintro ⟨g', k1, k2, k3⟩
            by_cases e : g' = k
            · rw [e] at k3
              exact Or.inr k3
            · exact Or.inl ⟨g', by omega, k2, k3⟩)
        rw [show clS I (s.1 21 i) d (k + 1) = clS I (s.1 21 i) d k + (if loS I (s.1 21 i) d k then 1 else 0) from rfl, hl] at this
        exact this
/-- the largest land -/
def mlS (I : Nat) (v : Nat → Int32) (d : Int32) : Nat → Int32
  | 0 => 0
  | k + 1 => if isH I v k then jmax (mlS I v d k) (g_Integer_bitCount (nI (ldS I v d k)) (fun _ _ _ => 0, fun _ => 0)) else mlS I v d k
theorem mlS_stop : ∀ n, I ≤ n → mlS I v d n = mlS I v d I := by
  intro n
  induction n with
  | zero => intro hn; rw [show I = 0 by omega]
  | succ n ih =>
    intro hn
    by_cases c : I = n + 1
    · rw [c]
    · show (if isH I v n then jmax (mlS I v d n) _ else mlS I v d n) = _
      rw [isH_ge (by omega), ih (by omega)]
      rfl
theorem fc_largeL {i : Nat} (hv : VS I (s.1 21 i)) : ∀ (n k fu : Nat), k + n = 6 → n < fu → f_State_largestLand_L4 i fu d (mlS I (s.1 21 i) d k) (nI k) s = some (mlS I (s.1 21 i) d 6) := by
  have h6 := hv.1
  intro n
  induction n with
  | zero =>
    intro k fu hk hf
    obtain ⟨f, rfl, hf'⟩ := suc_of hf
    show b_State_largestLand_L4 _ _ _ _ _ _ = _
    unfold b_State_largestLand_L4
    rw [of_6, if_pos (nI_le (by omega) (by omega)), show k = 6 by omega]
  | succ n ih =>
    intro k fu hk hf
    obtain ⟨f, rfl, hf'⟩ := suc_lt hf
    have st := ih (k + 1) f (by omega) hf'
    show b_State_largestLand_L4 _ _ _ _ _ _ = _
    unfold b_State_largestLand_L4 f_State_largestLand_L32
    rw [of_6, if_neg (nI_ge (by omega) (by omega)), fc_isHead hv (by omega), Option.bind_some, of_1, nI_add]
    rw [show mlS I (s.1 21 i) d (k + 1) = (if isH I (s.1 21 i) k then jmax (mlS I (s.1 21 i) d k) (g_Integer_bitCount (nI (ldS I (s.1 21 i) d k)) (fun _ _ _ => 0, fun _ => 0)) else mlS I (s.1 21 i) d k) from rfl] at st
    cases c : isH I (s.1 21 i) k with
    | false =>
      rw [c, if_neg (show ¬ (false = true) by decide)] at st
      rw [ifF]
      exact st
    | true =>
      rw [c, if_pos rfl] at st
      rw [ifT, fc_land hv c, Option.bind_some]
      exact st
def zS2 : S2 := (fun _ _ _ => 0, fun _ => 0)
theorem ntz_z (x : Int32) (s : S2) : g_Integer_numberOfTrailingZeros x s = g_Integer_numberOfTrailingZeros x zS2 := rfl
theorem ntz64 : ∀ m, m < 64 → ∀ k, k < 6 → m.testBit k = true → decide (g_Integer_numberOfTrailingZeros (nI m) zS2 = nI k) = decide (∀ j, j < k → m.testBit j = false) := by decide +kernel
theorem fm_landsL {c : Nat} (hI : s.1 60 0 28 = nI I) (hv : VS I v) (hr : RS I T B v s) (hc : c ≤ 1) : ∀ (n k fu : Nat), k + n = I → n < fu → f_M_lands_L37 fu d (nI c) (nI (clS I v d k)) (mlS I v d k) (nI k) s = some (if c = 0 then nI (clS I v d I) else mlS I v d I) := by
  have h6 := hv.1
  intro n
  induction n with
  | zero =>
    intro k fu hk hf
    obtain ⟨f, rfl, hf'⟩ := suc_of hf
    show b_M_lands_L37 _ _ _ _ _ _ _ = _
    unfold b_M_lands_L37
    rw [hI, if_pos (nI_le (by omega) (by omega)), show k = I by omega]
    rcases (show c = 0 ∨ c = 1 by omega) with rfl | rfl
    · rw [if_pos nI_0]; rfl
    · rw [if_neg (show ¬ nI 1 = 0 by decide)]; rfl
  | succ n ih =>
    intro k fu hk hf
    obtain ⟨f, rfl, hf'⟩ := suc_lt hf
    have st := ih (k + 1) f (by omega) hf'
    have hle := clS_le (I := I) (v := v) (d := d) k
    show b_M_lands_L37 _ _ _ _ _ _ _ = _
    unfold b_M_lands_L37 f_M_lands_L80 f_M_lands_L94
    rw [hI, if_neg (nI_ge (by omega) (by omega)), fm_isHead hI hv hr (by omega), Option.bind_some, of_1, show Int32.ofInt 0 = nI 0 from of_0, nI_add, nI_add, nI_add, Nat.add_zero]
    rw [show mlS I v d (k + 1) = (if isH I v k then jmax (mlS I v d k) (g_Integer_bitCount (nI (ldS I v d k)) (fun _ _ _ => 0, fun _ => 0)) else mlS I v d k) from rfl, show clS I v d (k + 1) = clS I v d k + (if loS I v d k then 1 else 0) from rfl] at st
    cases c1 : isH I v k with
    | false =>
      have hl : loS I v d k = false := by unfold loS; rw [c1]; rfl
      rw [c1, hl, if_neg (show ¬ (false = true) by decide), if_neg (show ¬ (false = true) by decide)] at st
      rw [ifF]
      exact st
    | true =>
      have hb := HB_lt (ldS_H (d := d) c1) h6
      have hk := of_decide_eq_true (Bool.and_eq_true_iff.mp c1).2
      have e := ntz64 _ hb.2 k (by omega) (ldS_self k)
      have hl : loS I v d k = decide (∀ j, j < k → (ldS I v d k).testBit j = false) := by unfold loS; rw [c1]; rfl
      rw [← e] at hl
      rw [c1, if_pos rfl] at st
      rw [ifT, fm_land hI hv hr (show k < I by omega), Option.bind_some, hk, show itS (lfS I v d) 6 (2 ^ k) = ldS I v d k from rfl, ntz_z]
      by_cases cz : g_Integer_numberOfTrailingZeros (nI (ldS I v d k)) zS2 = nI k
      · rw [decide_eq_true cz] at hl
        rw [hl, if_pos rfl] at st
        rw [if_pos cz]
        exact st
      · rw [decide_eq_false cz] at hl
        rw [hl, if_neg (show ¬ (false = true) by decide)] at st
        rw [if_neg cz]
        exact st
theorem q_lands (h : INV I T B R W s) (x y : Int32) : ∃ r, f_D_lands x y s = some r ∧ f_M_lands x y s = some r := by
  have h6 := h.1.2.2.1.1.1
  have hv := h.1.2.2.2.2.1
  have hI := h.1.2.2.2.2.2.1.1
  unfold f_D_lands f_M_lands
  rw [v_hasSea h, g_D_isWithin_eq, g_M_in_eq, g_D_isWithin_eq, g_M_in_eq, hI]
  by_cases cI : I = 0
  · exact ⟨_, by rw [decide_eq_false (fun z => z cI), ifF], by rw [if_pos (by rw [cI]; exact nI_0)]⟩
  · have hIz : ¬ nI I = 0 := fun z => cI ((nI_eq (by omega) (by omega)).mp (z.trans nI_0.symm))
    rw [decide_eq_true cI]
    cases c1 : inS x (Int32.ofInt 0) (Int32.ofInt 999) with
    | false => exact ⟨_, by rw [ifT, ifF], by rw [if_neg hIz, ifF]⟩
    | true =>
      rw [show Int32.ofInt 0 = nI 0 from of_0, of_1]
      cases c2 : inS y (nI 0) (nI 1) with
      | false => exact ⟨_, by rw [ifT, ifT, ifF], by rw [if_neg hIz, ifT, ifF]⟩
      | true =>
        obtain ⟨k, -, k2, rfl⟩ := inS_lit c2 (by omega) (by omega)
        have hm := fm_landsL (d := x) (c := k) hI hv h.1.2.2.2.2.2.2.2.2 k2 I 0 FU (by omega) (lt_FU (by omega))
        refine ⟨if k = 0 then nI (clS I (s.1 21 0) x I) else mlS I (s.1 21 0) x I, ?_, ?_⟩
        · rw [ifT, ifT, ifT]
          rcases (show k = 0 ∨ k = 1 by omega) with rfl | rfl
          · rw [if_pos nI_0]
            have := fc_landN (d := x) hv 6 0 FU 0 (by omega) (lt_FU (by omega)) (by omega) (fun j => by
              rw [Nat.zero_testBit]
              constructor
              · intro z; cases z
              · rintro ⟨g, g1, -⟩; omega)
            unfold f_State_landCount
            rw [show Int32.ofInt 0 = nI 0 from of_0]
            rw [show f_State_landCount_L7 0 FU x (nI 0) (nI 0) (nI 0) s = some (nI (clS I (s.1 21 0) x 6)) from this, clS_stop 6 h6]
            rfl
          · rw [if_neg (show ¬ nI 1 = 0 by decide)]
            have := fc_largeL (d := x) hv 6 0 FU (by omega) (lt_FU (by omega))
            unfold f_State_largestLand
            rw [show Int32.ofInt 0 = nI 0 from of_0]
            rw [show f_State_largestLand_L4 0 FU x (nI 0) (nI 0) s = some (mlS I (s.1 21 0) x 6) from (by rw [← this]; rw [show mlS I (s.1 21 0) x 0 = nI 0 from nI_0.symm]), mlS_stop 6 h6]
            rfl
        · rw [if_neg hIz, ifT, ifT]
          rw [show f_M_lands_L37 FU x (nI k) (nI 0) (nI 0) (nI 0) s = f_M_lands_L37 FU x (nI k) (nI (clS I (s.1 21 0) x 0)) (mlS I (s.1 21 0) x 0) (nI 0) s from (by rw [show mlS I (s.1 21 0) x 0 = nI 0 from nI_0.symm]; rfl)]
          exact hm
end
