/-! ===== sets of isles as masks; sees, everywhere, when ===== -/
def bsS (p : Nat → Bool) : Nat → Nat
  | 0 => 0
  | n + 1 => bsS p n ||| (if p n then 2 ^ n else 0)
theorem or64 : ∀ a, a < 64 → ∀ b, b < 64 → nI a ||| nI b = nI (a ||| b) := by decide +kernel
theorem sh6 : ∀ k, k < 6 → nI 1 <<< (nI k &&& 31) = nI (2 ^ k) := by decide +kernel
theorem bsS_t {p : Nat → Bool} {n : Nat} (h : p n = true) : bsS p (n + 1) = bsS p n ||| 2 ^ n := by
  show bsS p n ||| (if p n then 2 ^ n else 0) = _
  rw [h]; rfl
theorem bsS_f {p : Nat → Bool} {n : Nat} (h : p n = false) : bsS p (n + 1) = bsS p n := by
  show bsS p n ||| (if p n then 2 ^ n else 0) = _
  rw [h]; exact Nat.or_zero _
theorem bsS_lt (p : Nat → Bool) : ∀ n, bsS p n < 2 ^ n := by
  intro n
  induction n with
  | zero => exact Nat.one_pos
  | succ n ih =>
    have h1 : bsS p n < 2 ^ (n + 1) := Nat.lt_of_lt_of_le ih (Nat.pow_le_pow_right (by omega) (by omega))
    cases h : p n with
    | true =>
      rw [bsS_t h]
      exact Nat.or_lt_two_pow h1 (Nat.pow_lt_pow_right (by omega) (by omega))
    | false =>
      rw [bsS_f h]
      exact h1
theorem bsS_64 (p : Nat → Bool) {n : Nat} (h : n ≤ 6) : bsS p n < 64 := Nat.lt_of_lt_of_le (bsS_lt p n) (Nat.pow_le_pow_right (by omega) h : 2 ^ n ≤ 2 ^ 6)
theorem bsS_or {p : Nat → Bool} {n : Nat} (hn : n < 6) (h : p n = true) : nI (bsS p n) ||| (nI 1 <<< (nI n &&& 31)) = nI (bsS p (n + 1)) := by
  rw [sh6 n hn, or64 _ (bsS_64 p (by omega)) _ (Nat.pow_lt_pow_right (by omega) hn : 2 ^ n < 2 ^ 6), bsS_t h]
theorem bsS_bit (p : Nat → Bool) (k : Nat) : ∀ n, (bsS p n).testBit k = (decide (k < n) && p k) := by
  intro n
  induction n with
  | zero => show Nat.testBit 0 k = _; simp
  | succ n ih =>
    show (bsS p n ||| (if p n then 2 ^ n else 0)).testBit k = _
    rw [Nat.testBit_or, ih]
    by_cases c : k = n
    · subst c
      cases h : p k with
      | true => simp [Nat.testBit_two_pow_self]
      | false => simp
    · have e : decide (k < n + 1) = decide (k < n) := by
        by_cases d : k < n
        · simp [d, show k < n + 1 by omega]
        · simp [d, show ¬ k < n + 1 by omega]
      rw [e]
      have : (if p n then 2 ^ n else 0).testBit k = false := by
        cases p n with
        | true => exact Nat.testBit_two_pow_of_ne (fun z => c z.symm)
        | false => exact Nat.zero_testBit k
      rw [this, Bool.or_false]
theorem bsS_stop {p : Nat → Bool} {I : Nat} (h : ∀ k, I ≤ k → p k = false) : ∀ n, I ≤ n → bsS p n = bsS p I := by
  intro n
  induction n with
  | zero => intro hn; rw [show I = 0 by omega]
  | succ n ih =>
    intro hn
    by_cases c : I = n + 1
    · rw [c]
    · rw [bsS_f (h n (by omega)), ih (by omega)]
section
variable {I T B R : Nat} {W : Option WF6} {s s0 : S2} {w v : Nat → Int32} {d : Int32}
theorem isH_ge {v : Nat → Int32} {k : Nat} (h : I ≤ k) : isH I v k = false := by
  unfold isH
  rw [decide_eq_false (show ¬ k < I by omega)]; rfl
/-- isle o is seen from head g -/
def viS (I : Nat) (v : Nat → Int32) (g : Nat) (d : Int32) (o : Nat) : Bool := !decide (o = g) && (isH I v o && !decide (d < apS v g o))
theorem viS_ge {v : Nat → Int32} {g : Nat} (k : Nat) (h : I ≤ k) : viS I v g d k = false := by
  unfold viS
  rw [isH_ge h, Bool.false_and, Bool.and_false]
theorem fc_seenL {i g : Nat} (hv : VS I (s.1 21 i)) (hg : g < I) : ∀ (m k fu : Nat), k + m = 6 → m < fu → f_State_seenFrom_L5 i fu (nI g) d (nI (bsS (viS I (s.1 21 i) g d) k)) (nI k) s = some (nI (bsS (viS I (s.1 21 i) g d) 6)) := by
  have h6 := hv.1
  intro m
  induction m with
  | zero =>
    intro k fu hk hf
    obtain ⟨f, rfl, hf'⟩ := suc_of hf
    show b_State_seenFrom_L5 _ _ _ _ _ _ _ = _
    unfold b_State_seenFrom_L5
    rw [of_6, if_pos (nI_le (by omega) (by omega)), show k = 6 by omega]
  | succ m ih =>
    intro k fu hk hf
    obtain ⟨f, rfl, hf'⟩ := suc_lt hf
    show b_State_seenFrom_L5 _ _ _ _ _ _ _ = _
    unfold b_State_seenFrom_L5 f_State_seenFrom_L45
    have step := ih (k + 1) f (by omega) hf'
    rw [of_6, if_neg (nI_ge (by omega) (by omega)), of_1, nI_add]
    by_cases c1 : k = g
    · have hp : viS I (s.1 21 i) g d k = false := by unfold viS; rw [decide_eq_true c1]; rfl
      rw [if_pos (by rw [c1])]
      rw [bsS_f hp] at step
      exact step
    · rw [if_neg (fun z => c1 ((nI_eq (by omega) (by omega)).mp z)), fc_isHead hv (by omega), Option.bind_some]
      cases c2 : isH I (s.1 21 i) k with
      | false =>
        have hp : viS I (s.1 21 i) g d k = false := by unfold viS; rw [c2, Bool.false_and, Bool.and_false]
        rw [ifF]
        rw [bsS_f hp] at step
        exact step
      | true =>
        rw [ifT, fc_apart hv hg (isH_lt c2), Option.bind_some]
        by_cases c3 : d < apS (s.1 21 i) g k
        · have hp : viS I (s.1 21 i) g d k = false := by unfold viS; rw [decide_eq_true c3]; simp
          rw [if_pos c3]
          rw [bsS_f hp] at step
          exact step
        · have hp : viS I (s.1 21 i) g d k = true := by unfold viS; rw [decide_eq_false c3, c2, decide_eq_false c1]; rfl
          rw [if_neg c3, bsS_or (by omega) hp]
          exact step
theorem fc_seen {i g : Nat} (hv : VS I (s.1 21 i)) (hg : g < I) : f_State_seenFrom i (nI g) d s = some (nI (bsS (viS I (s.1 21 i) g d) I)) := by
  rw [← bsS_stop (fun k hk => viS_ge k hk) 6 hv.1]
  exact fc_seenL hv hg 6 0 FU (by omega) (lt_FU (by omega))
theorem apS_hd {v : Nat → Int32} {a : Nat} (hv : VS I v) (ha : a < I) (o : Nat) : apS v (hdS v a) o = apS v a o := by
  unfold apS
  rw [(hv.2.1 a ha).2.2]
theorem fm_isNear {a b : Nat} (hv : VS I v) (hr : RS I T B v s) (ha : a < I) (hb : b < I) : f_M_isNear (nI a) (nI b) d s = some (!decide (d < apS v a b)) := by
  unfold f_M_isNear
  rw [fm_farOf hv hr ha hb, Option.bind_some]
  by_cases c : d < apS v a b
  · rw [if_pos c, decide_eq_true c]; rfl
  · rw [if_neg c, decide_eq_false c]; rfl
theorem RS_hd (hv : VS I v) (hr : RS I T B v s) {a : Nat} (ha : a < I) : s.1 82 0 a = nI (hdS v a) := by
  rw [← (hr.1 a ha).2.2.2.1, (hv.2.1 a ha).1]
theorem fm_seesL {a : Nat} (hI : s.1 60 0 28 = nI I) (hv : VS I v) (hr : RS I T B v s) (ha : a < I) : ∀ (m k fu : Nat), k + m = I → m < fu → f_M_sees_L26 fu (nI a) d (nI (bsS (viS I v (hdS v a) d) k)) (nI k) s = some (nI (bsS (viS I v (hdS v a) d) I)) := by
  have h6 := hv.1
  obtain ⟨g1, g2, -⟩ := hv.2.1 a ha
  intro m
  induction m with
  | zero =>
    intro k fu hk hf
    obtain ⟨f, rfl, hf'⟩ := suc_of hf
    show b_M_sees_L26 _ _ _ _ _ _ = _
    unfold b_M_sees_L26
    rw [hI, if_pos (nI_le (by omega) (by omega)), show k = I by omega]
  | succ m ih =>
    intro k fu hk hf
    obtain ⟨f, rfl, hf'⟩ := suc_lt hf
    show b_M_sees_L26 _ _ _ _ _ _ = _
    unfold b_M_sees_L26 f_M_sees_L74 f_M_sees_L75
    have step := ih (k + 1) f (by omega) hf'
    rw [hI, if_neg (nI_ge (by omega) (by omega)), of_1, nI_add, show Int32.ofInt 0 = 0 from of_0, Int32.or_zero, fm_isHead hI hv hr (by omega), Option.bind_some]
    cases c2 : isH I v k with
    | false =>
      have hp : viS I v (hdS v a) d k = false := by unfold viS; rw [c2, Bool.false_and, Bool.and_false]
      rw [ifF]
      rw [bsS_f hp] at step
      exact step
    | true =>
      rw [ifT, ix_nI (n := 6) (k := a) (by omega) (by omega), Option.bind_some, RS_hd hv hr ha]
      by_cases c1 : k = hdS v a
      · have hp : viS I v (hdS v a) d k = false := by unfold viS; rw [decide_eq_true c1]; rfl
        rw [if_pos (by rw [c1])]
        rw [bsS_f hp] at step
        exact step
      · rw [if_neg (fun z => c1 ((nI_eq (by omega) (by omega)).mp z)), fm_isNear hv hr ha (by omega), Option.bind_some]
        by_cases c3 : d < apS v a k
        · have hp : viS I v (hdS v a) d k = false := by unfold viS; rw [apS_hd hv ha, decide_eq_true c3]; simp
          rw [decide_eq_true c3]
          rw [bsS_f hp] at step
          exact (if_pos rfl).trans step
        · have hp : viS I v (hdS v a) d k = true := by unfold viS; rw [apS_hd hv ha, decide_eq_false c3, c2, decide_eq_false c1]; rfl
          rw [decide_eq_false c3, bsS_or (by omega) hp]
          exact (if_neg (by decide)).trans step
theorem q_sees (h : INV I T B R W s) (x y : Int32) : ∃ r, f_D_sees x y s = some r ∧ f_M_sees x y s = some r := by
  have h6 := h.1.2.2.1.1.1
  have hv := h.1.2.2.2.2.1
  unfold f_D_sees f_M_sees
  rw [(v_isle h x).1, (v_isle h x).2, g_D_isWithin_eq, g_M_in_eq]
  cases c1 : inS x 0 (nI I - nI 1) with
  | false => exact ⟨_, by rw [ifF], by rw [ifF]⟩
  | true =>
    cases c2 : inS y (Int32.ofInt 0) (Int32.ofInt 999) with
    | false => exact ⟨_, by rw [ifT, ifF], by rw [ifT, ifF]⟩
    | true =>
      obtain ⟨a, a1, rfl⟩ := inS_nI c1 (by omega)
      obtain ⟨g1, g2, -⟩ := hv.2.1 a a1
      refine ⟨nI (bsS (viS I (s.1 21 0) (hdS (s.1 21 0) a) y) I), ?_, ?_⟩
      · rw [ifT, ifT, fc_headOf hv a1, Option.bind_some, fc_seen hv g2]
        rfl
      · rw [ifT, ifT, show Int32.ofInt 0 = nI 0 from of_0]
        exact fm_seesL h.1.2.2.2.2.2.1.1 hv h.1.2.2.2.2.2.2.2.2 a1 I 0 FU (by omega) (lt_FU (by omega))
/-- every head from k on is near o -/
def alS (I : Nat) (v : Nat → Int32) (o : Nat) (d : Int32) : Nat → Nat → Bool
  | 0, _ => true
  | m + 1, k => (!isH I v k || !decide (d < apS v o k)) && alS I v o d m (k + 1)
theorem alS_ge {v : Nat → Int32} {o : Nat} : ∀ m k, I ≤ k → alS I v o d m k = true := by
  intro m
  induction m with
  | zero => intro k _; rfl
  | succ m ih =>
    intro k hk
    show ((!isH I v k || !decide (d < apS v o k)) && alS I v o d m (k + 1)) = true
    rw [isH_ge hk, ih (k + 1) (by omega)]; rfl
theorem alS_cut {v : Nat → Int32} {o : Nat} : ∀ m k m', k + m = I → m ≤ m' → alS I v o d m' k = alS I v o d m k := by
  intro m
  induction m with
  | zero => intro k m' hk _; rw [alS_ge m' k (by omega)]; rfl
  | succ m ih =>
    intro k m' hk hm
    obtain ⟨m'', rfl⟩ : ∃ j, m' = j + 1 := ⟨m' - 1, by omega⟩
    show ((!isH I v k || !decide (d < apS v o k)) && alS I v o d m'' (k + 1)) = ((!isH I v k || !decide (d < apS v o k)) && alS I v o d m (k + 1))
    rw [ih (k + 1) m'' (by omega) (by omega)]
theorem fc_allL {i o : Nat} (hv : VS I (s.1 21 i)) (ho : o < I) : ∀ (m k fu : Nat), k + m = 6 → m < fu → f_State_isSeenByAll_L2 i fu (nI o) d (nI k) s = some (alS I (s.1 21 i) o d m k) := by
  have h6 := hv.1
  intro m
  induction m with
  | zero =>
    intro k fu hk hf
    obtain ⟨f, rfl, hf'⟩ := suc_of hf
    show b_State_isSeenByAll_L2 _ _ _ _ _ _ = _
    unfold b_State_isSeenByAll_L2
    rw [of_6, if_pos (nI_le (by omega) (by omega))]
    rfl
  | succ m ih =>
    intro k fu hk hf
    obtain ⟨f, rfl, hf'⟩ := suc_lt hf
    show b_State_isSeenByAll_L2 _ _ _ _ _ _ = some ((!isH I (s.1 21 i) k || !decide (d < apS (s.1 21 i) o k)) && alS I (s.1 21 i) o d m (k + 1))
    unfold b_State_isSeenByAll_L2 f_State_isSeenByAll_L28
    rw [of_6, if_neg (nI_ge (by omega) (by omega)), of_1, nI_add, fc_isHead hv (by omega), Option.bind_some]
    cases c2 : isH I (s.1 21 i) k with
    | false =>
      rw [ifF, ih (k + 1) f (by omega) hf']
      rfl
    | true =>
      rw [ifT, fc_apart hv ho (isH_lt c2), Option.bind_some]
      by_cases c3 : d < apS (s.1 21 i) o k
      · rw [if_neg (Int32.not_le.mpr c3), decide_eq_true c3]
        rfl
      · rw [if_pos (Int32.not_lt.mp c3), decide_eq_false c3, ih (k + 1) f (by omega) hf']
        simp
theorem fc_all {i o : Nat} (hv : VS I (s.1 21 i)) (ho : o < I) : f_State_isSeenByAll i (nI o) d s = some (alS I (s.1 21 i) o d I 0) := by
  rw [← alS_cut I 0 6 (by omega) hv.1]
  exact fc_allL hv ho 6 0 FU (by omega) (lt_FU (by omega))
/-- the heads that all see -/
def evS (I : Nat) (v : Nat → Int32) (d : Int32) (o : Nat) : Bool := isH I v o && alS I v o d I 0
theorem evS_ge {v : Nat → Int32} (k : Nat) (h : I ≤ k) : evS I v d k = false := by
  unfold evS
  rw [isH_ge h]; rfl
theorem fc_everyL {i : Nat} (hv : VS I (s.1 21 i)) : ∀ (m k fu : Nat), k + m = 6 → m < fu → f_State_seenByAll_L4 i fu d (nI (bsS (evS I (s.1 21 i) d) k)) (nI k) s = some (nI (bsS (evS I (s.1 21 i) d) 6)) := by
  have h6 := hv.1
  intro m
  induction m with
  | zero =>
    intro k fu hk hf
    obtain ⟨f, rfl, hf'⟩ := suc_of hf
    show b_State_seenByAll_L4 _ _ _ _ _ _ = _
    unfold b_State_seenByAll_L4
    rw [of_6, if_pos (nI_le (by omega) (by omega)), show k = 6 by omega]
  | succ m ih =>
    intro k fu hk hf
    obtain ⟨f, rfl, hf'⟩ := suc_lt hf
    show b_State_seenByAll_L4 _ _ _ _ _ _ = _
    unfold b_State_seenByAll_L4 f_State_seenByAll_L33
    have step := ih (k + 1) f (by omega) hf'
    rw [of_6, if_neg (nI_ge (by omega) (by omega)), of_1, nI_add, fc_isHead hv (by omega), Option.bind_some]
    cases c2 : isH I (s.1 21 i) k with
    | false =>
      have hp : evS I (s.1 21 i) d k = false := by unfold evS; rw [c2]; rfl
      rw [ifF]
      rw [bsS_f hp] at step
      exact step
    | true =>
      rw [ifT, fc_all hv (isH_lt c2), Option.bind_some]
      cases c3 : alS I (s.1 21 i) k d I 0 with
      | false =>
        have hp : evS I (s.1 21 i) d k = false := by unfold evS; rw [c3, Bool.and_false]
        rw [ifF]
        rw [bsS_f hp] at step
        exact step
      | true =>
        have hp : evS I (s.1 21 i) d k = true := by unfold evS; rw [c2, c3]; rfl
        rw [ifT, bsS_or (by omega) hp]
        exact step
theorem fc_every {i : Nat} (hv : VS I (s.1 21 i)) : f_State_seenByAll i d s = some (nI (bsS (evS I (s.1 21 i) d) I)) := by
  rw [← bsS_stop (fun k hk => evS_ge k hk) 6 hv.1]
  unfold f_State_seenByAll
  rw [show Int32.ofInt 0 = nI 0 from of_0]
  exact fc_everyL hv 6 0 FU (by omega) (lt_FU (by omega))
theorem fm_allL {o M : Nat} (hI : s.1 60 0 28 = nI I) (hv : VS I v) (hr : RS I T B v s) (ho : o < I) (k4 : Int32 → Int32 → Int32 → S2 → Option Int32) : ∀ (m k fu : Nat) (b : Bool), k + m = I → m < fu → f_M_fromAll_L22 k4 fu d (nI M) (nI o) (bI b) (nI k) s = (if (b && alS I v o d m k) = true then k4 d (nI M ||| (nI 1 <<< (nI o &&& 31))) (nI (o + 1)) s else k4 d (nI M) (nI (o + 1)) s) := by
  have h6 := hv.1
  intro m
  induction m with
  | zero =>
    intro k fu b hk hf
    obtain ⟨f, rfl, hf'⟩ := suc_of hf
    show b_M_fromAll_L22 _ _ _ _ _ _ _ _ = _
    unfold b_M_fromAll_L22 f_M_fromAll_L82
    rw [hI, if_pos (nI_le (by omega) (by omega)), show Int32.ofInt 0 = 0 from of_0, Int32.or_zero, of_1, nI_add]
    cases b <;> rfl
  | succ m ih =>
    intro k fu b hk hf
    obtain ⟨f, rfl, hf'⟩ := suc_lt hf
    show b_M_fromAll_L22 _ _ _ _ _ _ _ _ = (if (b && ((!isH I v k || !decide (d < apS v o k)) && alS I v o d m (k + 1))) = true then _ else _)
    unfold b_M_fromAll_L22 f_M_fromAll_L60 f_M_fromAll_L56 f_M_fromAll_L61
    have s0 := ih (k + 1) f false (by omega) hf'
    have s1 := ih (k + 1) f true (by omega) hf'
    rw [show bI false = Int32.ofInt 0 from rfl] at s0
    rw [show bI true = nI 1 from rfl] at s1
    rw [hI, if_neg (nI_ge (by omega) (by omega)), of_1, nI_add]
    cases b with
    | false =>
      rw [ifF, s0]
      rfl
    | true =>
      rw [ifT, fm_isHead hI hv hr (by omega), Option.bind_some]
      cases c2 : isH I v k with
      | false =>
        rw [ifF, s1]
        rfl
      | true =>
        rw [ifT, fm_isNear hv hr ho (by omega), Option.bind_some]
        by_cases c3 : d < apS v o k
        · rw [decide_eq_true c3]
          exact (if_pos rfl).trans s0
        · rw [decide_eq_false c3]
          refine (if_neg (by decide)).trans (s1.trans ?_)
          simp
theorem fm_everyL (hI : s.1 60 0 28 = nI I) (hv : VS I v) (hr : RS I T B v s) : ∀ (m k fu : Nat), k + m = I → m < fu → f_M_fromAll_L4 fu d (nI (bsS (evS I v d) k)) (nI k) s = some (nI (bsS (evS I v d) I)) := by
  have h6 := hv.1
  intro m
  induction m with
  | zero =>
    intro k fu hk hf
    obtain ⟨f, rfl, hf'⟩ := suc_of hf
    show b_M_fromAll_L4 _ _ _ _ _ = _
    unfold b_M_fromAll_L4
    rw [hI, if_pos (nI_le (by omega) (by omega)), show k = I by omega]
  | succ m ih =>
    intro k fu hk hf
    obtain ⟨f, rfl, hf'⟩ := suc_lt hf
    show b_M_fromAll_L4 _ _ _ _ _ = _
    unfold b_M_fromAll_L4
    have step := ih (k + 1) f (by omega) hf'
    rw [hI, if_neg (nI_ge (by omega) (by omega)), fm_isHead hI hv hr (by omega), Option.bind_some, show Int32.ofInt 0 = nI 0 from of_0, fm_allL hI hv hr (by omega) (f_M_fromAll_L4 f) I 0 FU _ (by omega) (lt_FU (by omega))]
    cases c : evS I v d k with
    | false =>
      rw [show (isH I v k && alS I v k d I 0) = false from c]
      rw [bsS_f c] at step
      exact step
    | true =>
      rw [show (isH I v k && alS I v k d I 0) = true from c, bsS_or (by omega) c]
      exact step
theorem fm_every (hI : s.1 60 0 28 = nI I) (hv : VS I v) (hr : RS I T B v s) : f_M_fromAll d s = some (nI (bsS (evS I v d) I)) := by
  have h6 := hv.1
  unfold f_M_fromAll
  rw [show Int32.ofInt 0 = nI 0 from of_0]
  exact fm_everyL hI hv hr I 0 FU (by omega) (lt_FU (by omega))
theorem q_everywhere (h : INV I T B R W s) (x : Int32) : ∃ r, f_D_everywhere x s = some r ∧ f_M_everywhere x s = some r := by
  have h6 := h.1.2.2.1.1.1
  unfold f_D_everywhere f_M_everywhere
  rw [v_hasSea h, h.1.2.2.2.2.2.1.1, g_D_isWithin_eq, g_M_in_eq]
  by_cases c1 : I = 0
  · rw [decide_eq_false (fun z => z c1), c1]
    exact ⟨_, by rw [ifF], by rw [nI_0, if_pos (by decide)]⟩
  · rw [decide_eq_true c1]
    cases c2 : inS x (Int32.ofInt 0) (Int32.ofInt 999) with
    | false => exact ⟨_, by rw [ifT, ifF], by rw [if_neg (nI_nle (by omega) (by omega)), ifF]⟩
    | true =>
      refine ⟨nI (bsS (evS I (s.1 21 0) x) I), ?_, ?_⟩
      · rw [ifT, ifT, fc_every h.1.2.2.2.2.1]
        rfl
      · rw [if_neg (nI_nle (by omega) (by omega)), ifT, fm_every h.1.2.2.2.2.2.1.1 h.1.2.2.2.2.1 h.1.2.2.2.2.2.2.2.2]
        rfl
end
