/-! ===== the tape, as both sides read it ===== -/
section
variable {s s0 : S2} {tp : Nat → Nat} {n : Nat}
/-- behind blanks -/
def skB (tp : Nat → Nat) : Nat → Nat → Nat
  | 0, i => i
  | m + 1, i => if tp i = 32 then skB tp m (i + 1) else i
def skN (tp : Nat → Nat) (n i : Nat) : Nat := skB tp (n - i) i
theorem skB_le : ∀ m i, i ≤ skB tp m i ∧ skB tp m i ≤ i + m := by
  intro m
  induction m with
  | zero => intro i; exact ⟨Nat.le_refl _, Nat.le_refl _⟩
  | succ m ih =>
    intro i
    unfold skB
    split
    · have := ih (i + 1); omega
    · omega
theorem skN_le {i : Nat} (h : i ≤ n) : i ≤ skN tp n i ∧ skN tp n i ≤ n := by
  have := skB_le (tp := tp) (n - i) i
  unfold skN
  omega
theorem skB_ne : ∀ m i, skB tp m i < i + m → ¬ tp (skB tp m i) = 32 := by
  intro m
  induction m with
  | zero => intro i h; exact absurd h (by show ¬ i < i + 0; omega)
  | succ m ih =>
    intro i h
    unfold skB at h ⊢
    by_cases c : tp i = 32
    · rw [if_pos c] at h ⊢
      exact ih (i + 1) (by omega)
    · rw [if_neg c] at h ⊢
      exact c
theorem skN_ne {i : Nat} (h : i ≤ n) (hl : skN tp n i < n) : ¬ tp (skN tp n i) = 32 := skB_ne (n - i) i (by unfold skN at hl; omega)
theorem skN_id {i : Nat} (h : i < n → ¬ tp i = 32) : skN tp n i = i := by
  unfold skN
  by_cases c : i < n
  · rw [show n - i = (n - i - 1) + 1 by omega]
    unfold skB
    rw [if_neg (h c)]
  · rw [show n - i = 0 by omega]
    rfl
/-- the sign at a place; 0 behind the end -/
def chN (tp : Nat → Nat) (n i : Nat) : Nat := if i < n then tp i else 0
def dgN (tp : Nat → Nat) (n i : Nat) : Bool := decide (i < n) && (decide (48 ≤ tp i) && decide (tp i ≤ 57))
def TOK (n : Nat) (tp : Nat → Nat) : Prop := n ≤ 240 ∧ ∀ k, k < n → 0 < tp k ∧ tp k < 256
def TPc (n : Nat) (tp : Nat → Nat) (s : S2) : Prop := s.1 11 0 1 = nI n ∧ ∀ k, k < n → s.1 12 0 k = nI (tp k)
def TPm (n : Nat) (tp : Nat → Nat) (s : S2) : Prop := s.1 60 0 2 = nI n ∧ ∀ k, k < n → s.1 61 0 k = nI (tp k)
/-- a state whose tape is read from a place on -/
def tA (s : S2) (i : Nat) : S2 := pkS s 11 0 2 (nI i)
def mA (s : S2) (i : Nat) : S2 := pkS s 60 0 3 (nI i)
theorem pk_pk (s : S2) (c i k : Nat) (x y : Int32) : pkS (pkS s c i k x) c i k y = pkS s c i k y := by
  refine Prod.ext (funext fun c' => funext fun i' => funext fun k' => ?_) rfl
  rw [pkS_v, pkS_v, pkS_v]
  by_cases e : c' = c ∧ i' = i ∧ k' = k
  · rw [if_pos e, if_pos e]
  · rw [if_neg e, if_neg e, if_neg e]
theorem pk_cm (s : S2) {c i k c2 i2 k2 : Nat} (x y : Int32) (h : ¬ (c = c2 ∧ i = i2 ∧ k = k2)) : pkS (pkS s c i k x) c2 i2 k2 y = pkS (pkS s c2 i2 k2 y) c i k x := by
  refine Prod.ext (funext fun c' => funext fun i' => funext fun k' => ?_) rfl
  rw [pkS_v, pkS_v, pkS_v, pkS_v]
  by_cases e : c' = c ∧ i' = i ∧ k' = k
  · rw [if_neg (fun z => h ⟨e.1.symm.trans z.1, e.2.1.symm.trans z.2.1, e.2.2.symm.trans z.2.2⟩), if_pos e, if_pos e]
  · rw [if_neg e]
    by_cases e2 : c' = c2 ∧ i' = i2 ∧ k' = k2
    · rw [if_pos e2, if_neg e]
    · rw [if_neg e2, if_neg e]
theorem tA_at (s : S2) (i : Nat) : (tA s i).1 11 0 2 = nI i := by unfold tA; rw [pkS_v, if_pos ⟨rfl, rfl, rfl⟩]
theorem mA_at (s : S2) (i : Nat) : (mA s i).1 60 0 3 = nI i := by unfold mA; rw [pkS_v, if_pos ⟨rfl, rfl, rfl⟩]
theorem tA_o {c i k j : Nat} (h : ¬ (c = 11 ∧ k = 2)) : (tA s j).1 c i k = s.1 c i k := by unfold tA; rw [pkS_v, if_neg (by omega)]
theorem mA_o {c i k j : Nat} (h : ¬ (c = 60 ∧ k = 3)) : (mA s j).1 c i k = s.1 c i k := by unfold mA; rw [pkS_v, if_neg (by omega)]
theorem tA_tA (s : S2) (i j : Nat) : tA (tA s i) j = tA s j := pk_pk _ _ _ _ _ _
theorem mA_mA (s : S2) (i j : Nat) : mA (mA s i) j = mA s j := pk_pk _ _ _ _ _ _
theorem fc_lookL (ht : TOK n tp) (hp : TPc n tp s) : ∀ (m i fu : Nat), i + m = n → m < fu → f_Tape_look_L0 fu (tA s i) = some (tA s (skB tp m i), nI (chN tp n (skB tp m i))) := by
  intro m
  induction m with
  | zero =>
    intro i fu hi hf
    obtain ⟨g, rfl, -⟩ := suc_of hf
    show b_Tape_look_L0 _ _ = _
    unfold b_Tape_look_L0 f_Tape_look_L38
    rw [tA_at, tA_o (by omega), hp.1, if_pos (nI_le (by omega) (by have := ht.1; omega)), if_pos (nI_le (by omega) (by have := ht.1; omega)), show skB tp 0 i = i from rfl, of_0]
    unfold chN
    rw [if_neg (by omega)]
    rfl
  | succ m ih =>
    intro i fu hi hf
    obtain ⟨g, rfl, hg⟩ := suc_lt hf
    have h240 := ht.1
    obtain ⟨t1, t2⟩ := ht.2 i (by omega)
    show b_Tape_look_L0 _ _ = _
    unfold b_Tape_look_L0 f_Tape_look_L38
    rw [tA_at, tA_o (by omega), hp.1, if_neg (nI_ge (by omega) (by omega)), ix_nI (n := 240) (k := i) (by omega) (by omega), Option.bind_some, tA_o (by omega), hp.2 i (by omega), of_32, of_1, nI_add, Option.bind_some]
    unfold skB
    by_cases c : tp i = 32
    · rw [if_pos (by rw [c]), if_pos c]
      have := ih (i + 1) g (by omega) hg
      rw [show pkS (tA s i) 11 0 2 (nI (i + 1)) = tA s (i + 1) from tA_tA s i (i + 1)]
      exact this
    · rw [if_neg (fun z => c ((nI_eq (by omega) (by omega)).mp z)), if_neg c, if_neg (nI_ge (by omega) (by omega)), Option.bind_some]
      unfold chN
      rw [if_pos (by omega), tA_o (by omega), hp.2 i (by omega)]
theorem fc_look (ht : TOK n tp) (hp : TPc n tp s) {i : Nat} (hi : i ≤ n) : f_Tape_look (tA s i) = some (tA s (skN tp n i), nI (chN tp n (skN tp n i))) := fc_lookL ht hp (n - i) i FU (by omega) (lt_FU (by have := ht.1; omega))
theorem fc_digit (ht : TOK n tp) (hp : TPc n tp s) {i : Nat} (hi : i ≤ n) : f_Tape_isDigitHere (tA s i) = some (dgN tp n i) := by
  have h240 := ht.1
  unfold f_Tape_isDigitHere dgN
  rw [tA_at, tA_o (by omega), hp.1]
  by_cases c : i < n
  · obtain ⟨t1, t2⟩ := ht.2 i c
    rw [if_neg (nI_ge c (by omega)), ix_nI (n := 240) (k := i) (by omega) (by omega), Option.bind_some, Option.bind_some, tA_o (by omega), hp.2 i c, of_48, of_57, decide_eq_true c, Bool.true_and]
    by_cases d : tp i < 48
    · rw [if_pos (nI_lt d (by omega)), decide_eq_false (show ¬ 48 ≤ tp i by omega)]
      rfl
    · rw [if_neg (nI_nlt (by omega) (by omega)), decide_eq_true (show 48 ≤ tp i by omega), Bool.true_and]
      by_cases e : 57 < tp i
      · rw [if_pos (nI_lt e (by omega)), decide_eq_false (show ¬ tp i ≤ 57 by omega)]
      · rw [if_neg (nI_nlt (by omega) (by omega)), decide_eq_true (show tp i ≤ 57 by omega)]
  · rw [if_pos (nI_le (by omega) (by omega)), decide_eq_false c]
    rfl
theorem fc_pass1 {i : Nat} : f_Tape_pass (tA s i) = some (tA s (i + 1)) := by
  unfold f_Tape_pass
  rw [tA_at, of_1, nI_add, Option.bind_some]
  exact congrArg some (tA_tA s i (i + 1))
theorem fc_takes (ht : TOK n tp) (hp : TPc n tp s) {i c : Nat} (hi : i ≤ n) (hc : c < 256) : f_Tape_takes (nI c) (tA s i) = some (if chN tp n (skN tp n i) = c then (tA s (skN tp n i + 1), true) else (tA s (skN tp n i), false)) := by
  have hch : chN tp n (skN tp n i) < 256 := by
    unfold chN
    split
    · rename_i h; exact (ht.2 _ h).2
    · omega
  unfold f_Tape_takes
  rw [fc_look ht hp hi, Option.bind_some]
  by_cases e : chN tp n (skN tp n i) = c
  · rw [if_pos e, if_pos (by rw [e]), Option.bind_some, tA_at, of_1, nI_add]
    exact congrArg (fun z => some (z, true)) (tA_tA s _ _)
  · rw [if_neg e, if_neg (fun z => e ((nI_eq (by omega) (by omega)).mp z))]
/-- digits, so many at most -/
def dgS (tp : Nat → Nat) (n : Nat) : Nat → Nat → Nat → Nat × Nat
  | 0, v, i => (v, i)
  | m + 1, v, i => if dgN tp n i then dgS tp n m (10 * v + tp i - 48) (i + 1) else (v, i)
theorem dgN_at {i : Nat} (h : dgN tp n i = true) : i < n ∧ 48 ≤ tp i ∧ tp i ≤ 57 := by
  unfold dgN at h
  simp only [Bool.and_eq_true, decide_eq_true_eq] at h
  exact h
theorem dgS_le : ∀ m v i, i ≤ n → i ≤ (dgS tp n m v i).2 ∧ (dgS tp n m v i).2 ≤ n ∧ (dgS tp n m v i).1 < (v + 1) * 10 ^ m := by
  intro m
  induction m with
  | zero => intro v i h; exact ⟨Nat.le_refl _, h, by show v < (v + 1) * 1; omega⟩
  | succ m ih =>
    intro v i h
    unfold dgS
    cases c : dgN tp n i with
    | true =>
      obtain ⟨c1, c2, c3⟩ := dgN_at c
      rw [if_pos rfl]
      obtain ⟨g1, g2, g3⟩ := ih (10 * v + tp i - 48) (i + 1) (by omega)
      refine ⟨by omega, g2, Nat.lt_of_lt_of_le g3 ?_⟩
      rw [Nat.pow_succ, Nat.mul_comm (10 ^ m) 10, ← Nat.mul_assoc]
      exact Nat.mul_le_mul_right _ (by omega)
    | false =>
      rw [if_neg (by decide)]
      refine ⟨Nat.le_refl _, h, ?_⟩
      have : 0 < 10 ^ (m + 1) := Nat.pow_pos (by omega)
      exact Nat.lt_of_lt_of_le (Nat.lt_succ_self v) (Nat.le_mul_of_pos_right _ this)
theorem fc_numL (ht : TOK n tp) (hp : TPc n tp s) {M : Nat} (hM : M < 100) : ∀ (m k v i fu : Nat), k + m = M → m < fu → i ≤ n → f_Tape_readNumber_L18 fu (nI M) (nI v) (nI k) (tA s i) = some (tA s (dgS tp n m v i).2, if dgN tp n (dgS tp n m v i).2 then -1 else nI (dgS tp n m v i).1) := by
  have h240 := ht.1
  have fin : ∀ v i, i ≤ n → f_Tape_readNumber_L64 (nI v) (tA s i) = some (tA s i, if dgN tp n i then -1 else nI v) := fun v i hi => by
    unfold f_Tape_readNumber_L64
    rw [fc_digit ht hp hi, Option.bind_some, of_m1]
    cases dgN tp n i <;> rfl
  intro m
  induction m with
  | zero =>
    intro k v i fu hk hf hi
    obtain ⟨g, rfl, -⟩ := suc_of hf
    show b_Tape_readNumber_L18 _ _ _ _ _ = _
    unfold b_Tape_readNumber_L18
    rw [if_pos (nI_le (by omega) (by omega))]
    exact fin v i hi
  | succ m ih =>
    intro k v i fu hk hf hi
    obtain ⟨g, rfl, hg⟩ := suc_lt hf
    show b_Tape_readNumber_L18 _ _ _ _ _ = _
    unfold b_Tape_readNumber_L18
    rw [if_neg (nI_ge (by omega) (by omega)), fc_digit ht hp hi, Option.bind_some]
    unfold dgS
    cases c : dgN tp n i with
    | false =>
      rw [ifF, if_neg (by decide)]
      exact fin v i hi
    | true =>
      obtain ⟨c1, c2, c3⟩ := dgN_at c
      rw [ifT, if_pos rfl, tA_at, ix_nI (n := 240) (k := i) (by omega) (by omega), Option.bind_some, of_1, nI_add, Option.bind_some]
      rw [show pkS (tA s i) 11 0 2 (nI (i + 1)) = tA s (i + 1) from tA_tA s i (i + 1), tA_o (by omega), hp.2 i c1, of_10, mul_nI, nI_add, of_48, sub_nI (by omega), nI_add, show v * 10 + tp i - 48 = 10 * v + tp i - 48 by omega]
      exact ih (k + 1) _ (i + 1) g (by omega) hg (by omega)
/-- a number of at most so many digits -/
def nuG (tp : Nat → Nat) (n M i : Nat) : Nat ⊕ (Nat × Nat) :=
  if dgN tp n (skN tp n i) then (if dgN tp n (dgS tp n M 0 (skN tp n i)).2 then Sum.inl (dgS tp n M 0 (skN tp n i)).2 else Sum.inr (dgS tp n M 0 (skN tp n i))) else Sum.inl (skN tp n i)
theorem fc_num (ht : TOK n tp) (hp : TPc n tp s) {M i : Nat} (hM : M < 100) (hi : i ≤ n) : f_Tape_readNumber (nI M) (tA s i) = some (match nuG tp n M i with
    | Sum.inl q => (tA s q, -1)
    | Sum.inr q => (tA s q.2, nI q.1)) := by
  have hk := skN_le (tp := tp) hi
  unfold f_Tape_readNumber nuG
  rw [fc_look ht hp hi, Option.bind_some, fc_digit ht hp hk.2, Option.bind_some]
  cases c : dgN tp n (skN tp n i) with
  | false => rw [ifF, if_neg (by decide), of_m1]
  | true =>
    have := fc_numL ht hp hM M 0 0 (skN tp n i) FU (by omega) (lt_FU (by omega)) hk.2
    rw [ifT, if_pos rfl, show Int32.ofInt 0 = nI 0 from of_0, this]
    cases d : dgN tp n (dgS tp n M 0 (skN tp n i)).2 with
    | true => rfl
    | false => rfl
/-- the reference's tape -/
def hmN (tp : Nat → Nat) (n i : Nat) : Int32 := if i < n then nI (tp i) else -1
theorem fm_here (ht : TOK n tp) (hp : TPm n tp s) {i : Nat} (hi : i ≤ n) : f_M_here (mA s i) = some (hmN tp n i) := by
  have h240 := ht.1
  unfold f_M_here hmN
  rw [mA_at, mA_o (by omega), hp.1]
  by_cases c : i < n
  · rw [if_neg (nI_ge c (by omega)), if_pos c, ix_nI (n := 240) (k := i) (by omega) (by omega), Option.bind_some, mA_o (by omega), hp.2 i c]
  · rw [if_pos (nI_le (by omega) (by omega)), if_neg c, of_m1]
theorem fm_lkL (ht : TOK n tp) (hp : TPm n tp s) : ∀ (m i fu : Nat), i + m = n → m < fu → f_M_look_L0 fu (mA s i) = some (mA s (skB tp m i), hmN tp n (skB tp m i)) := by
  intro m
  induction m with
  | zero =>
    intro i fu hi hf
    obtain ⟨g, rfl, -⟩ := suc_of hf
    show b_M_look_L0 _ _ = _
    unfold b_M_look_L0
    have e : hmN tp n i = -1 := if_neg (by omega)
    rw [fm_here ht hp (by omega), Option.bind_some, e, if_neg (by decide), Option.bind_some, show skB tp 0 i = i from rfl, e]
  | succ m ih =>
    intro i fu hi hf
    obtain ⟨g, rfl, hg⟩ := suc_lt hf
    obtain ⟨t1, t2⟩ := ht.2 i (by omega)
    have e : hmN tp n i = nI (tp i) := if_pos (by omega)
    show b_M_look_L0 _ _ = _
    unfold b_M_look_L0
    rw [fm_here ht hp (by omega), Option.bind_some, e, of_32, mA_at, of_1, nI_add, Option.bind_some, Option.bind_some]
    unfold skB
    by_cases c : tp i = 32
    · rw [if_pos (by rw [c]), if_pos c]
      rw [show pkS (mA s i) 60 0 3 (nI (i + 1)) = mA s (i + 1) from mA_mA s i (i + 1)]
      exact ih (i + 1) g (by omega) hg
    · rw [if_neg (fun z => c ((nI_eq (by omega) (by omega)).mp z)), if_neg c, e]
theorem fm_look (ht : TOK n tp) (hp : TPm n tp s) {i : Nat} (hi : i ≤ n) : f_M_look (mA s i) = some (mA s (skN tp n i), hmN tp n (skN tp n i)) := fm_lkL ht hp (n - i) i FU (by omega) (lt_FU (by have := ht.1; omega))
theorem hm_is (ht : TOK n tp) {i c : Nat} (h0 : 0 < c) (hc : c < 256) : (hmN tp n i = nI c) = (chN tp n i = c) := by
  unfold hmN chN
  by_cases d : i < n
  · rw [if_pos d, if_pos d]
    obtain ⟨t1, t2⟩ := ht.2 i d
    exact propext (nI_eq (by omega) (by omega))
  · rw [if_neg d, if_neg d]
    apply propext
    constructor
    · intro z
      exact absurd z.symm (cdO_nm1 c (by omega))
    · intro z; omega
theorem hm_end (ht : TOK n tp) {i : Nat} : (hmN tp n i = -1) = (chN tp n i = 0) := by
  unfold hmN chN
  by_cases d : i < n
  · rw [if_pos d, if_pos d]
    obtain ⟨t1, t2⟩ := ht.2 i d
    apply propext
    constructor
    · intro z; exact absurd z (cdO_nm1 _ (by omega))
    · intro z; omega
  · rw [if_neg d, if_neg d]
    exact propext ⟨fun _ => rfl, fun _ => rfl⟩
theorem fm_digit (ht : TOK n tp) {i : Nat} : g_M_isDigit (hmN tp n i) s = dgN tp n i := by
  unfold g_M_isDigit dgN hmN
  by_cases d : i < n
  · obtain ⟨t1, t2⟩ := ht.2 i d
    rw [if_pos d, decide_eq_true d, Bool.true_and, of_48, of_57]
    by_cases d1 : tp i < 48
    · rw [if_pos (nI_lt d1 (by omega)), decide_eq_false (show ¬ 48 ≤ tp i by omega)]
      rfl
    · rw [if_neg (nI_nlt (by omega) (by omega)), decide_eq_true (show 48 ≤ tp i by omega), Bool.true_and]
      by_cases e : 57 < tp i
      · rw [if_pos (nI_lt e (by omega)), decide_eq_false (show ¬ tp i ≤ 57 by omega)]
      · rw [if_neg (nI_nlt (by omega) (by omega)), decide_eq_true (show tp i ≤ 57 by omega)]
  · rw [if_neg d, decide_eq_false d, if_pos (by decide)]
    rfl
/-- something is wrong from now on, at the place told first -/
def bad4 (s : S2) (i : Nat) : S2 := pkS (mA s i) 60 0 4 (nI i)
theorem fm_bad {i : Nat} (h : s.1 60 0 4 = -1) : f_M_bad (mA s i) = some (pkS (mA s i) 60 0 4 (nI i)) := by
  unfold f_M_bad f_M_bad_L20
  rw [mA_o (by omega), h, of_m1, if_pos rfl, mA_at, Option.bind_some]
theorem fm_badN {i p : Nat} (h : s.1 60 0 4 = nI p) (hp : p < 1000) : f_M_bad (mA s i) = some (mA s i) := by
  unfold f_M_bad f_M_bad_L20
  rw [mA_o (by omega), h, of_m1, if_neg (show ¬ nI p = -1 from cdO_nm1 p (by omega)), Option.bind_some, pkS_self]
  rw [mA_o (by omega)]
  exact h
/-- the tape of both sides between calls -/
theorem tape_of (h : iTape s) : ∃ n tp, TOK n tp ∧ TPc n tp s ∧ TPm n tp s := by
  obtain ⟨n, n1, n2, n3, n4⟩ := h
  refine ⟨n, fun k => (s.1 61 0 k).toNatClampNeg, ⟨n1, fun k hk => ?_⟩, ⟨n2, fun k hk => ?_⟩, ⟨n3, fun k hk => ?_⟩⟩
  · obtain ⟨-, b, b1, b2, b3⟩ := n4 k hk
    show 0 < (s.1 61 0 k).toNatClampNeg ∧ (s.1 61 0 k).toNatClampNeg < 256
    rw [b3, nI_clamp (by omega)]
    exact ⟨b1, b2⟩
  · obtain ⟨e, b, b1, b2, b3⟩ := n4 k hk
    show s.1 12 0 k = nI (s.1 61 0 k).toNatClampNeg
    rw [e, b3, nI_clamp (by omega)]
  · obtain ⟨-, b, b1, b2, b3⟩ := n4 k hk
    show s.1 61 0 k = nI (s.1 61 0 k).toNatClampNeg
    rw [b3, nI_clamp (by omega)]
end
