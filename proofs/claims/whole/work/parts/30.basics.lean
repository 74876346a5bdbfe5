/-! ===== words for the proofs over the functions ===== -/
theorem of_0 : Int32.ofInt 0 = 0 := of_decide_eq_true rfl
theorem of_1 : Int32.ofInt 1 = nI 1 := of_decide_eq_true rfl
theorem of_2 : Int32.ofInt 2 = nI 2 := of_decide_eq_true rfl
theorem of_3 : Int32.ofInt 3 = nI 3 := of_decide_eq_true rfl
theorem of_4 : Int32.ofInt 4 = nI 4 := of_decide_eq_true rfl
theorem of_5 : Int32.ofInt 5 = nI 5 := of_decide_eq_true rfl
theorem of_6 : Int32.ofInt 6 = nI 6 := of_decide_eq_true rfl
theorem of_7 : Int32.ofInt 7 = nI 7 := of_decide_eq_true rfl
theorem of_8 : Int32.ofInt 8 = nI 8 := of_decide_eq_true rfl
theorem of_9 : Int32.ofInt 9 = nI 9 := of_decide_eq_true rfl
theorem of_10 : Int32.ofInt 10 = nI 10 := of_decide_eq_true rfl
theorem of_11 : Int32.ofInt 11 = nI 11 := of_decide_eq_true rfl
theorem of_12 : Int32.ofInt 12 = nI 12 := of_decide_eq_true rfl
theorem of_13 : Int32.ofInt 13 = nI 13 := of_decide_eq_true rfl
theorem of_14 : Int32.ofInt 14 = nI 14 := of_decide_eq_true rfl
theorem of_15 : Int32.ofInt 15 = nI 15 := of_decide_eq_true rfl
theorem of_16 : Int32.ofInt 16 = nI 16 := of_decide_eq_true rfl
theorem of_18 : Int32.ofInt 18 = nI 18 := of_decide_eq_true rfl
theorem of_19 : Int32.ofInt 19 = nI 19 := of_decide_eq_true rfl
theorem of_20 : Int32.ofInt 20 = nI 20 := of_decide_eq_true rfl
theorem of_24 : Int32.ofInt 24 = nI 24 := of_decide_eq_true rfl
theorem of_30 : Int32.ofInt 30 = nI 30 := of_decide_eq_true rfl
theorem of_32 : Int32.ofInt 32 = nI 32 := of_decide_eq_true rfl
theorem of_33 : Int32.ofInt 33 = nI 33 := of_decide_eq_true rfl
theorem of_36 : Int32.ofInt 36 = nI 36 := of_decide_eq_true rfl
theorem of_38 : Int32.ofInt 38 = nI 38 := of_decide_eq_true rfl
theorem of_39 : Int32.ofInt 39 = nI 39 := of_decide_eq_true rfl
theorem of_40 : Int32.ofInt 40 = nI 40 := of_decide_eq_true rfl
theorem of_41 : Int32.ofInt 41 = nI 41 := of_decide_eq_true rfl
theorem of_42 : Int32.ofInt 42 = nI 42 := of_decide_eq_true rfl
theorem of_43 : Int32.ofInt 43 = nI 43 := of_decide_eq_true rfl
theorem of_44 : Int32.ofInt 44 = nI 44 := of_decide_eq_true rfl
theorem of_45 : Int32.ofInt 45 = nI 45 := of_decide_eq_true rfl
theorem of_46 : Int32.ofInt 46 = nI 46 := of_decide_eq_true rfl
theorem of_47 : Int32.ofInt 47 = nI 47 := of_decide_eq_true rfl
theorem of_48 : Int32.ofInt 48 = nI 48 := of_decide_eq_true rfl
theorem of_49 : Int32.ofInt 49 = nI 49 := of_decide_eq_true rfl
theorem of_50 : Int32.ofInt 50 = nI 50 := of_decide_eq_true rfl
theorem of_51 : Int32.ofInt 51 = nI 51 := of_decide_eq_true rfl
theorem of_52 : Int32.ofInt 52 = nI 52 := of_decide_eq_true rfl
theorem of_53 : Int32.ofInt 53 = nI 53 := of_decide_eq_true rfl
theorem of_54 : Int32.ofInt 54 = nI 54 := of_decide_eq_true rfl
theorem of_55 : Int32.ofInt 55 = nI 55 := of_decide_eq_true rfl
theorem of_56 : Int32.ofInt 56 = nI 56 := of_decide_eq_true rfl
theorem of_57 : Int32.ofInt 57 = nI 57 := of_decide_eq_true rfl
theorem of_58 : Int32.ofInt 58 = nI 58 := of_decide_eq_true rfl
theorem of_59 : Int32.ofInt 59 = nI 59 := of_decide_eq_true rfl
theorem of_60 : Int32.ofInt 60 = nI 60 := of_decide_eq_true rfl
theorem of_61 : Int32.ofInt 61 = nI 61 := of_decide_eq_true rfl
theorem of_62 : Int32.ofInt 62 = nI 62 := of_decide_eq_true rfl
theorem of_63 : Int32.ofInt 63 = nI 63 := of_decide_eq_true rfl
theorem of_91 : Int32.ofInt 91 = nI 91 := of_decide_eq_true rfl
theorem of_93 : Int32.ofInt 93 = nI 93 := of_decide_eq_true rfl
theorem of_97 : Int32.ofInt 97 = nI 97 := of_decide_eq_true rfl
theorem of_98 : Int32.ofInt 98 = nI 98 := of_decide_eq_true rfl
theorem of_99 : Int32.ofInt 99 = nI 99 := of_decide_eq_true rfl
theorem of_100 : Int32.ofInt 100 = nI 100 := of_decide_eq_true rfl
theorem of_102 : Int32.ofInt 102 = nI 102 := of_decide_eq_true rfl
theorem of_103 : Int32.ofInt 103 = nI 103 := of_decide_eq_true rfl
theorem of_104 : Int32.ofInt 104 = nI 104 := of_decide_eq_true rfl
theorem of_105 : Int32.ofInt 105 = nI 105 := of_decide_eq_true rfl
theorem of_106 : Int32.ofInt 106 = nI 106 := of_decide_eq_true rfl
theorem of_107 : Int32.ofInt 107 = nI 107 := of_decide_eq_true rfl
theorem of_108 : Int32.ofInt 108 = nI 108 := of_decide_eq_true rfl
theorem of_109 : Int32.ofInt 109 = nI 109 := of_decide_eq_true rfl
theorem of_110 : Int32.ofInt 110 = nI 110 := of_decide_eq_true rfl
theorem of_112 : Int32.ofInt 112 = nI 112 := of_decide_eq_true rfl
theorem of_113 : Int32.ofInt 113 = nI 113 := of_decide_eq_true rfl
theorem of_114 : Int32.ofInt 114 = nI 114 := of_decide_eq_true rfl
theorem of_115 : Int32.ofInt 115 = nI 115 := of_decide_eq_true rfl
theorem of_116 : Int32.ofInt 116 = nI 116 := of_decide_eq_true rfl
theorem of_119 : Int32.ofInt 119 = nI 119 := of_decide_eq_true rfl
theorem of_120 : Int32.ofInt 120 = nI 120 := of_decide_eq_true rfl
theorem of_121 : Int32.ofInt 121 = nI 121 := of_decide_eq_true rfl
theorem of_124 : Int32.ofInt 124 = nI 124 := of_decide_eq_true rfl
theorem of_140 : Int32.ofInt 140 = nI 140 := of_decide_eq_true rfl
theorem of_180 : Int32.ofInt 180 = nI 180 := of_decide_eq_true rfl
theorem of_240 : Int32.ofInt 240 = nI 240 := of_decide_eq_true rfl
theorem of_255 : Int32.ofInt 255 = nI 255 := of_decide_eq_true rfl
theorem of_256 : Int32.ofInt 256 = nI 256 := of_decide_eq_true rfl
theorem of_520 : Int32.ofInt 520 = nI 520 := of_decide_eq_true rfl
theorem of_576 : Int32.ofInt 576 = nI 576 := of_decide_eq_true rfl
theorem of_999 : Int32.ofInt 999 = nI 999 := of_decide_eq_true rfl
theorem of_1000 : Int32.ofInt 1000 = nI 1000 := of_decide_eq_true rfl
theorem of_1380 : Int32.ofInt 1380 = nI 1380 := of_decide_eq_true rfl
theorem of_65536 : Int32.ofInt 65536 = nI 65536 := of_decide_eq_true rfl
theorem of_252645135 : Int32.ofInt 252645135 = nI 252645135 := of_decide_eq_true rfl
theorem of_858993459 : Int32.ofInt 858993459 = nI 858993459 := of_decide_eq_true rfl
theorem of_1431655765 : Int32.ofInt 1431655765 = nI 1431655765 := of_decide_eq_true rfl
theorem of_m1000000 : Int32.ofInt (-1000000) = -1000000 := of_decide_eq_true rfl
theorem of_m999 : Int32.ofInt (-999) = -999 := of_decide_eq_true rfl
theorem of_m99 : Int32.ofInt (-99) = -99 := of_decide_eq_true rfl
theorem of_m8 : Int32.ofInt (-8) = -8 := of_decide_eq_true rfl
theorem of_m2 : Int32.ofInt (-2) = -2 := of_decide_eq_true rfl
theorem of_m1 : Int32.ofInt (-1) = -1 := of_decide_eq_true rfl
theorem pkS_1 (s : S2) (c i k : Nat) (x : Int32) (c' i' : Nat) : (pkS s c i k x).1 c' i' = if c' = c ∧ i' = i then upd (s.1 c i) k x else s.1 c' i' := by
  show u3 s.1 c i (upd (s.1 c i) k x) c' i' = _
  unfold u3
  by_cases h : c' = c ∧ i' = i
  · rw [if_pos h, h.1, h.2, show (Nat.beq c c && Nat.beq i i) = true by simp]
    rfl
  · rw [if_neg h]
    cases hb : (Nat.beq c' c && Nat.beq i' i) with
    | false => rfl
    | true =>
      obtain ⟨h1, h2⟩ := Bool.and_eq_true_iff.mp hb
      exact absurd ⟨Nat.eq_of_beq_eq_true h1, Nat.eq_of_beq_eq_true h2⟩ h
theorem pkS_2 (s : S2) (c i k : Nat) (x : Int32) : (pkS s c i k x).2 = s.2 := rfl
theorem pkS_same (s : S2) (c i k : Nat) (x : Int32) : (pkS s c i k x).1 c i = upd (s.1 c i) k x := by
  rw [pkS_1, if_pos ⟨rfl, rfl⟩]
theorem pkS_v (s : S2) (c i k : Nat) (x : Int32) (c' i' k' : Nat) : (pkS s c i k x).1 c' i' k' = if c' = c ∧ i' = i ∧ k' = k then x else s.1 c' i' k' := by
  rw [pkS_1]
  by_cases h : c' = c ∧ i' = i
  · rw [if_pos h, h.1, h.2]
    unfold upd
    by_cases hk : k' = k
    · rw [if_pos hk, if_pos ⟨rfl, rfl, hk⟩]
    · rw [if_neg hk, if_neg (fun z => hk z.2.2)]
  · rw [if_neg h, if_neg (fun z => h ⟨z.1, z.2.1⟩)]
theorem upd_self (f : Nat → Int32) (k : Nat) : upd f k (f k) = f := by
  funext j
  unfold upd
  split
  · rename_i h; rw [h]
  · rfl
theorem upd_eq (f : Nat → Int32) (k : Nat) (x : Int32) : upd f k x k = x := if_pos rfl
theorem upd_ne (f : Nat → Int32) {k j : Nat} (x : Int32) (h : ¬ j = k) : upd f k x j = f j := if_neg h
/-- what may have changed -/
def Fr (K : Nat → Nat → Nat → Bool) (s s' : S2) : Prop := (∀ c i k, K c i k = false → s'.1 c i k = s.1 c i k) ∧ s'.2 = s.2
theorem Fr.refl (K : Nat → Nat → Nat → Bool) (s : S2) : Fr K s s := ⟨fun _ _ _ _ => rfl, rfl⟩
theorem Fr.trans {K : Nat → Nat → Nat → Bool} {s s' s'' : S2} (h : Fr K s s') (h' : Fr K s' s'') : Fr K s s'' := ⟨fun c i k hk => (h'.1 c i k hk).trans (h.1 c i k hk), h'.2.trans h.2⟩
theorem Fr.mono {K K' : Nat → Nat → Nat → Bool} {s s' : S2} (h : Fr K s s') (hK : ∀ c i k, K' c i k = false → K c i k = false) : Fr K' s s' := ⟨fun c i k hk => h.1 c i k (hK c i k hk), h.2⟩
theorem Fr.arr {K : Nat → Nat → Nat → Bool} {s s' : S2} (h : Fr K s s') {c i : Nat} (hk : ∀ k, K c i k = false) : s'.1 c i = s.1 c i := funext fun k => h.1 c i k (hk k)
theorem Fr.pk {K : Nat → Nat → Nat → Bool} {c i k : Nat} (h : K c i k = true) (s : S2) (x : Int32) : Fr K s (pkS s c i k x) := by
  refine ⟨fun c' i' k' hk => ?_, rfl⟩
  rw [pkS_v, if_neg]
  rintro ⟨rfl, rfl, rfl⟩
  rw [h] at hk
  cases hk
theorem Fr.pk' {K : Nat → Nat → Nat → Bool} {s s' : S2} (h : Fr K s s') {c i k : Nat} (x : Int32) (hk : K c i k = true) : Fr K s (pkS s' c i k x) := h.trans (Fr.pk hk s' x)
theorem fu_succ : ∃ n, FU = n + 1 ∧ n = 99999 := ⟨99999, rfl, rfl⟩
theorem lt_FU {m : Nat} (h : m < 100000) : m < FU := h
theorem suc_of {m n : Nat} (h : m < n) : ∃ k, n = k + 1 ∧ m ≤ k := ⟨n - 1, by omega, by omega⟩
theorem suc_lt {m n : Nat} (h : m + 1 < n) : ∃ k, n = k + 1 ∧ m < k := ⟨n - 1, by omega, by omega⟩
theorem i_zsub (x : Int32) : 0 - x = -x := Int32.zero_sub x
theorem jabs_neg (x : Int32) : (if 0 ≤ x then x else -x) = jabs x := by
  unfold jabs
  rw [Int32.zero_sub]
theorem nI_pos0 {n : Nat} (h : n < 2 ^ 31) : (0 ≤ nI n) = True := eq_true (nI_pos' h)
theorem nI_lt0 {n : Nat} (h : n < 2 ^ 31) : (nI n < 0) = False := eq_false (nI_pos h)
theorem nI_le0 {n : Nat} (h : n < 2 ^ 31) : (nI n ≤ 0) = (n = 0) := by
  rw [← nI_0]
  exact propext ((nI_leI h (by decide)).trans (by omega))
theorem nI_gt0 {n : Nat} (h : n < 2 ^ 31) : (0 < nI n) = (0 < n) := by
  rw [← nI_0]
  exact propext (nI_ltI (by decide) h)
theorem nI_is0 {n : Nat} (h : n < 2 ^ 31) : (nI n = 0) = (n = 0) := by
  rw [← nI_0]
  exact propext (nI_eq h (by decide))
theorem nI_eqp {a b : Nat} (ha : a < 2 ^ 31) (hb : b < 2 ^ 31) : (nI a = nI b) = (a = b) := propext (nI_eq ha hb)
theorem nI_lep {a b : Nat} (ha : a < 2 ^ 31) (hb : b < 2 ^ 31) : (nI a ≤ nI b) = (a ≤ b) := propext (nI_leI ha hb)
theorem nI_ltp {a b : Nat} (ha : a < 2 ^ 31) (hb : b < 2 ^ 31) : (nI a < nI b) = (a < b) := propext (nI_ltI ha hb)
theorem nI_nm1 {n : Nat} (h : n < 2 ^ 31) : (nI n = -1) = False := by
  apply eq_false
  intro z
  have : (nI n) < 0 := by rw [z]; decide
  exact nI_pos h this
theorem mul_nI (a b : Nat) : nI a * nI b = nI (a * b) := pk_mul a b
theorem sub_nI {a b : Nat} (h : b ≤ a) : nI a - nI b = nI (a - b) := pk_sub h
/-- isWithin, in: within bounds -/
def inS (x lo hi : Int32) : Bool := decide (lo ≤ x ∧ x ≤ hi)
theorem g_D_isWithin_eq (x lo hi : Int32) (s : S2) : g_D_isWithin x lo hi s = inS x lo hi := by
  unfold g_D_isWithin inS
  by_cases h1 : x < lo
  · rw [if_pos h1]; simp [Int32.not_le.mpr h1]
  · rw [if_neg h1]
    by_cases h2 : hi < x
    · rw [if_pos h2]; simp [Int32.not_le.mpr h2]
    · rw [if_neg h2]; simp [Int32.not_lt.mp h1, Int32.not_lt.mp h2]
theorem g_M_in_eq (x lo hi : Int32) (s : S2) : g_M_in x lo hi s = inS x lo hi := by
  unfold g_M_in inS
  by_cases h1 : x < lo
  · rw [if_pos h1]; simp [Int32.not_le.mpr h1]
  · rw [if_neg h1]
    by_cases h2 : hi < x
    · rw [if_pos h2]; simp [Int32.not_le.mpr h2]
    · rw [if_neg h2]; simp [Int32.not_lt.mp h1, Int32.not_lt.mp h2]
theorem inS_nI {x : Int32} {n : Nat} (h : inS x 0 (nI n - nI 1) = true) (hn : n < 2 ^ 31) : ∃ j, j < n ∧ x = nI j := by
  have ⟨h1, h2⟩ := of_decide_eq_true h
  obtain ⟨j, hj, rfl⟩ := nI_of (Int32.not_lt.mpr h1)
  match n with
  | 0 =>
    exfalso
    have : nI j < 0 := Int32.lt_of_le_of_lt h2 (by decide)
    exact nI_pos hj this
  | n + 1 =>
    rw [sub_nI (by omega), nI_lep hj (by omega)] at h2
    exact ⟨j, by omega, rfl⟩
theorem inS_lit {x : Int32} {a n : Nat} (h : inS x (nI a) (nI n) = true) (ha : a < 2 ^ 31) (hn : n < 2 ^ 31) : ∃ j, a ≤ j ∧ j ≤ n ∧ x = nI j := by
  have ⟨h1, h2⟩ := of_decide_eq_true h
  have h0 : ¬ x < 0 := Int32.not_lt.mpr (Int32.le_trans (nI_pos' ha) h1)
  obtain ⟨j, hj, rfl⟩ := nI_of h0
  rw [nI_lep ha hj] at h1
  rw [nI_lep hj hn] at h2
  exact ⟨j, h1, h2, rfl⟩
theorem inS_of {a j n : Nat} (h1 : a ≤ j) (h2 : j ≤ n) (hn : n < 2 ^ 31) : inS (nI j) (nI a) (nI n) = true := decide_eq_true ⟨nI_le h1 (by omega), nI_le h2 (by omega)⟩
