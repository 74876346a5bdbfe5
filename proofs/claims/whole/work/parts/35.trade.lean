/-! ===== trade ===== -/
/-- bought, lacking, left, paid -/
abbrev TS : Type := (Nat → Int32) × (Nat → Int32) × (Nat → Int32) × (Nat → Int32)
def coS (w v : Nat → Int32) (i o : Nat) : Int32 := v (43 + o) + w 0 * apS v i o
def okS (I : Nat) (w v le : Nat → Int32) (i o : Nat) : Bool := decide (¬ o = i) && (isH I v o && (decide (0 < le o) && decide (w ((1 + o) * 8 + 3) = w ((1 + i) * 8 + 4))))
def beS (w v : Nat → Int32) (i o : Nat) : Option Nat → Bool
  | none => true
  | some b => decide (coS w v i o < coS w v i b)
def chS (I : Nat) (w v le : Nat → Int32) (i : Nat) : Nat → Option Nat
  | 0 => none
  | o + 1 => if okS I w v le i o && beS w v i o (chS I w v le i o) then some o else chS I w v le i o
def cdO : Option Nat → Int32
  | none => -1
  | some o => nI o
def paS (w v : Nat → Int32) (i o : Nat) (z : TS) : TS :=
  (upd z.1 (i * 6 + o) (z.1 (i * 6 + o) + jmin (z.2.1 i) (z.2.2.1 o)), upd z.2.1 i (z.2.1 i - jmin (z.2.1 i) (z.2.2.1 o)), upd z.2.2.1 o (z.2.2.1 o - jmin (z.2.1 i) (z.2.2.1 o)), upd z.2.2.2 i (z.2.2.2 i + jmin (z.2.1 i) (z.2.2.1 o) * coS w v i o))
def puS (I : Nat) (w v : Nat → Int32) (i : Nat) (z : TS) : Option TS := if 0 < z.2.1 i then (match chS I w v z.2.2.1 i I with
  | none => none
  | some o => some (paS w v i o z)) else none
def byS (I : Nat) (w v : Nat → Int32) (i : Nat) : Nat → TS → TS
  | 0, z => z
  | n + 1, z => match puS I w v i z with
    | none => z
    | some z' => byS I w v i n z'
def la0 (I : Nat) (w v : Nat → Int32) (i : Nat) : Int32 := if (isH I v i && decide (¬ w ((1 + i) * 8 + 4) = nI 4)) = true then w ((1 + i) * 8 + 5) else 0
def trS (I : Nat) (w v : Nat → Int32) : Nat → TS
  | 0 => (fun _ => 0, fun i => if i < I then la0 I w v i else 0, fun i => w ((1 + i) * 8 + 6), fun _ => 0)
  | i + 1 => byS I w v i 6 (trS I w v i)
theorem chS_lt {I : Nat} {w v le : Nat → Int32} {i : Nat} : ∀ {n o : Nat}, chS I w v le i n = some o → o < n ∧ okS I w v le i o = true
  | 0, o, h => by cases h
  | n + 1, o, h => by
    unfold chS at h
    split at h
    · rename_i hh
      cases h
      exact ⟨by omega, (Bool.and_eq_true_iff.mp hh).1⟩
    · have := chS_lt h
      exact ⟨by omega, this.2⟩
theorem isH_lt {I : Nat} {v : Nat → Int32} {a : Nat} (h : isH I v a = true) : a < I := of_decide_eq_true (Bool.and_eq_true_iff.mp h).1
theorem jmin_nI {a b : Nat} (ha : a < 2 ^ 31) (hb : b < 2 ^ 31) : jmin (nI a) (nI b) = nI (min a b) := by
  unfold jmin
  by_cases h : b < a
  · rw [if_pos (nI_lt h ha), Nat.min_eq_right (by omega)]
  · rw [if_neg (nI_nlt (by omega) hb), Nat.min_eq_left (by omega)]
/-- small numbers -/
def ZN (I i : Nat) (z : TS) : Prop := (∃ q : Nat, q ≤ 9 ∧ z.2.1 i = nI q) ∧ ∀ o, o < I → ∃ q : Nat, q ≤ 99 ∧ z.2.2.1 o = nI q
def cnS (I i : Nat) (le : Nat → Int32) (o : Nat) : Nat := if ¬ o = i ∧ o < I ∧ 0 < le o then 1 else 0
def ctS (I i : Nat) (le : Nat → Int32) : Nat := cnS I i le 0 + cnS I i le 1 + cnS I i le 2 + cnS I i le 3 + cnS I i le 4 + cnS I i le 5
theorem cnS_le (I i : Nat) (le : Nat → Int32) (o : Nat) : cnS I i le o ≤ 1 := by unfold cnS; split <;> omega
theorem cnS_self (I i : Nat) (le : Nat → Int32) : cnS I i le i = 0 := by unfold cnS; rw [if_neg (fun z => z.1 rfl)]
theorem ctS_lt {I i : Nat} (le : Nat → Int32) (hi : i < 6) : ctS I i le < 6 := by
  unfold ctS
  have h0 := cnS_le I i le 0
  have h1 := cnS_le I i le 1
  have h2 := cnS_le I i le 2
  have h3 := cnS_le I i le 3
  have h4 := cnS_le I i le 4
  have h5 := cnS_le I i le 5
  have hs := cnS_self I i le
  match i, hi with
  | 0, _ => omega
  | 1, _ => omega
  | 2, _ => omega
  | 3, _ => omega
  | 4, _ => omega
  | 5, _ => omega
theorem ctS_down {I i o : Nat} {le le' : Nat → Int32} (ho : o < 6) (h1 : cnS I i le o = 1) (h0 : cnS I i le' o = 0) (hr : ∀ j, ¬ j = o → cnS I i le' j = cnS I i le j) : ctS I i le' < ctS I i le := by
  unfold ctS
  match o, ho with
  | 0, _ => rw [hr 1 (by omega), hr 2 (by omega), hr 3 (by omega), hr 4 (by omega), hr 5 (by omega)]; omega
  | 1, _ => rw [hr 0 (by omega), hr 2 (by omega), hr 3 (by omega), hr 4 (by omega), hr 5 (by omega)]; omega
  | 2, _ => rw [hr 1 (by omega), hr 0 (by omega), hr 3 (by omega), hr 4 (by omega), hr 5 (by omega)]; omega
  | 3, _ => rw [hr 1 (by omega), hr 2 (by omega), hr 0 (by omega), hr 4 (by omega), hr 5 (by omega)]; omega
  | 4, _ => rw [hr 1 (by omega), hr 2 (by omega), hr 3 (by omega), hr 0 (by omega), hr 5 (by omega)]; omega
  | 5, _ => rw [hr 1 (by omega), hr 2 (by omega), hr 3 (by omega), hr 4 (by omega), hr 0 (by omega)]; omega
theorem okS_split {I : Nat} {w v le : Nat → Int32} {i o : Nat} (h : okS I w v le i o = true) : ¬ o = i ∧ o < I ∧ 0 < le o := by
  unfold okS at h
  simp only [Bool.and_eq_true, decide_eq_true_eq] at h
  exact ⟨h.1, isH_lt h.2.1, h.2.2.1⟩
theorem paS_ZN {I i o : Nat} {w v : Nat → Int32} {z : TS} (hz : ZN I i z) (ho : o < I) : ZN I i (paS w v i o z) := by
  obtain ⟨⟨q, hq, e⟩, h⟩ := hz
  obtain ⟨p, hp, e'⟩ := h o ho
  have em : jmin (z.2.1 i) (z.2.2.1 o) = nI (min q p) := by rw [e, e', jmin_nI (by omega) (by omega)]
  refine ⟨⟨q - min q p, by omega, ?_⟩, fun j hj => ?_⟩
  · show upd z.2.1 i (z.2.1 i - jmin (z.2.1 i) (z.2.2.1 o)) i = _
    rw [upd_eq, em, e, sub_nI (Nat.min_le_left _ _)]
  · show ∃ q', q' ≤ 99 ∧ upd z.2.2.1 o (z.2.2.1 o - jmin (z.2.1 i) (z.2.2.1 o)) j = _
    by_cases hjo : j = o
    · subst hjo
      exact ⟨p - min q p, by omega, by rw [upd_eq, em, e', sub_nI (Nat.min_le_right _ _)]⟩
    · rw [upd_ne _ _ hjo]
      exact h j hj
theorem byS_end {I i : Nat} {w v : Nat → Int32} (h6 : I ≤ 6) : ∀ (n : Nat) (z : TS), ZN I i z → ctS I i z.2.2.1 < n → puS I w v i (byS I w v i n z) = none ∧ ZN I i (byS I w v i n z) := by
  intro n
  induction n with
  | zero => intro z _ h; omega
  | succ n ih =>
    intro z hz hc
    cases hp : puS I w v i z with
    | none =>
      have : byS I w v i (n + 1) z = z := by unfold byS; rw [hp]
      rw [this]
      exact ⟨hp, hz⟩
    | some z' =>
      have e : byS I w v i (n + 1) z = byS I w v i n z' := by
        show (match puS I w v i z with
          | none => z
          | some z' => byS I w v i n z') = _
        rw [hp]
      rw [e]
      have hp' := hp
      unfold puS at hp'
      split at hp'
      · rename_i hla
        cases hch : chS I w v z.2.2.1 i I with
        | none => rw [hch] at hp'; cases hp'
        | some o =>
          rw [hch] at hp'
          have hz' : paS w v i o z = z' := Option.some.inj hp'
          obtain ⟨ho, hok⟩ := chS_lt hch
          obtain ⟨k1, k2, k3⟩ := okS_split hok
          have hZ := paS_ZN (w := w) (v := v) hz ho
          obtain ⟨⟨q, hq, e1⟩, hle⟩ := hz
          obtain ⟨p, hp1, e2⟩ := hle o ho
          by_cases hqp : q ≤ p
          · have hl : (paS w v i o z).2.1 i = 0 := by
              unfold paS
              show upd _ i _ i = 0
              rw [upd_eq, e1, e2, jmin_nI (by omega) (by omega), Nat.min_eq_left hqp, sub_nI (by omega), Nat.sub_self, nI_0]
            have hn : puS I w v i z' = none := by
              unfold puS
              rw [← hz', if_neg (by rw [hl]; decide)]
            have hb : byS I w v i n z' = z' := by
              cases n with
              | zero => rfl
              | succ n => unfold byS; rw [hn]
            rw [hb]
            exact ⟨hn, hz' ▸ hZ⟩
          · refine ih z' (hz' ▸ hZ) (Nat.lt_of_lt_of_le ?_ (Nat.lt_succ_iff.mp hc))
            rw [← hz']
            refine ctS_down (o := o) (by omega) ?_ ?_ ?_
            · unfold cnS
              rw [if_pos ⟨k1, k2, k3⟩]
            · unfold cnS
              rw [if_neg]
              rintro ⟨-, -, hh⟩
              unfold paS at hh
              have : (0 : Int32) < upd z.2.2.1 o (z.2.2.1 o - jmin (z.2.1 i) (z.2.2.1 o)) o := hh
              rw [upd_eq, e1, e2, jmin_nI (by omega) (by omega), Nat.min_eq_right (by omega), sub_nI (by omega), Nat.sub_self, nI_0] at this
              exact absurd this (by decide)
            · intro j hj
              have : (paS w v i o z).2.2.1 j = z.2.2.1 j := upd_ne _ _ hj
              unfold cnS
              simp only [this]
      · cases hp'
