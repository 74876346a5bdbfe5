/-! ===== a sea's text: what is meant, and the class ===== -/
section
variable {s s0 : S2} {tp : Nat → Nat} {n : Nat}
def ltrN : Nat → Nat
  | 0 => 119
  | 1 => 105
  | 2 => 116
  | _ => 98
def cIx (r ch : Nat) : Option Nat := ffS (fun j => decide (lgD (kbyt r) j = nI ch)) (kbyt r).length 0
def itX (so ch : Nat) : Option Nat := ffS (fun k => decide (lgD (kbyt 1) (so * 8 + k) = nI ch)) 8 0
def loN (so k : Nat) : Nat := (lgD (kstat 3) (so * 8 + k)).toNatClampNeg
def hiN (so k : Nat) : Nat := (lgD (kstat 4) (so * 8 + k)).toNatClampNeg
def mxN (so : Nat) : Nat := (lgD (kstat 1) so).toNatClampNeg
def frN (so : Nat) : Nat := (lgD (kstat 2) so).toNatClampNeg
theorem lo_k : ∀ j, j < 32 → lgD (kstat 3) j = nI (lgD (kstat 3) j).toNatClampNeg ∧ (lgD (kstat 3) j).toNatClampNeg < 200 ∧ lgD (kstat 4) j = nI (lgD (kstat 4) j).toNatClampNeg ∧ (lgD (kstat 4) j).toNatClampNeg < 200 := by decide +kernel
theorem mx_k : ∀ j, j < 4 → lgD (kstat 1) j = nI (mxN j) ∧ mxN j ≤ 8 ∧ lgD (kstat 2) j = nI (frN j) ∧ frN j + mxN j ≤ 19 := by decide +kernel
theorem mx_s : mxN 0 + mxN 1 + mxN 2 + mxN 3 = 19 := by decide +kernel
theorem c_jc : ∀ ch, ch < 256 → ji2c (nI ch) = nI ch := by decide +kernel
theorem c_i8 : ∀ ch, ch < 256 → ∀ j, j < 6 → decide (lgD (kbyt 0) j = Int8.toInt32 (Int32.toInt8 (nI ch))) = decide (lgD (kbyt 0) j = nI ch) ∧ decide (lgD (kbyt 2) j = Int8.toInt32 (Int32.toInt8 (nI ch))) = decide (lgD (kbyt 2) j = nI ch) := by decide +kernel
theorem fc_ixL {r N : Nat} {y : Int32} (hN : N = (kbyt r).length) (h6 : N < 100) : ∀ (m k fu : Nat), k + m = N → m < fu → f_Latin_indexOfChar_L7 r fu (nI N) y (nI k) s = some (cdO (ffS (fun j => decide (lgD (kbyt r) j = y)) m k)) := by
  intro m
  induction m with
  | zero =>
    intro k fu hk hf
    obtain ⟨g, rfl, -⟩ := suc_of hf
    show b_Latin_indexOfChar_L7 _ _ _ _ _ _ = _
    unfold b_Latin_indexOfChar_L7
    rw [if_pos (nI_le (by omega) (by omega)), of_m1]
    rfl
  | succ m ih =>
    intro k fu hk hf
    obtain ⟨g, rfl, hg⟩ := suc_lt hf
    show b_Latin_indexOfChar_L7 _ _ _ _ _ _ = _
    unfold b_Latin_indexOfChar_L7
    rw [if_neg (nI_ge (by omega) (by omega)), ix_nI (n := (kbyt r).length) (k := k) (by omega) (by omega), Option.bind_some, of_1, nI_add]
    by_cases c : lgD (kbyt r) k = y
    · rw [if_pos c, ffS_t (decide_eq_true c)]
      rfl
    · rw [if_neg c, ffS_f (decide_eq_false c)]
      exact ih (k + 1) g (by omega) hg
theorem ffS_cong {p q : Nat → Bool} : ∀ m k, (∀ j, k ≤ j → j < k + m → p j = q j) → ffS p m k = ffS q m k := by
  intro m
  induction m with
  | zero => intro k _; rfl
  | succ m ih =>
    intro k h
    have h0 := h k (Nat.le_refl k) (by omega)
    have h1 := ih (k + 1) fun j h1 h2 => h j (by omega) (by omega)
    cases c : p k with
    | true => rw [ffS_t c, ffS_t (h0.symm.trans c)]
    | false => rw [ffS_f c, ffS_f (h0.symm.trans c), h1]
theorem kb_l : (kbyt 0).length = 4 ∧ (kbyt 1).length = 32 ∧ (kbyt 2).length = 6 ∧ (kstat 0).length = 32 ∧ (kstat 1).length = 4 ∧ (kstat 2).length = 4 ∧ (kstat 3).length = 32 ∧ (kstat 4).length = 32 := by decide
theorem fc_ixOf {ch : Nat} (hc : ch < 256) : f_String_indexOf 0 (ji2c (nI ch)) s = some (cdO (cIx 0 ch)) := by
  rw [c_jc ch hc]
  have e1 : g_String_isLatin1 0 s = true := rfl
  have e2 : f_String_length 0 s = some (nI 4) := rfl
  have e3 : g_Latin_canEncode (nI ch) s = true := by
    unfold g_Latin_canEncode
    rw [if_neg (nI_pos (by omega)), of_255, if_neg (nI_nlt (by omega) (by omega))]
  unfold f_String_indexOf f_String_indexOf2 f_Latin_indexOf f_Latin_indexOfChar
  rw [e1, ifT, e2, Option.bind_some, e3, ifT, kb_l.1]
  rw [show jmax (Int32.ofInt 0) (Int32.ofInt 0) = nI 0 from rfl, show jmin (nI 4) (nI 4) = nI 4 from rfl, if_pos (nI_lt (by omega) (by omega)), fc_ixL (N := 4) rfl (by omega) 4 0 FU (by omega) (lt_FU (by omega)), Option.bind_some, Option.bind_some, Option.bind_some]
  unfold cIx
  rw [kb_l.1, ffS_cong 4 0 fun j _ h2 => (c_i8 ch hc j (by omega)).1]
theorem fc_ixOf2 {ch : Nat} (hc : ch < 256) : f_String_indexOf 2 (ji2c (nI ch)) s = some (cdO (cIx 2 ch)) := by
  rw [c_jc ch hc]
  have e1 : g_String_isLatin1 2 s = true := rfl
  have e2 : f_String_length 2 s = some (nI 6) := rfl
  have e3 : g_Latin_canEncode (nI ch) s = true := by
    unfold g_Latin_canEncode
    rw [if_neg (nI_pos (by omega)), of_255, if_neg (nI_nlt (by omega) (by omega))]
  unfold f_String_indexOf f_String_indexOf2 f_Latin_indexOf f_Latin_indexOfChar
  rw [e1, ifT, e2, Option.bind_some, e3, ifT, kb_l.2.2.1]
  rw [show jmax (Int32.ofInt 0) (Int32.ofInt 0) = nI 0 from rfl, show jmin (nI 6) (nI 6) = nI 6 from rfl, if_pos (nI_lt (by omega) (by omega)), fc_ixL (N := 6) rfl (by omega) 6 0 FU (by omega) (lt_FU (by omega)), Option.bind_some, Option.bind_some, Option.bind_some]
  unfold cIx
  rw [kb_l.2.2.1, ffS_cong 6 0 fun j _ h2 => (c_i8 ch hc j (by omega)).2]
theorem c_rc : ∀ j, j < 32 → rc (ji2c ((lgD (kbyt 1) j) &&& (Int32.ofInt 255))) = some (lgD (kbyt 1) j) ∧ rc (lgD (kbyt 1) j) = some (lgD (kbyt 1) j) := by decide +kernel
theorem fc_charAt {j : Nat} (hj : j < 32) : f_String_charAt 1 (nI j) s = some (s, lgD (kbyt 1) j) := by
  have e1 : g_String_isLatin1 1 s = true := rfl
  unfold f_String_charAt f_Latin_charAt f_String_checkIndex f_Pre_checkIndex
  rw [e1, ifT, kb_l.2.1, if_neg (nI_pos (by omega)), if_pos (nI_lt hj (by omega)), Option.bind_some, Option.bind_some, ix_nI (n := 32) (k := j) (by omega) (by omega), Option.bind_some, (c_rc j hj).1, Option.bind_some, Option.bind_some, (c_rc j hj).2, Option.bind_some]
theorem fc_itemL {so ch : Nat} (hs : so < 4) : ∀ (m k fu : Nat), k + m = 8 → m < fu → f_Sea_itemOf_L2 fu (nI so) (nI ch) (nI k) s = some (s, cdO (ffS (fun k => decide (lgD (kbyt 1) (so * 8 + k) = nI ch)) m k)) := by
  intro m
  induction m with
  | zero =>
    intro k fu hk hf
    obtain ⟨g, rfl, -⟩ := suc_of hf
    show b_Sea_itemOf_L2 _ _ _ _ _ = _
    unfold b_Sea_itemOf_L2
    rw [of_8, if_pos (nI_le (by omega) (by omega)), of_m1]
    rfl
  | succ m ih =>
    intro k fu hk hf
    obtain ⟨g, rfl, hg⟩ := suc_lt hf
    show b_Sea_itemOf_L2 _ _ _ _ _ = _
    unfold b_Sea_itemOf_L2
    rw [of_8, if_neg (nI_ge (by omega) (by omega)), mul_nI, nI_add, fc_charAt (by omega), Option.bind_some, of_1, nI_add]
    by_cases c : lgD (kbyt 1) (so * 8 + k) = nI ch
    · rw [if_pos c, ffS_t (decide_eq_true c)]
      rfl
    · rw [if_neg c, ffS_f (decide_eq_false c)]
      exact ih (k + 1) g (by omega) hg
theorem fc_itemOf {so ch : Nat} (hs : so < 4) : f_Sea_itemOf (nI so) (nI ch) s = some (s, cdO (itX so ch)) := by
  unfold f_Sea_itemOf
  rw [show Int32.ofInt 0 = nI 0 from of_0, fc_itemL hs 8 0 FU (by omega) (lt_FU (by omega))]
  rfl
/-- one item's number -/
def nuR (tp : Nat → Nat) (n so k i : Nat) : Nat ⊕ (Nat × Nat) := match nuG tp n 2 i with
  | Sum.inl q => Sum.inl q
  | Sum.inr q => if loN so k ≤ q.1 ∧ q.1 ≤ hiN so k then Sum.inr q else Sum.inl (q.2 - 1)
def ieS (tp : Nat → Nat) (n so row : Nat) : Nat → Nat → Nat → (Nat → Int32) → Nat ⊕ (Nat × (Nat → Int32))
  | 0, _, _, _ => Sum.inl 0
  | m + 1, i, seen, D => match itX so (chN tp n (skN tp n i)) with
    | none => Sum.inr (skN tp n i, D)
    | some k => if seen.testBit k then Sum.inl (skN tp n i) else match nuR tp n so k (skN tp n i + 1) with
      | Sum.inl q => Sum.inl q
      | Sum.inr q => ieS tp n so row m q.2 (seen ||| 2 ^ k) (upd D (row * 8 + k) (nI q.1))
def fiD (so row : Nat) (D : Nat → Int32) (j : Nat) : Int32 := if row * 8 ≤ j ∧ j < row * 8 + 8 then lgD (kstat 0) (so * 8 + (j - row * 8)) else D j
abbrev CNT : Type := Nat → Nat
def clS' (tp : Nat → Nat) (n : Nat) (c : CNT) (D : Nat → Int32) (i : Nat) : Nat ⊕ (Nat × Nat × (Nat → Int32)) := match cIx 0 (chN tp n (skN tp n i)) with
  | none => Sum.inl (skN tp n i)
  | some so => if c so < mxN so then (match ieS tp n so (frN so + c so) 9 (skN tp n i + 1) 0 (fiD so (frN so + c so) D) with
      | Sum.inl q => Sum.inl q
      | Sum.inr q => Sum.inr (q.1, so, q.2)) else Sum.inl (skN tp n i)
def cup (c : CNT) (so : Nat) : CNT := fun j => if j = so then c j + 1 else c j
def twB (I : Nat) (a b : Int32) : Bool := !decide (a = b) && (!decide (nI I ≤ a) && !decide (nI I ≤ b))
def wzL (I : Nat) (D : Nat → Int32) (f : Nat) : Nat → Nat → Bool
  | 0, _ => true
  | m + 1, t => twB I (D ((f + t) * 8)) (D ((f + t) * 8 + 1)) && wzL I D f m (t + 1)
def wzS (c : CNT) (D : Nat → Int32) : Bool := decide (2 ≤ c 1) && (wzL (c 1) D 7 (c 2) 0 && wzL (c 1) D 15 (c 3) 0)
def seaS (tp : Nat → Nat) (n : Nat) : Nat → CNT → (Nat → Int32) → Nat → Nat ⊕ (CNT × (Nat → Int32))
  | 0, _, _, _ => Sum.inl 0
  | m + 1, c, D, i => match clS' tp n c D i with
    | Sum.inl q => Sum.inl q
    | Sum.inr q => if chN tp n (skN tp n q.1) = 0 then (if wzS (cup c q.2.1) q.2.2 then Sum.inr (cup c q.2.1, q.2.2) else Sum.inl (skN tp n q.1)) else if chN tp n (skN tp n q.1) = 59 then seaS tp n m (cup c q.2.1) q.2.2 (skN tp n q.1 + 1) else Sum.inl (skN tp n q.1)
/-- the class while it reads -/
def Kst (c i k : Nat) : Bool := (c == 14 && i == 1) || ((c == 15 && i == 1) || (c == 11 && k == 2))
def CT (s : S2) (c : CNT) (D : Nat → Int32) (i : Nat) (t : S2) : Prop := Fr Kst s t ∧ t.1 14 1 = D ∧ (∀ j, j < 4 → t.1 15 1 j = nI (c j)) ∧ t.1 11 0 2 = nI i
theorem CT_tA {c : CNT} {D : Nat → Int32} {i : Nat} {t : S2} (h : CT s c D i t) : tA t i = t := pkS_self _ _ _ _ _ h.2.2.2
theorem CT_at {c : CNT} {D : Nat → Int32} {i : Nat} {t : S2} (h : CT s c D i t) (j : Nat) : CT s c D j (tA t j) := by
  obtain ⟨h1, h2, h3, h4⟩ := h
  refine ⟨h1.pk' _ rfl, ?_, fun k hk => (tA_o (by omega)).trans (h3 k hk), tA_at _ _⟩
  funext k
  rw [tA_o (by omega), h2]
theorem CT_tp {c : CNT} {D : Nat → Int32} {i : Nat} {t : S2} (h : CT s c D i t) (hp : TPc n tp s) : TPc n tp t := by
  unfold TPc at hp ⊢
  rw [h.1.1 11 0 1 rfl, h.1.arr (c := 12) (i := 0) fun _ => rfl]
  exact hp
theorem itX_lt {so ch k : Nat} (h : itX so ch = some k) : k < 8 := by
  have := ffS_lt 8 0 k h
  omega
theorem cIx_lt {ch so : Nat} (h : cIx 0 ch = some so) : so < 4 := by
  unfold cIx at h
  rw [kb_l.1] at h
  have := ffS_lt 4 0 so h
  omega
theorem chN_lt (ht : TOK n tp) (i : Nat) : chN tp n i < 256 := by
  unfold chN
  split
  · rename_i h; exact (ht.2 _ h).2
  · omega
theorem nuG_le {M i : Nat} (hi : i ≤ n) : (∀ q, nuG tp n M i = Sum.inl q → q ≤ n) ∧ ∀ q, nuG tp n M i = Sum.inr q → 1 ≤ q.2 ∧ q.2 ≤ n ∧ q.1 < 10 ^ M := by
  have hk := skN_le (tp := tp) hi
  unfold nuG
  cases c : dgN tp n (skN tp n i) with
  | false =>
    rw [if_neg (by decide)]
    exact ⟨fun q h => (by cases h; exact hk.2), fun q h => (by cases h)⟩
  | true =>
    obtain ⟨c1, c2, c3⟩ := dgN_at c
    have hd := dgS_le (tp := tp) (n := n) M 0 (skN tp n i) hk.2
    rw [if_pos rfl]
    split
    · exact ⟨fun q h => (by cases h; exact hd.2.1), fun q h => (by cases h)⟩
    · refine ⟨fun q h => (by cases h), fun q h => ?_⟩
      cases h
      refine ⟨?_, hd.2.1, by have := hd.2.2; omega⟩
      cases M with
      | zero => rename_i h; exact absurd c (by rw [show (dgS tp n 0 0 (skN tp n i)).2 = skN tp n i from rfl] at h; exact h)
      | succ M =>
        have := (dgS_le (tp := tp) (n := n) M (10 * 0 + tp (skN tp n i) - 48) (skN tp n i + 1) (by omega)).1
        unfold dgS
        rw [c, if_pos rfl]
        omega
theorem fc_readItem {c : CNT} {D : Nat → Int32} {so k cell i : Nat} {t : S2} (ht : TOK n tp) (hp : TPc n tp s) (h : CT s c D i t) (hi : i ≤ n) (hs : so < 4) (hk : k < 8) (hc : cell < 152) : ∃ t', f_Sea_readItem 1 (nI (so * 8 + k)) (nI cell) t = some (match nuR tp n so k i with
    | Sum.inl _ => (t', false)
    | Sum.inr _ => (t', true)) ∧ (match nuR tp n so k i with
    | Sum.inl q => CT s c D q t'
    | Sum.inr q => CT s c (upd D cell (nI q.1)) q.2 t') := by
  obtain ⟨l1, l2, l3, l4⟩ := lo_k (so * 8 + k) (by omega)
  have h240 := ht.1
  have hg := nuG_le (tp := tp) (n := n) (M := 2) hi
  have hn := fc_num (M := 2) ht (CT_tp h hp) (by omega) hi
  rw [CT_tA h] at hn
  unfold f_Sea_readItem f_Sea_readItem_L35 nuR
  rw [of_2, hn]
  cases e : nuG tp n 2 i with
  | inl q =>
    rw [Option.bind_some, of_m1]
    refine ⟨tA t q, ?_, CT_at h q⟩
    exact if_pos rfl
  | inr q =>
    obtain ⟨q1, q2, q3⟩ := hg.2 q e
    rw [Option.bind_some, of_m1, if_neg (show ¬ (tA t q.2, nI q.1).2 = -1 from cdO_nm1 q.1 (by omega)), kb_l.2.2.2.2.2.2.1, ix_nI (n := 32) (k := so * 8 + k) (by omega) (by omega), Option.bind_some, l1]
    have sb : f_Tape_stepBack (tA t q.2) = some (tA t (q.2 - 1)) := by
      unfold f_Tape_stepBack
      rw [tA_at, of_1, sub_nI q1, show Int32.ofInt 0 = nI 0 from of_0, jmax_nI (by omega) (by omega), Option.bind_some, show max 0 (q.2 - 1) = q.2 - 1 by omega]
      exact congrArg some (tA_tA t _ _)
    show ∃ t', (if nI q.1 < nI (loN so k) then _ else _) = _ ∧ _
    by_cases c1 : q.1 < loN so k
    · have hb : ¬ (loN so k ≤ q.1 ∧ q.1 ≤ hiN so k) := by omega
      rw [if_pos (nI_lt c1 (by unfold loN; omega)), sb, Option.bind_some]
      show ∃ t', _ = some (match (if loN so k ≤ q.1 ∧ q.1 ≤ hiN so k then Sum.inr q else Sum.inl (q.2 - 1) : Nat ⊕ (Nat × Nat)) with
        | Sum.inl _ => (t', false)
        | Sum.inr _ => (t', true)) ∧ (match (if loN so k ≤ q.1 ∧ q.1 ≤ hiN so k then Sum.inr q else Sum.inl (q.2 - 1) : Nat ⊕ (Nat × Nat)) with
        | Sum.inl q => CT s c D q t'
        | Sum.inr q => CT s c (upd D cell (nI q.1)) q.2 t')
      rw [if_neg hb]
      exact ⟨_, rfl, CT_at h _⟩
    · rw [if_neg (nI_nlt (by omega) (by omega)), kb_l.2.2.2.2.2.2.2, ix_nI (n := 32) (k := so * 8 + k) (by omega) (by omega), Option.bind_some, l3]
      show ∃ t', (if nI q.1 ≤ nI (hiN so k) then _ else _) = some (match (if loN so k ≤ q.1 ∧ q.1 ≤ hiN so k then Sum.inr q else Sum.inl (q.2 - 1) : Nat ⊕ (Nat × Nat)) with
        | Sum.inl _ => (t', false)
        | Sum.inr _ => (t', true)) ∧ (match (if loN so k ≤ q.1 ∧ q.1 ≤ hiN so k then Sum.inr q else Sum.inl (q.2 - 1) : Nat ⊕ (Nat × Nat)) with
        | Sum.inl q => CT s c D q t'
        | Sum.inr q => CT s c (upd D cell (nI q.1)) q.2 t')
      by_cases c2 : q.1 ≤ hiN so k
      · rw [if_pos (nI_le c2 (by unfold hiN; omega)), if_pos ⟨by omega, c2⟩, ix_nI (n := 152) (k := cell) hc (by omega), Option.bind_some, Option.bind_some]
        refine ⟨_, rfl, ?_⟩
        obtain ⟨g1, g2, g3, g4⟩ := CT_at h q.2
        exact ⟨g1.pk' _ rfl, by rw [pkS_same, g2], fun j hj => by rw [pkS_v, if_neg (by omega)]; exact g3 j hj, by rw [pkS_v, if_neg (by omega)]; exact g4⟩
      · rw [if_neg (nI_ge (by omega) (by omega)), if_neg (by omega), sb, Option.bind_some]
        exact ⟨_, rfl, CT_at h _⟩
theorem it0 : ∀ so, so < 4 → ∀ k, ¬ itX so 0 = some k := by
  have : ∀ so, so < 4 → itX so 0 = none := by decide +kernel
  intro so h k z
  rw [this so h] at z
  cases z
theorem nuR_le {so k i q : Nat} (hi : i ≤ n) (h : nuR tp n so k i = Sum.inl q) : q ≤ n := by
  have hg := nuG_le (tp := tp) (n := n) (M := 2) hi
  unfold nuR at h
  cases e : nuG tp n 2 i with
  | inl q' => rw [e] at h; cases h; exact hg.1 _ e
  | inr q' =>
    rw [e] at h
    obtain ⟨q1, q2, q3⟩ := hg.2 q' e
    have h' : (if loN so k ≤ q'.1 ∧ q'.1 ≤ hiN so k then Sum.inr q' else Sum.inl (q'.2 - 1) : Nat ⊕ (Nat × Nat)) = Sum.inl q := h
    split at h'
    · cases h'
    · cases h'; omega
theorem nuR_ri {so k i : Nat} {q : Nat × Nat} (hi : i ≤ n) (h : nuR tp n so k i = Sum.inr q) : q.2 ≤ n ∧ loN so k ≤ q.1 ∧ q.1 ≤ hiN so k := by
  have hg := nuG_le (tp := tp) (n := n) (M := 2) hi
  unfold nuR at h
  cases e : nuG tp n 2 i with
  | inl q' => rw [e] at h; cases h
  | inr q' =>
    rw [e] at h
    obtain ⟨q1, q2, q3⟩ := hg.2 q' e
    have h' : (if loN so k ≤ q'.1 ∧ q'.1 ≤ hiN so k then Sum.inr q' else Sum.inl (q'.2 - 1) : Nat ⊕ (Nat × Nat)) = Sum.inr q := h
    split at h'
    · rename_i hh
      cases h'
      exact ⟨q2, hh⟩
    · cases h'
theorem or_cb {m k : Nat} (hk : k < 8) (h : m.testBit k = false) : cbS m 8 < cbS (m ||| 2 ^ k) 8 := cbS_lt (i := k) (fun j hj => by rw [Nat.testBit_or, hj, Bool.true_or]) h (by rw [Nat.testBit_or, Nat.testBit_two_pow_self, Bool.or_true]) 8 hk
theorem or256 : ∀ a, a < 256 → ∀ k, k < 8 → nI a ||| (nI 1 <<< (nI k &&& 31)) = nI (a ||| 2 ^ k) := by decide +kernel
theorem ie_none {so row m i seen : Nat} {D : Nat → Int32} (h : itX so (chN tp n (skN tp n i)) = none) : ieS tp n so row (m + 1) i seen D = Sum.inr (skN tp n i, D) := by
  unfold ieS
  rw [h]
theorem ie_seen {so row m i seen k : Nat} {D : Nat → Int32} (h : itX so (chN tp n (skN tp n i)) = some k) (h2 : seen.testBit k = true) : ieS tp n so row (m + 1) i seen D = Sum.inl (skN tp n i) := by
  unfold ieS
  rw [h]
  show (if seen.testBit k = true then _ else _) = _
  rw [if_pos h2]
theorem ie_bad {so row m i seen k q : Nat} {D : Nat → Int32} (h : itX so (chN tp n (skN tp n i)) = some k) (h2 : seen.testBit k = false) (h3 : nuR tp n so k (skN tp n i + 1) = Sum.inl q) : ieS tp n so row (m + 1) i seen D = Sum.inl q := by
  unfold ieS
  rw [h]
  show (if seen.testBit k = true then _ else _) = _
  rw [if_neg (by rw [h2]; decide), h3]
theorem ie_ok {so row m i seen k : Nat} {q : Nat × Nat} {D : Nat → Int32} (h : itX so (chN tp n (skN tp n i)) = some k) (h2 : seen.testBit k = false) (h3 : nuR tp n so k (skN tp n i + 1) = Sum.inr q) : ieS tp n so row (m + 1) i seen D = ieS tp n so row m q.2 (seen ||| 2 ^ k) (upd D (row * 8 + k) (nI q.1)) := by
  have : ieS tp n so row (m + 1) i seen D = (match itX so (chN tp n (skN tp n i)) with
    | none => Sum.inr (skN tp n i, D)
    | some k => if seen.testBit k then Sum.inl (skN tp n i) else match nuR tp n so k (skN tp n i + 1) with
      | Sum.inl q => Sum.inl q
      | Sum.inr q => ieS tp n so row m q.2 (seen ||| 2 ^ k) (upd D (row * 8 + k) (nI q.1))) := rfl
  rw [this, h]
  show (if seen.testBit k = true then _ else _) = _
  rw [if_neg (by rw [h2]; decide), h3]
theorem fc_itemsL {c : CNT} {so row : Nat} (ht : TOK n tp) (hp : TPc n tp s) (hs : so < 4) (hr : row < 19) : ∀ (m rd fu i seen : Nat) (D : Nat → Int32) (t : S2), rd + m = 9 → m < fu → i ≤ n → seen < 256 → rd ≤ cbS seen 8 → CT s c D i t → ∃ t', f_Sea_readClause_L75 1 fu (nI so) (nI row) (nI seen) (nI rd) t = some (match ieS tp n so row m i seen D with
    | Sum.inl _ => (t', false)
    | Sum.inr _ => (t', true)) ∧ (match ieS tp n so row m i seen D with
    | Sum.inl q => (∃ D', CT s c D' q t') ∧ q ≤ n
    | Sum.inr q => CT s c q.2 q.1 t' ∧ q.1 ≤ n) := by
  intro m
  induction m with
  | zero =>
    intro rd fu i seen D t hrd hf hi hse hcb h
    have := cbS_le seen 8
    omega
  | succ m ih =>
    intro rd fu i seen D t hrd hf hi hse hcb h
    obtain ⟨g, rfl, hg⟩ := suc_lt hf
    have hk := skN_le (tp := tp) hi
    have hch := chN_lt ht (skN tp n i)
    have hl := fc_look ht (CT_tp h hp) hi
    rw [CT_tA h] at hl
    show ∃ t', b_Sea_readClause_L75 _ _ _ _ _ _ _ = _ ∧ _
    unfold b_Sea_readClause_L75
    rw [of_8, if_neg (nI_nlt (by omega) (by omega)), hl, Option.bind_some, fc_itemOf hs, Option.bind_some, of_m1]
    cases e : itX so (chN tp n (skN tp n i)) with
    | none =>
      rw [ie_none e]
      exact ⟨tA t (skN tp n i), if_pos rfl, CT_at h _, hk.2⟩
    | some k =>
      have h8 := itX_lt e
      have hlt : skN tp n i < n := by
        apply Classical.byContradiction
        intro hn
        have : chN tp n (skN tp n i) = 0 := if_neg hn
        rw [this] at e
        exact absurd e (it0 so hs k)
      rw [if_neg (show ¬ (tA t (skN tp n i), cdO (some k)).2 = -1 from cdO_nm1 k (by omega))]
      show ∃ t', (if (nI seen >>> (nI k &&& 31)) &&& Int32.ofInt 1 = 0 then _ else _) = _ ∧ _
      rw [of_1, bit_nI (by omega) (by omega)]
      cases b : seen.testBit k with
      | true =>
        rw [if_pos rfl, if_neg (show ¬ nI 1 = 0 by decide), ie_seen e b]
        exact ⟨tA t (skN tp n i), rfl, ⟨D, CT_at h _⟩, hk.2⟩
      | false =>
        rw [if_neg (show ¬ (false = true) by decide), if_pos nI_0]
        show ∃ t', (f_Tape_pass (tA t (skN tp n i))).bind _ = _ ∧ _
        rw [fc_pass1, Option.bind_some]
        obtain ⟨t1, a1, a2⟩ := fc_readItem (c := c) (D := D) (so := so) (k := k) (cell := row * 8 + k) ht hp (CT_at h (skN tp n i + 1)) (by omega) hs h8 (by omega)
        show ∃ t', (f_Sea_readItem 1 (nI so * nI 8 + nI k) (nI row * nI 8 + nI k) (tA t (skN tp n i + 1))).bind _ = _ ∧ _
        rw [mul_nI, mul_nI, nI_add, nI_add, a1]
        rw [show (tA t (skN tp n i + 1), cdO (some k)).2 = nI k from rfl] at *
        cases r : nuR tp n so k (skN tp n i + 1) with
        | inl q =>
          rw [r] at a2
          rw [ie_bad e b r]
          refine ⟨t1, ?_, ⟨D, a2⟩, nuR_le (by omega) r⟩
          rw [Option.bind_some]
          exact if_pos rfl
        | inr q =>
          rw [r] at a2
          have hq := (nuR_ri (show skN tp n i + 1 ≤ n by omega) r).1
          obtain ⟨t', b1, b2⟩ := ih (rd + 1) g q.2 (seen ||| 2 ^ k) _ t1 (by omega) hg hq (Nat.or_lt_two_pow (n := 8) hse (Nat.pow_lt_pow_right (by omega) h8)) (by have := or_cb h8 b; omega) a2
          rw [ie_ok e b r]
          refine ⟨t', ?_, b2⟩
          rw [Option.bind_some]
          refine (if_neg (show ¬ bI true = 0 by decide)).trans ?_
          show f_Sea_readClause_L75 1 g (nI so) (nI row) (nI seen ||| (nI 1 <<< (nI k &&& 31))) (nI rd + nI 1) t1 = _
          rw [or256 seen hse k h8, nI_add]
          exact b1
end
