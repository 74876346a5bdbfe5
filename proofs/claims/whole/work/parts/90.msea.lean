/-! ===== a sea's text: the reference ===== -/
section
variable {s s0 t : S2} {tp : Nat → Nat} {n : Nat}
def szN : Nat → Nat
  | 0 => 4
  | 1 => 8
  | 2 => 4
  | _ => 3
def zS : S2 := (fun _ _ _ => 0, fun _ => 0)
theorem us_z : ∀ so, so < 4 → ∀ k, k < szN so → g_M_usual (nI (ltrN so)) (nI k) zS = lgD (kstat 0) (so * 8 + k) := by decide +kernel
theorem us_at {so k : Nat} (hs : so < 4) (hk : k < szN so) : g_M_usual (nI (ltrN so)) (nI k) s = lgD (kstat 0) (so * 8 + k) := us_z so hs k hk
theorem lo_z : ∀ so, so < 4 → ∀ k, k < szN so → g_M_lowest (nI (ltrN so)) (nI k) zS = nI (loN so k) ∧ g_M_highest (nI (ltrN so)) (nI k) zS = nI (hiN so k) ∧ loN so k < 200 ∧ hiN so k < 200 := by decide +kernel
theorem lo_at {so k : Nat} (hs : so < 4) (hk : k < szN so) : g_M_lowest (nI (ltrN so)) (nI k) s = nI (loN so k) ∧ g_M_highest (nI (ltrN so)) (nI k) s = nI (hiN so k) ∧ loN so k < 200 ∧ hiN so k < 200 := lo_z so hs k hk
theorem io_z : ∀ so, so < 4 → ∀ ch, ch < 256 → ¬ ch = 32 → g_M_itemOf (nI (ltrN so)) (nI ch) zS = cdO (itX so ch) := by decide +kernel
theorem io_e : ∀ so, so < 4 → g_M_itemOf (nI (ltrN so)) (-1) zS = -1 ∧ itX so 0 = none := by decide +kernel
theorem it_sz : ∀ so, so < 4 → ∀ ch, ch < 256 → ¬ ch = 32 → (itX so ch).all (fun k => decide (k < szN so) && (decide (0 < ch) && !decide (ch = 59))) = true := by decide +kernel
theorem it_at {so ch k : Nat} (hs : so < 4) (hc : ch < 256) (h3 : ¬ ch = 32) (h : itX so ch = some k) : k < szN so ∧ 0 < ch ∧ ¬ ch = 59 := by
  have := it_sz so hs ch hc h3
  rw [h] at this
  have h2 : (decide (k < szN so) && (decide (0 < ch) && !decide (ch = 59))) = true := this
  simp only [Bool.and_eq_true, decide_eq_true_eq, Bool.not_eq_true', decide_eq_false_iff_not] at h2
  exact h2
theorem io_at (ht : TOK n tp) {so i : Nat} (hs : so < 4) (h3 : i < n → ¬ tp i = 32) : g_M_itemOf (nI (ltrN so)) (hmN tp n i) s = cdO (itX so (chN tp n i)) := by
  unfold hmN chN
  by_cases d : i < n
  · rw [if_pos d, if_pos d]
    exact io_z so hs (tp i) (ht.2 i d).2 (h3 d)
  · rw [if_neg d, if_neg d, (io_e so hs).2]
    exact (io_e so hs).1
def soO (ch : Nat) : Option Nat := if ch = 119 then some 0 else if ch = 105 then some 1 else if ch = 116 then some 2 else if ch = 98 then some 3 else none
theorem cIx_so : ∀ ch, ch < 256 → cIx 0 ch = soO ch := by decide +kernel
theorem sz_le : ∀ so, so < 4 → szN so ≤ 8 ∧ ltrN so < 200 ∧ 0 < ltrN so := by decide +kernel
/-- a number -/
theorem dg_2 {j : Nat} (h : dgN tp n j = true) : dgS tp n 2 0 j = if dgN tp n (j + 1) then (10 * (tp j - 48) + tp (j + 1) - 48, j + 2) else (tp j - 48, j + 1) := by
  show (if dgN tp n j then (if dgN tp n (j + 1) then (10 * (10 * 0 + tp j - 48) + tp (j + 1) - 48, j + 1 + 1) else (10 * 0 + tp j - 48, j + 1)) else (0, j)) = _
  rw [h, if_pos rfl, show 10 * 0 + tp j - 48 = tp j - 48 by omega]
theorem fm_67 (ht : TOK n tp) (hp : TPm n tp t) (h4 : t.1 60 0 4 = -1) {lo hi v j : Nat} (hl : lo < 200) (hh : hi < 200) (hv : v < 200) (hj : j ≤ n) (h1 : 1 ≤ j) : f_M_number_L67 (nI lo) (nI hi) (nI v) (mA t j) = some (if dgN tp n j then (bad4 t j, nI v) else if lo ≤ v ∧ v ≤ hi then (mA t j, nI v) else (bad4 t (j - 1), nI v)) := by
  unfold f_M_number_L67
  rw [fm_here ht hp hj, Option.bind_some, fm_digit ht]
  cases c : dgN tp n j with
  | true =>
    rw [ifT, fm_bad h4, Option.bind_some, if_pos rfl]
    rfl
  | false =>
    rw [ifF]
    have hin : g_M_in (nI v) (nI lo) (nI hi) (mA t j) = decide (lo ≤ v ∧ v ≤ hi) := by
      unfold g_M_in
      by_cases c1 : v < lo
      · rw [if_pos (nI_lt c1 (by omega)), decide_eq_false (by omega)]
      · rw [if_neg (nI_nlt (by omega) (by omega))]
        by_cases c2 : hi < v
        · rw [if_pos (nI_lt c2 (by omega)), decide_eq_false (by omega)]
        · rw [if_neg (nI_nlt (by omega) (by omega)), decide_eq_true (by omega)]
    rw [hin]
    by_cases d : lo ≤ v ∧ v ≤ hi
    · rw [decide_eq_true d, ifT, if_neg (show ¬ (false = true) by decide), if_pos d]
    · rw [decide_eq_false d, ifF, if_neg (show ¬ (false = true) by decide), if_neg d, mA_at, of_1, sub_nI h1, Option.bind_some, show pkS (mA t j) 60 0 3 (nI (j - 1)) = mA t (j - 1) from mA_mA t j (j - 1), fm_bad h4, Option.bind_some]
      rfl
theorem fm_number (ht : TOK n tp) (hp : TPm n tp t) (h4 : t.1 60 0 4 = -1) {so k i : Nat} (hs : so < 4) (hk : k < szN so) (hi : i ≤ n) : ∃ v, f_M_number (nI (loN so k)) (nI (hiN so k)) (mA t i) = some (match nuR tp n so k i with
    | Sum.inl q => (bad4 t q, v)
    | Sum.inr q => (mA t q.2, nI q.1)) := by
  obtain ⟨-, -, hlo, hhi⟩ := lo_at (s := t) hs hk
  have hkk := skN_le (tp := tp) hi
  unfold f_M_number nuR nuG
  rw [fm_look ht hp hi, Option.bind_some]
  show ∃ v, (if bI (g_M_isDigit (hmN tp n (skN tp n i)) (mA t (skN tp n i))) = 0 then _ else _) = _
  rw [fm_digit ht]
  cases c : dgN tp n (skN tp n i) with
  | false =>
    rw [ifF, if_neg (by decide)]
    refine ⟨nI (loN so k), ?_⟩
    show (f_M_bad (mA t (skN tp n i))).bind _ = _
    rw [fm_bad h4, Option.bind_some]
    rfl
  | true =>
    obtain ⟨c1, c2, c3⟩ := dgN_at c
    have e : hmN tp n (skN tp n i) = nI (tp (skN tp n i)) := if_pos c1
    rw [ifT, if_pos rfl]
    show ∃ v, (f_M_here (mA t (skN tp n i))).bind _ = _
    rw [fm_here ht hp (by omega), Option.bind_some, e]
    show ∃ v, (some (pkS (mA t (skN tp n i)) 60 0 3 ((mA t (skN tp n i)).1 60 0 3 + Int32.ofInt 1))).bind _ = _
    rw [mA_at, of_1, nI_add, Option.bind_some, show pkS (mA t (skN tp n i)) 60 0 3 (nI (skN tp n i + 1)) = mA t (skN tp n i + 1) from mA_mA t _ _, fm_here ht hp (by omega), Option.bind_some, fm_digit ht, dg_2 c]
    cases d : dgN tp n (skN tp n i + 1) with
    | false =>
      refine ⟨nI (tp (skN tp n i) - 48), ?_⟩
      rw [ifF, of_48, sub_nI c2, fm_67 ht hp h4 hlo hhi (by omega) (by omega) (by omega), d]
      rw [if_neg (show ¬ (false = true) by decide), if_neg (show ¬ (false = true) by decide), d, if_neg (show ¬ (false = true) by decide)]
      show _ = some (match (if loN so k ≤ tp (skN tp n i) - 48 ∧ tp (skN tp n i) - 48 ≤ hiN so k then Sum.inr (tp (skN tp n i) - 48, skN tp n i + 1) else Sum.inl (skN tp n i + 1 - 1) : Nat ⊕ (Nat × Nat)) with
        | Sum.inl q => (bad4 t q, nI (tp (skN tp n i) - 48))
        | Sum.inr q => (mA t q.2, nI q.1))
      by_cases y : loN so k ≤ tp (skN tp n i) - 48 ∧ tp (skN tp n i) - 48 ≤ hiN so k
      · rw [if_pos y, if_pos y]
      · rw [if_neg y, if_neg y]
    | true =>
      obtain ⟨d1, d2, d3⟩ := dgN_at d
      have e2 : hmN tp n (skN tp n i + 1) = nI (tp (skN tp n i + 1)) := if_pos d1
      refine ⟨nI (10 * (tp (skN tp n i) - 48) + tp (skN tp n i + 1) - 48), ?_⟩
      rw [ifT, Option.bind_some, mA_at, nI_add, Option.bind_some, show pkS (mA t (skN tp n i + 1)) 60 0 3 (nI (skN tp n i + 1 + 1)) = mA t (skN tp n i + 2) from mA_mA t _ _, of_48, of_10, sub_nI c2, mul_nI, e2, nI_add, sub_nI (by omega), fm_67 ht hp h4 hlo hhi (by omega) (by omega) (by omega)]
      rw [if_pos rfl]
      show some (if dgN tp n (skN tp n i + 2) = true then _ else _) = some (match (match (if dgN tp n (skN tp n i + 2) = true then Sum.inl (skN tp n i + 2) else Sum.inr (10 * (tp (skN tp n i) - 48) + tp (skN tp n i + 1) - 48, skN tp n i + 2) : Nat ⊕ (Nat × Nat)) with
        | Sum.inl q => Sum.inl q
        | Sum.inr q => if loN so k ≤ q.1 ∧ q.1 ≤ hiN so k then Sum.inr q else Sum.inl (q.2 - 1) : Nat ⊕ (Nat × Nat)) with
        | Sum.inl q => (bad4 t q, nI (10 * (tp (skN tp n i) - 48) + tp (skN tp n i + 1) - 48))
        | Sum.inr q => (mA t q.2, nI q.1))
      by_cases f : dgN tp n (skN tp n i + 2) = true
      · rw [if_pos f, if_pos f]
      · rw [if_neg f, if_neg f]
        show _ = some (match (if loN so k ≤ 10 * (tp (skN tp n i) - 48) + tp (skN tp n i + 1) - 48 ∧ 10 * (tp (skN tp n i) - 48) + tp (skN tp n i + 1) - 48 ≤ hiN so k then Sum.inr (10 * (tp (skN tp n i) - 48) + tp (skN tp n i + 1) - 48, skN tp n i + 2) else Sum.inl (skN tp n i + 2 - 1) : Nat ⊕ (Nat × Nat)) with
        | Sum.inl q => (bad4 t q, nI (10 * (tp (skN tp n i) - 48) + tp (skN tp n i + 1) - 48))
        | Sum.inr q => (mA t q.2, nI q.1))
        by_cases y : loN so k ≤ 10 * (tp (skN tp n i) - 48) + tp (skN tp n i + 1) - 48 ∧ 10 * (tp (skN tp n i) - 48) + tp (skN tp n i + 1) - 48 ≤ hiN so k
        · rw [if_pos y, if_pos y]
        · rw [if_neg y, if_neg y]
/-- the reference while it reads -/
def Kmr (c _ k : Nat) : Bool := (c == 60 && (k == 3 || (k == 4 || (k == 21 || (k == 22 || k == 23))))) || (c == 71 || (c == 72 || (c == 73 || c == 74)))
def MSD (c : CNT) (D : Nat → Int32) (t : S2) : Prop := ∀ so a k, so < 4 → (a < c so ∨ (so = 0 ∧ a = 0)) → k < szN so → t.1 (71 + so) 0 (szN so * a + k) = D ((frN so + a) * 8 + k)
def MCN (c : CNT) (t : S2) : Prop := t.1 60 0 21 = nI (c 1) ∧ t.1 60 0 22 = nI (c 2) ∧ t.1 60 0 23 = nI (c 3)
def MST (s : S2) (c d : CNT) (D : Nat → Int32) (i : Nat) (t : S2) : Prop := Fr Kmr s t ∧ t.1 60 0 3 = nI i ∧ t.1 60 0 4 = -1 ∧ MCN c t ∧ MSD d D t
theorem mst_mA {c d : CNT} {D : Nat → Int32} {i : Nat} (h : MST s c d D i t) : mA t i = t := pkS_self _ _ _ _ _ h.2.1
theorem mst_tp {c d : CNT} {D : Nat → Int32} {i : Nat} (h : MST s c d D i t) (hp : TPm n tp s) : TPm n tp t := by
  unfold TPm at hp ⊢
  rw [h.1.1 60 0 2 rfl, h.1.arr (c := 61) (i := 0) fun _ => rfl]
  exact hp
theorem mst_at {c d : CNT} {D : Nat → Int32} {i : Nat} (h : MST s c d D i t) (j : Nat) : MST s c d D j (mA t j) := by
  obtain ⟨h1, h2, h3, h4, h5⟩ := h
  refine ⟨h1.pk' _ rfl, mA_at _ _, (mA_o (by omega)).trans h3, ⟨(mA_o (by omega)).trans h4.1, (mA_o (by omega)).trans h4.2.1, (mA_o (by omega)).trans h4.2.2⟩, fun so a k x1 x2 x3 => (mA_o (by omega)).trans (h5 so a k x1 x2 x3)⟩
/-- a clause or an item that is wrong -/
def MB (s : S2) (q : Nat) (t : S2) : Prop := Fr Kmr s t ∧ t.1 60 0 4 = nI q
theorem mst_bad {c d : CNT} {D : Nat → Int32} {i : Nat} (h : MST s c d D i t) (q : Nat) : MB s q (bad4 t q) := ⟨(mst_at h q).1.pk' _ rfl, by unfold bad4; rw [pkS_v, if_pos ⟨rfl, rfl, rfl⟩]⟩
theorem m1_ne {q : Nat} (h : q < 1000) : ¬ nI q = -1 := cdO_nm1 q (by omega)
theorem szn_v : szN 0 = 4 ∧ szN 1 = 8 ∧ szN 2 = 4 ∧ szN 3 = 3 := by decide
theorem frn_v : frN 0 = 0 ∧ frN 1 = 1 ∧ frN 2 = 7 ∧ frN 3 = 15 := by decide +kernel
/-- one cell of the row that is read -/
theorem mst_put {c d : CNT} {D : Nat → Int32} {i so k : Nat} {X : Int32} (h : MST s c d D i t) (hs : so < 4) (hk : k < szN so) (hd : ∀ j, j < 4 → d j ≤ mxN j) (hso : 0 < d so) : MST s c d (upd D ((frN so + (d so - 1)) * 8 + k) X) i (pkS t (71 + so) 0 (szN so * (d so - 1) + k) X) := by
  obtain ⟨h1, h2, h3, h4, h5⟩ := h
  have hK : Kmr (71 + so) 0 (szN so * (d so - 1) + k) = true := by
    rcases (show so = 0 ∨ so = 1 ∨ so = 2 ∨ so = 3 by omega) with rfl | rfl | rfl | rfl <;> rfl
  refine ⟨h1.pk' _ hK, by rw [pkS_v, if_neg (by omega)]; exact h2, by rw [pkS_v, if_neg (by omega)]; exact h3, ⟨by rw [pkS_v, if_neg (by omega)]; exact h4.1, by rw [pkS_v, if_neg (by omega)]; exact h4.2.1, by rw [pkS_v, if_neg (by omega)]; exact h4.2.2⟩, fun so' a k' x1 x2 x3 => ?_⟩
  have e0 := h5 so' a k' x1 x2 x3
  have hd' := hd so hs
  have hd2 := hd so' x1
  have hz := sz_le so hs
  have hz' := sz_le so' x1
  obtain ⟨z0, z1, z2, z3⟩ := szn_v
  obtain ⟨f0, f1, f2, f3⟩ := frn_v
  obtain ⟨m0, m1, m2, m3⟩ := mx_v
  rw [pkS_v]
  by_cases e : so' = so
  · subst e
    by_cases e2 : a = d so' - 1 ∧ k' = k
    · obtain ⟨rfl, rfl⟩ := e2
      rw [if_pos ⟨rfl, rfl, rfl⟩, upd_eq]
    · have ne1 : ¬ szN so' * a + k' = szN so' * (d so' - 1) + k := by
        rcases (show so' = 0 ∨ so' = 1 ∨ so' = 2 ∨ so' = 3 by omega) with rfl | rfl | rfl | rfl <;> simp only [z0, z1, z2, z3] at x3 hk ⊢ <;> omega
      rw [if_neg (by omega), upd_ne _ _ (by omega)]
      exact e0
  · rw [if_neg (by omega), upd_ne _ _ ?_]
    · exact e0
    · rcases (show so = 0 ∨ so = 1 ∨ so = 2 ∨ so = 3 by omega) with rfl | rfl | rfl | rfl <;> rcases (show so' = 0 ∨ so' = 1 ∨ so' = 2 ∨ so' = 3 by omega) with rfl | rfl | rfl | rfl <;> simp only [f0, f1, f2, f3, m0, m1, m2, m3, z0, z1, z2, z3] at x3 hk hd' hd2 ⊢ <;> omega
end
