/-! ===== a sea's text: the reference's clauses and the whole ===== -/
section
variable {s s0 t : S2} {tp : Nat → Nat} {n : Nat}
theorem mfa_up {q : Nat} {k : Nat} (x : Int32) (h : MFa tp n s q t) (hk : k = 21 ∨ k = 22 ∨ k = 23) : MFa tp n s q (pkS t 60 0 k x) := by
  have hK : Kmr 60 0 k = true := by rcases hk with rfl | rfl | rfl <;> rfl
  rcases h with h | ⟨h, h2⟩
  · exact Or.inl ⟨h.1.pk' _ hK, by rw [pkS_v, if_neg (by omega)]; exact h.2⟩
  · exact Or.inr ⟨⟨h.1.pk' _ hK, by rw [pkS_v, if_neg (by omega)]; exact h.2.1, by rw [pkS_v, if_neg (by omega)]; exact h.2.2⟩, h2⟩
theorem mst_up {c d : CNT} {D : Nat → Int32} {i so : Nat} (h : MST s c d D i t) (hs : so = 1 ∨ so = 2 ∨ so = 3) : MST s (cup c so) d D i (pkS t 60 0 (20 + so) (nI (c so + 1))) := by
  have hK : Kmr 60 0 (20 + so) = true := by rcases hs with rfl | rfl | rfl <;> rfl
  obtain ⟨h1, h2, h3, h4, h5⟩ := h
  refine ⟨h1.pk' _ hK, by rw [pkS_v, if_neg (by omega)]; exact h2, by rw [pkS_v, if_neg (by omega)]; exact h3, ?_, fun so' a k x1 x2 x3 => by rw [pkS_v, if_neg (by omega)]; exact h5 so' a k x1 x2 x3⟩
  obtain ⟨g1, g2, g3⟩ := h4
  unfold MCN cup
  rw [pkS_v, pkS_v, pkS_v]
  rcases hs with rfl | rfl | rfl
  · exact ⟨rfl, g2, g3⟩
  · exact ⟨g1, rfl, g3⟩
  · exact ⟨g1, g2, rfl⟩
theorem mst_w {c d : CNT} {D : Nat → Int32} {i : Nat} (h : MST s c d D i t) : MST s (cup c 0) d D i t := ⟨h.1, h.2.1, h.2.2.1, h.2.2.2.1, h.2.2.2.2⟩
/-- what a clause leaves -/
def CLm (tp : Nat → Nat) (n : Nat) (s : S2) (c : CNT) (t : S2) : Nat ⊕ (Nat × Nat × (Nat → Int32)) → Prop
  | Sum.inl q => q ≤ n ∧ MFa tp n s q t
  | Sum.inr q => q.1 ≤ n ∧ q.2.1 < 4 ∧ c q.2.1 < mxN q.2.1 ∧ MST s (cup c q.2.1) (cup c q.2.1) q.2.2 q.1 t
theorem cl_mul : mxN 0 * szN 0 = 4 ∧ mxN 1 * szN 1 = 48 ∧ mxN 2 * szN 2 = 32 ∧ mxN 3 * szN 3 = 12 := by decide +kernel
theorem soO_v : soO 119 = some 0 ∧ soO 105 = some 1 ∧ soO 116 = some 2 ∧ soO 98 = some 3 := by decide
theorem soO_n {ch : Nat} (h : soO ch = none) : ¬ ch = 119 ∧ ¬ ch = 105 ∧ ¬ ch = 116 ∧ ¬ ch = 98 := by
  unfold soO at h
  by_cases c1 : ch = 119
  · rw [if_pos c1] at h; cases h
  · rw [if_neg c1] at h
    by_cases c2 : ch = 105
    · rw [if_pos c2] at h; cases h
    · rw [if_neg c2] at h
      by_cases c3 : ch = 116
      · rw [if_pos c3] at h; cases h
      · rw [if_neg c3] at h
        by_cases c4 : ch = 98
        · rw [if_pos c4] at h; cases h
        · exact ⟨c1, c2, c3, c4⟩
theorem fm_clB {c : CNT} {D : Nat → Int32} {i : Nat} (ht : TOK n tp) (h : MST s c c D i t) (hi : i ≤ n) : f_M_clauseText_L202 t = some (bad4 t i) ∧ MFa tp n s i (bad4 t i) := by
  have := fm_bad (i := i) h.2.2.1
  rw [mst_mA h] at this
  unfold f_M_clauseText_L202
  rw [this, Option.bind_some]
  refine ⟨?_, Or.inl (mst_bad h i)⟩
  unfold bad4
  rw [mst_mA h]
theorem fm_clI {c : CNT} {D : Nat → Int32} {so i : Nat} (ht : TOK n tp) (hp : TPm n tp s) (hs : so = 1 ∨ so = 2 ∨ so = 3) (hc : cOK c) (hm : c so < mxN so) (hi : i < n) (h : MST s c c D i t) (e : cIx 0 (chN tp n i) = some so) (h2 : skN tp n i = i) : ∃ t', (f_M_items (nI (ltrN so)) (71 + so) 0 (mxN so * szN so) (nI (szN so * c so)) (nI (szN so)) (mA t (i + 1))).bind (fun q2 => (some (pkS q2 60 0 (20 + so) ((q2.1 60 0 (20 + so)) + (Int32.ofInt 1)))).bind fun s3 => some s3) = some t' ∧ CLm tp n s c t' (clS' tp n c D i) := by
  have hs4 : so < 4 := by omega
  obtain ⟨t1, a1, a2⟩ := fm_items (i := i + 1) ht hp hs4 hc hm (by omega) (mst_at h (i + 1))
  have e' : cIx 0 (chN tp n (skN tp n i)) = some so := by rw [h2]; exact e
  rw [a1, Option.bind_some, Option.bind_some]
  refine ⟨_, rfl, ?_⟩
  cases r : ieS tp n so (frN so + c so) 9 (i + 1) 0 (fiD so (frN so + c so) D) with
  | inl q =>
    rw [r] at a2
    rw [cl_bad e' hm (by rw [h2]; exact r)]
    exact ⟨a2.1, mfa_up _ a2.2 (by omega)⟩
  | inr q =>
    rw [r] at a2
    rw [cl_ok e' hm (by rw [h2]; exact r)]
    obtain ⟨b1, b2, b3⟩ := a2
    refine ⟨b1, hs4, hm, ?_⟩
    have hcn : t1.1 60 0 (20 + so) = nI (c so) := by
      obtain ⟨g1, g2, g3⟩ := b3.2.2.2.1
      rcases hs with rfl | rfl | rfl
      · exact g1
      · exact g2
      · exact g3
    rw [hcn, of_1, nI_add]
    exact mst_up b3 hs
theorem fm_clause {c : CNT} {D : Nat → Int32} {i : Nat} (ht : TOK n tp) (hp : TPm n tp s) (hc : cOK c) (hi : i ≤ n) (h : MST s c c D i t) (h2 : skN tp n i = i) : ∃ t', f_M_clauseText (nI (c 0)) t = some t' ∧ CLm tp n s c t' (clS' tp n c D i) := by
  have h240 := ht.1
  obtain ⟨v0, v1, v2, v3⟩ := mx_v
  obtain ⟨z0, z1, z2, z3⟩ := szn_v
  obtain ⟨y0, y1, y2, y3⟩ := cl_mul
  have hc0 := hc 0 (by omega)
  have hc1 := hc 1 (by omega)
  have hc2 := hc 2 (by omega)
  have hc3 := hc 3 (by omega)
  have hch := chN_lt ht i
  have hl := mst_look ht hp h hi
  rw [h2, mst_mA h] at hl
  have hx := cIx_so (chN tp n i) hch
  obtain ⟨g1, g2, g3⟩ := h.2.2.2.1
  obtain ⟨d1, d2⟩ := fm_clB ht h hi
  have is119 : (hmN tp n i = nI 119) = (chN tp n i = 119) := hm_is ht (by omega) (by omega)
  have is105 : (hmN tp n i = nI 105) = (chN tp n i = 105) := hm_is ht (by omega) (by omega)
  have is116 : (hmN tp n i = nI 116) = (chN tp n i = 116) := hm_is ht (by omega) (by omega)
  have is98 : (hmN tp n i = nI 98) = (chN tp n i = 98) := hm_is ht (by omega) (by omega)
  unfold f_M_clauseText
  rw [hl, Option.bind_some]
  show ∃ t', (if hmN tp n i = Int32.ofInt 119 then (if nI (c 0) = 0 then _ else f_M_clauseText_L39 (hmN tp n i) t) else f_M_clauseText_L39 (hmN tp n i) t) = _ ∧ _
  rw [of_119]
  have cbad : cIx 0 (chN tp n i) = none → CLm tp n s c (bad4 t i) (clS' tp n c D i) := fun z => by
    rw [cl_none (by rw [h2]; exact z), h2]
    exact ⟨hi, d2⟩
  have cful : ∀ so, cIx 0 (chN tp n i) = some so → ¬ c so < mxN so → CLm tp n s c (bad4 t i) (clS' tp n c D i) := fun so z z2 => by
    rw [cl_full (by rw [h2]; exact z) z2, h2]
    exact ⟨hi, d2⟩
  have L149b : ¬ chN tp n i = 98 → f_M_clauseText_L149 (hmN tp n i) t = some (bad4 t i) := fun z => by
    unfold f_M_clauseText_L149
    rw [of_98, if_neg (fun y => z (is98.mp y)), d1]
  have L95b : ¬ chN tp n i = 116 → f_M_clauseText_L95 (hmN tp n i) t = f_M_clauseText_L149 (hmN tp n i) t := fun z => by
    unfold f_M_clauseText_L95
    rw [of_116, if_neg (fun y => z (is116.mp y))]
  have L39b : ¬ chN tp n i = 105 → f_M_clauseText_L39 (hmN tp n i) t = f_M_clauseText_L95 (hmN tp n i) t := fun z => by
    unfold f_M_clauseText_L39
    rw [of_105, if_neg (fun y => z (is105.mp y))]
  by_cases c119 : chN tp n i = 119
  · have hix : cIx 0 (chN tp n i) = some 0 := by rw [hx, c119]; exact soO_v.1
    rw [if_pos (is119.mpr c119)]
    by_cases e0 : c 0 = 0
    · rw [if_pos (by rw [e0]; exact nI_0), h.2.1, of_1, nI_add, Option.bind_some]
      obtain ⟨t1, a1, a2⟩ := fm_items (so := 0) (i := i + 1) ht hp (by omega) hc (by omega) (by have := chN_p c119 (by omega); omega) (mst_at h (i + 1))
      rw [y0, z0, e0] at a1
      have e : hmN tp n i = nI (ltrN 0) := is119.mpr c119
      rw [e]
      refine ⟨t1, ?_, ?_⟩
      · show (f_M_items (nI (ltrN 0)) 71 0 4 (Int32.ofInt 0) (Int32.ofInt 4) (mA t (i + 1))).bind _ = _
        rw [show Int32.ofInt 0 = nI 0 from of_0, of_4, show f_M_items (nI (ltrN 0)) 71 0 4 (nI 0) (nI 4) (mA t (i + 1)) = some t1 from a1, Option.bind_some]
      · cases r : ieS tp n 0 (frN 0 + c 0) 9 (i + 1) 0 (fiD 0 (frN 0 + c 0) D) with
        | inl q =>
          rw [r] at a2
          rw [cl_bad (so := 0) (by rw [h2]; exact hix) (by omega) (by rw [h2]; exact r)]
          exact a2
        | inr q =>
          rw [r] at a2
          rw [cl_ok (so := 0) (by rw [h2]; exact hix) (by omega) (by rw [h2]; exact r)]
          exact ⟨a2.1, (by show (0 : Nat) < 4; omega), (by show c 0 < mxN 0; omega), mst_w a2.2.2⟩
    · rw [if_neg (fun z => e0 ((nI_eq (by omega) (by omega)).mp (z.trans nI_0.symm))), L39b (by omega), L95b (by omega), L149b (by omega)]
      exact ⟨_, rfl, cful 0 hix (by omega)⟩
  · rw [if_neg (fun y => c119 (is119.mp y))]
    by_cases c105 : chN tp n i = 105
    · have hix : cIx 0 (chN tp n i) = some 1 := by rw [hx, c105]; exact soO_v.2.1
      have e : hmN tp n i = nI (ltrN 1) := is105.mpr c105
      by_cases f : c 1 < mxN 1
      · unfold f_M_clauseText_L39
        rw [of_105, if_pos (is105.mpr c105), g1, of_6, if_neg (nI_ge (by omega) (by omega)), h.2.1, of_1, nI_add, Option.bind_some, e]
        obtain ⟨t', a1, a2⟩ := fm_clI (so := 1) ht hp (Or.inl rfl) hc f (chN_p c105 (by omega)) h hix h2
        refine ⟨t', ?_, a2⟩
        show (f_M_items (nI (ltrN 1)) 72 0 48 (Int32.ofInt 8 * (mA t (i + 1)).1 60 0 21) (Int32.ofInt 8) (mA t (i + 1))).bind _ = _
        rw [mA_o (by omega), g1, of_8, mul_nI]
        rw [y1, z1] at a1
        exact a1
      · unfold f_M_clauseText_L39
        rw [of_105, if_pos (is105.mpr c105), g1, of_6, if_pos (nI_le (by omega) (by omega)), L95b (by omega), L149b (by omega)]
        exact ⟨_, rfl, cful 1 hix f⟩
    · rw [L39b c105]
      by_cases c116 : chN tp n i = 116
      · have hix : cIx 0 (chN tp n i) = some 2 := by rw [hx, c116]; exact soO_v.2.2.1
        have e : hmN tp n i = nI (ltrN 2) := is116.mpr c116
        by_cases f : c 2 < mxN 2
        · unfold f_M_clauseText_L95
          rw [of_116, if_pos (is116.mpr c116), g2, of_8, if_neg (nI_ge (by omega) (by omega)), h.2.1, of_1, nI_add, Option.bind_some, e]
          obtain ⟨t', a1, a2⟩ := fm_clI (so := 2) ht hp (Or.inr (Or.inl rfl)) hc f (chN_p c116 (by omega)) h hix h2
          refine ⟨t', ?_, a2⟩
          show (f_M_items (nI (ltrN 2)) 73 0 32 (Int32.ofInt 4 * (mA t (i + 1)).1 60 0 22) (Int32.ofInt 4) (mA t (i + 1))).bind _ = _
          rw [mA_o (by omega), g2, of_4, mul_nI]
          rw [y2, z2] at a1
          exact a1
        · unfold f_M_clauseText_L95
          rw [of_116, if_pos (is116.mpr c116), g2, of_8, if_pos (nI_le (by omega) (by omega)), L149b (by omega)]
          exact ⟨_, rfl, cful 2 hix f⟩
      · rw [L95b c116]
        by_cases c98 : chN tp n i = 98
        · have hix : cIx 0 (chN tp n i) = some 3 := by rw [hx, c98]; exact soO_v.2.2.2
          have e : hmN tp n i = nI (ltrN 3) := is98.mpr c98
          by_cases f : c 3 < mxN 3
          · unfold f_M_clauseText_L149
            rw [of_98, if_pos (is98.mpr c98), g3, of_4, if_neg (nI_ge (by omega) (by omega)), h.2.1, of_1, nI_add, Option.bind_some, e]
            obtain ⟨t', a1, a2⟩ := fm_clI (so := 3) ht hp (Or.inr (Or.inr rfl)) hc f (chN_p c98 (by omega)) h hix h2
            refine ⟨t', ?_, a2⟩
            show (f_M_items (nI (ltrN 3)) 74 0 12 (Int32.ofInt 3 * (mA t (i + 1)).1 60 0 23) (Int32.ofInt 3) (mA t (i + 1))).bind _ = _
            rw [mA_o (by omega), g3, of_3, mul_nI]
            rw [y3, z3] at a1
            exact a1
          · unfold f_M_clauseText_L149
            rw [of_98, if_pos (is98.mpr c98), g3, of_4, if_pos (nI_le (by omega) (by omega)), d1]
            exact ⟨_, rfl, cful 3 hix f⟩
        · rw [L149b c98]
          refine ⟨_, rfl, cbad ?_⟩
          rw [hx]
          unfold soO
          rw [if_neg c119, if_neg c105, if_neg c116, if_neg c98]
end
