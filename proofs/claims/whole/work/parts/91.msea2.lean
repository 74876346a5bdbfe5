/-! ===== a sea's text: the reference's items and clauses ===== -/
section
variable {s s0 t : S2} {tp : Nat → Nat} {n : Nat}
def MRr (s : S2) (q : Nat) (t : S2) : Prop := Fr Kmr s t ∧ t.1 60 0 3 = nI q ∧ t.1 60 0 4 = -1
def MFa (tp : Nat → Nat) (n : Nat) (s : S2) (q : Nat) (t : S2) : Prop := MB s q t ∨ (MRr s q t ∧ skN tp n q = q ∧ ¬ chN tp n q = 0 ∧ ¬ chN tp n q = 59)
def FJ (s : S2) (c : CNT) (D : Nat → Int32) (i so k : Nat) (t : S2) : Prop := Fr Kmr s t ∧ t.1 60 0 3 = nI i ∧ t.1 60 0 4 = -1 ∧ MCN c t ∧ (∀ so' a' k', so' < 4 → ¬ (so' = so ∧ a' = c so) → (a' < c so' ∨ (so' = 0 ∧ a' = 0)) → k' < szN so' → t.1 (71 + so') 0 (szN so' * a' + k') = D ((frN so' + a') * 8 + k')) ∧ ∀ j, j < k → t.1 (71 + so) 0 (szN so * c so + j) = lgD (kstat 0) (so * 8 + j)
theorem row_ne {so a k so' a' k' : Nat} (hs : so < 4) (hs' : so' < 4) (ha : a < mxN so) (ha' : a' < mxN so') (hk : k < szN so) (hk' : k' < szN so') (h : ¬ (so' = so ∧ a' = a)) : ¬ (71 + so' = 71 + so ∧ szN so' * a' + k' = szN so * a + k) ∧ ¬ ((frN so + a) * 8 ≤ (frN so' + a') * 8 + k' ∧ (frN so' + a') * 8 + k' < (frN so + a) * 8 + 8) := by
  obtain ⟨z0, z1, z2, z3⟩ := szn_v
  obtain ⟨f0, f1, f2, f3⟩ := frn_v
  obtain ⟨m0, m1, m2, m3⟩ := mx_v
  rcases (show so = 0 ∨ so = 1 ∨ so = 2 ∨ so = 3 by omega) with rfl | rfl | rfl | rfl <;> rcases (show so' = 0 ∨ so' = 1 ∨ so' = 2 ∨ so' = 3 by omega) with rfl | rfl | rfl | rfl <;> simp only [f0, f1, f2, f3, m0, m1, m2, m3, z0, z1, z2, z3] at ha ha' hk hk' ⊢ <;> omega
theorem mx_pos : ∀ so, so < 4 → 0 < mxN so ∧ mxN so * szN so ≤ 48 := by decide +kernel
theorem mx_mul {so a k : Nat} (ha : a < mxN so) (hk : k < szN so) : szN so * a + k < mxN so * szN so := by
  have h1 : szN so * (a + 1) ≤ szN so * mxN so := Nat.mul_le_mul_left _ ha
  rw [Nat.mul_comm (mxN so), Nat.mul_succ] at *
  omega
theorem fj_end {c : CNT} {D : Nat → Int32} {i so : Nat} (hs : so < 4) (hc : cOK c) (hm : c so < mxN so) (h : FJ s c D i so (szN so) t) : MST s c (cup c so) (fiD so (frN so + c so) D) i t := by
  obtain ⟨h1, h2, h3, h4, h5, h6⟩ := h
  refine ⟨h1, h2, h3, h4, fun so' a' k' x1 x2 x3 => ?_⟩
  have hz := sz_le so hs
  by_cases e : so' = so ∧ a' = c so
  · obtain ⟨rfl, rfl⟩ := e
    rw [h6 k' x3]
    unfold fiD
    rw [if_pos (by omega), show (frN so' + c so') * 8 + k' - (frN so' + c so') * 8 = k' by omega]
  · have hc' := hc so' x1
    have ha' : a' < c so' ∨ (so' = 0 ∧ a' = 0) := by
      rcases x2 with x2 | x2
      · unfold cup at x2
        by_cases e2 : so' = so
        · rw [if_pos e2] at x2
          subst e2
          left
          omega
        · rw [if_neg e2] at x2; exact Or.inl x2
      · exact Or.inr x2
    have hmp := (mx_pos so' x1).1
    have hr := (row_ne (k := 0) hs x1 hm (by omega) (by obtain ⟨z0, z1, z2, z3⟩ := szn_v; rcases (show so = 0 ∨ so = 1 ∨ so = 2 ∨ so = 3 by omega) with rfl | rfl | rfl | rfl <;> omega) x3 e).2
    rw [h5 so' a' k' x1 e ha' x3]
    unfold fiD
    rw [if_neg hr]
theorem fm_fill {c : CNT} {D : Nat → Int32} {i so : Nat} (hs : so < 4) (hc : cOK c) (hm : c so < mxN so) : ∀ (m k fu : Nat) (t : S2), k + m = szN so → m < fu → FJ s c D i so k t → ∃ t', MST s c (cup c so) (fiD so (frN so + c so) D) i t' ∧ f_M_items_L3 (71 + so) 0 (mxN so * szN so) fu (nI (ltrN so)) (nI (szN so * c so)) (nI (szN so)) (nI k) t = ((f_M_look t').bind fun q1 => (f_M_items_L41 (71 + so) 0 (mxN so * szN so) FU (nI (ltrN so)) (nI (szN so * c so)) (Int32.ofInt 0) (g_M_itemOf (nI (ltrN so)) q1.2 q1.1) q1.1)) := by
  have hz := sz_le so hs
  intro m
  induction m with
  | zero =>
    intro k fu t hk hf h
    obtain ⟨g, rfl, -⟩ := suc_of hf
    refine ⟨t, fj_end hs hc hm (by rw [← hk]; exact h), ?_⟩
    show b_M_items_L3 _ _ _ _ _ _ _ _ _ = _
    unfold b_M_items_L3
    rw [if_pos (nI_le (by omega) (by omega))]
  | succ m ih =>
    intro k fu t hk hf h
    obtain ⟨g, rfl, hg⟩ := suc_lt hf
    obtain ⟨h1, h2, h3, h4, h5, h6⟩ := h
    have hkz : k < szN so := by omega
    have hmu := mx_mul hm hkz
    have h48 := (mx_pos so hs).2
    have hK : Kmr (71 + so) 0 (szN so * c so + k) = true := by
      rcases (show so = 0 ∨ so = 1 ∨ so = 2 ∨ so = 3 by omega) with rfl | rfl | rfl | rfl <;> rfl
    obtain ⟨t', a1, a2⟩ := ih (k + 1) g (pkS t (71 + so) 0 (szN so * c so + k) (lgD (kstat 0) (so * 8 + k))) (by omega) hg ⟨h1.pk' _ hK, by rw [pkS_v, if_neg (by omega)]; exact h2, by rw [pkS_v, if_neg (by omega)]; exact h3, ⟨by rw [pkS_v, if_neg (by omega)]; exact h4.1, by rw [pkS_v, if_neg (by omega)]; exact h4.2.1, by rw [pkS_v, if_neg (by omega)]; exact h4.2.2⟩, fun so' a' k' x1 x2 x3 x4 => by
        have hc' := hc so' x1
        have hmp := (mx_pos so' x1).1
        have hr := (row_ne hs x1 hm (by omega) hkz x4 x2).1
        rw [pkS_v, if_neg (by omega)]
        exact h5 so' a' k' x1 x2 x3 x4, fun j hj => by
        rw [pkS_v]
        by_cases e : j = k
        · rw [if_pos (by omega), e]
        · rw [if_neg (by omega)]
          exact h6 j (by omega)⟩
    refine ⟨t', a1, ?_⟩
    show b_M_items_L3 _ _ _ _ _ _ _ _ _ = _
    unfold b_M_items_L3
    rw [if_neg (nI_ge (by omega) (by omega)), nI_add, ix_nI (n := mxN so * szN so) (k := szN so * c so + k) hmu (by omega), Option.bind_some, Option.bind_some, us_at hs hkz, of_1, nI_add]
    exact a2
theorem chN_32 {i : Nat} (hi : i ≤ n) : ¬ chN tp n (skN tp n i) = 32 := by
  unfold chN
  by_cases d : skN tp n i < n
  · rw [if_pos d]; exact skN_ne hi d
  · rw [if_neg d]; decide
theorem skN_2 {i : Nat} (hi : i ≤ n) : skN tp n (skN tp n i) = skN tp n i := skN_id fun h => skN_ne hi h
theorem mst_look {c d : CNT} {D : Nat → Int32} {i : Nat} (ht : TOK n tp) (hp : TPm n tp s) (h : MST s c d D i t) (hi : i ≤ n) : f_M_look t = some (mA t (skN tp n i), hmN tp n (skN tp n i)) := by
  have hl := fm_look ht (mst_tp h hp) hi
  rw [mst_mA h] at hl
  exact hl
theorem fm_itemsL {c d : CNT} {so : Nat} (ht : TOK n tp) (hp : TPm n tp s) (hs : so < 4) (hd : ∀ j, j < 4 → d j ≤ mxN j) (hso : 0 < d so) : ∀ (m rd fu i seen : Nat) (D : Nat → Int32) (t : S2), rd + m = 9 → m + 1 < fu → i ≤ n → seen < 256 → rd ≤ cbS seen 8 → MST s c d D (skN tp n i) t → ∃ t', f_M_items_L41 (71 + so) 0 (mxN so * szN so) fu (nI (ltrN so)) (nI (szN so * (d so - 1))) (nI seen) (cdO (itX so (chN tp n (skN tp n i)))) t = some t' ∧ (match ieS tp n so (frN so + (d so - 1)) m i seen D with
    | Sum.inl q => q ≤ n ∧ MFa tp n s q t'
    | Sum.inr q => q.1 ≤ n ∧ skN tp n q.1 = q.1 ∧ MST s c d q.2 q.1 t') := by
  have hds := hd so hs
  have h48 := (mx_pos so hs).2
  have h240 := ht.1
  intro m
  induction m with
  | zero =>
    intro rd fu i seen D t hrd hf hi hse hcb h
    have := cbS_le seen 8
    omega
  | succ m ih =>
    intro rd fu i seen D t hrd hf hi hse hcb h
    obtain ⟨g, rfl, hg⟩ := suc_lt hf
    obtain ⟨g', rfl, hg'⟩ := suc_of hg
    have hk := skN_le (tp := tp) hi
    have hch := chN_lt ht (skN tp n i)
    have h32 := chN_32 (tp := tp) hi
    show ∃ t', b_M_items_L41 _ _ _ _ _ _ _ _ _ = _ ∧ _
    unfold b_M_items_L41
    rw [h.2.2.1, of_m1, if_pos rfl]
    cases e : itX so (chN tp n (skN tp n i)) with
    | none =>
      rw [ie_none e]
      exact ⟨t, if_pos rfl, hk.2, skN_2 hi, h⟩
    | some k =>
      obtain ⟨k1, k2, k3⟩ := it_at hs hch h32 e
      have h8 := itX_lt e
      have hlt : skN tp n i < n := chN_p rfl k2
      rw [if_neg (show ¬ cdO (some k) = -1 from cdO_nm1 k (by omega)), show cdO (some k) = nI k from rfl]
      have hhas : g_M_has (nI seen) (nI k) t = seen.testBit k := by
        unfold g_M_has
        rw [of_1, bit_nI (by omega) (by omega)]
        cases seen.testBit k <;> rfl
      rw [hhas]
      cases b : seen.testBit k with
      | true =>
        rw [ifT, ie_seen e b]
        exact ⟨t, rfl, hk.2, Or.inr ⟨⟨h.1, h.2.1, h.2.2.1⟩, skN_2 hi, by omega, k3⟩⟩
      | false =>
        obtain ⟨l1, l2, l3, l4⟩ := lo_at (s := mA t (skN tp n i + 1)) hs k1
        have hmu := mx_mul (so := so) (a := d so - 1) (k := k) (by omega) k1
        rw [ifF, h.2.1, of_1, nI_add, Option.bind_some, show pkS t 60 0 3 (nI (skN tp n i + 1)) = mA t (skN tp n i + 1) from rfl, l1, l2]
        obtain ⟨v, hv⟩ := fm_number ht (mst_tp h hp) h.2.2.1 (so := so) (k := k) (i := skN tp n i + 1) hs k1 (by omega)
        rw [hv]
        cases r : nuR tp n so k (skN tp n i + 1) with
        | inl q =>
          have hq := nuR_le (show skN tp n i + 1 ≤ n by omega) r
          rw [ie_bad e b r]
          have hb := mst_bad h q
          have hK : Kmr (71 + so) 0 (szN so * (d so - 1) + k) = true := by
            rcases (show so = 0 ∨ so = 1 ∨ so = 2 ∨ so = 3 by omega) with rfl | rfl | rfl | rfl <;> rfl
          have hb2 : MB s q (pkS (bad4 t q) (71 + so) 0 (szN so * (d so - 1) + k) v) := ⟨hb.1.pk' _ hK, by rw [pkS_v, if_neg (by omega)]; exact hb.2⟩
          refine ⟨_, ?_, hq, Or.inl hb2⟩
          show (ix (mxN so * szN so) (nI (szN so * (d so - 1)) + nI k)).bind _ = _
          rw [nI_add, ix_nI (n := mxN so * szN so) (k := szN so * (d so - 1) + k) hmu (by omega), Option.bind_some]
          show (some (pkS (bad4 t q) (71 + so) 0 (szN so * (d so - 1) + k) v)).bind _ = _
          rw [Option.bind_some, hb2.2, if_neg (m1_ne (by omega))]
          show b_M_items_L41 _ _ _ _ _ _ _ _ _ = _
          unfold b_M_items_L41
          rw [hb2.2, of_m1, if_neg (m1_ne (by omega))]
        | inr q =>
          obtain ⟨hq, q1, q2⟩ := nuR_ri (show skN tp n i + 1 ≤ n by omega) r
          rw [ie_ok e b r]
          have hp2 := mst_put (X := nI q.1) (mst_at h q.2) hs k1 hd hso
          have hl := mst_look ht hp hp2 hq
          obtain ⟨t', b1, b2⟩ := ih (rd + 1) (g' + 1) q.2 (seen ||| 2 ^ k) _ _ (by omega) (by omega) hq (Nat.or_lt_two_pow (n := 8) hse (Nat.pow_lt_pow_right (by omega) h8)) (by have := or_cb h8 b; omega) (mst_at hp2 (skN tp n q.2))
          refine ⟨t', ?_, b2⟩
          show (ix (mxN so * szN so) (nI (szN so * (d so - 1)) + nI k)).bind _ = _
          rw [nI_add, ix_nI (n := mxN so * szN so) (k := szN so * (d so - 1) + k) hmu (by omega), Option.bind_some]
          show (some (pkS (mA t q.2) (71 + so) 0 (szN so * (d so - 1) + k) (nI q.1))).bind _ = _
          rw [Option.bind_some, hp2.2.2.1, if_pos rfl, hl, Option.bind_some]
          show f_M_items_L126 _ _ _ _ _ _ _ (g_M_itemOf (nI (ltrN so)) (hmN tp n (skN tp n q.2)) _) _ = _
          rw [io_at ht hs (fun z => skN_ne hq z)]
          unfold f_M_items_L126
          rw [show nI seen ||| (nI 1 <<< (nI k &&& 31)) = nI (seen ||| 2 ^ k) from or256 seen hse k h8]
          exact b1
theorem fm_items {c : CNT} {D : Nat → Int32} {so i : Nat} (ht : TOK n tp) (hp : TPm n tp s) (hs : so < 4) (hc : cOK c) (hm : c so < mxN so) (hi : i ≤ n) (h : MST s c c D i t) : ∃ t', f_M_items (nI (ltrN so)) (71 + so) 0 (mxN so * szN so) (nI (szN so * c so)) (nI (szN so)) t = some t' ∧ (match ieS tp n so (frN so + c so) 9 i 0 (fiD so (frN so + c so) D) with
    | Sum.inl q => q ≤ n ∧ MFa tp n s q t'
    | Sum.inr q => q.1 ≤ n ∧ skN tp n q.1 = q.1 ∧ MST s c (cup c so) q.2 q.1 t') := by
  have hz := sz_le so hs
  have hd1 : cup c so so - 1 = c so := by unfold cup; rw [if_pos rfl]; omega
  obtain ⟨t1, a1, a2⟩ := fm_fill (s := s) (D := D) (i := i) hs hc hm (szN so) 0 FU t (by omega) (lt_FU (by omega)) ⟨h.1, h.2.1, h.2.2.1, h.2.2.2.1, fun so' a' k' x1 x2 x3 x4 => h.2.2.2.2 so' a' k' x1 x3 x4, fun j hj => absurd hj (by omega)⟩
  unfold f_M_items
  rw [show Int32.ofInt 0 = nI 0 from of_0, a2, mst_look ht hp a1 hi, Option.bind_some]
  obtain ⟨t', b1, b2⟩ := fm_itemsL (so := so) (d := cup c so) ht hp hs (cup_ok hc hm) (by unfold cup; rw [if_pos rfl]; omega) 9 0 FU i 0 _ _ (by omega) (lt_FU (by omega)) hi (by omega) (by omega) (mst_at a1 (skN tp n i))
  rw [hd1] at b1 b2
  refine ⟨t', ?_, b2⟩
  show f_M_items_L41 _ _ _ _ _ _ _ (g_M_itemOf (nI (ltrN so)) (hmN tp n (skN tp n i)) _) _ = _
  rw [io_at ht hs (fun z => skN_ne hi z), of_0]
  exact b1
end
