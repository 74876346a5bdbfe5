/-! ===== a sea's text: the class, clause by clause ===== -/
section
variable {s s0 : S2} {tp : Nat → Nat} {n : Nat}
theorem fc_fillRow {c : CNT} {D : Nat → Int32} {i so row : Nat} {t : S2} (h : CT s c D i t) (hs : so < 4) (hr : row < 19) : ∃ t', f_Sea_fillRow 1 (nI so) (nI row) t = some t' ∧ CT s c (fiD so row D) i t' := by
  obtain ⟨h1, h2, h3, h4⟩ := h
  refine ⟨cpS t 14 1 (lgD (kstat 0)) (so * 8) (row * 8) 8, ?_, h1.trans (Fr_cp (fun k => rfl) t _ _ _ _), ?_, fun j hj => by rw [cpS_1, if_neg (by omega)]; exact h3 j hj, by rw [cpS_1, if_neg (by omega)]; exact h4⟩
  · unfold f_Sea_fillRow
    rw [of_8, mul_nI, mul_nI, nx_nI (by omega), Option.bind_some, nx_nI (by omega), Option.bind_some, nx_nI (by omega), Option.bind_some, kb_l.2.2.2.1, if_pos (by omega), Option.bind_some]
  · rw [cpS_1, if_pos ⟨rfl, rfl⟩, h2]
    rfl
theorem cl_none {c : CNT} {D : Nat → Int32} {i : Nat} (h : cIx 0 (chN tp n (skN tp n i)) = none) : clS' tp n c D i = Sum.inl (skN tp n i) := by
  unfold clS'
  rw [h]
theorem cl_full {c : CNT} {D : Nat → Int32} {i so : Nat} (h : cIx 0 (chN tp n (skN tp n i)) = some so) (h2 : ¬ c so < mxN so) : clS' tp n c D i = Sum.inl (skN tp n i) := by
  unfold clS'
  rw [h]
  show (if c so < mxN so then _ else _) = _
  rw [if_neg h2]
theorem cl_bad {c : CNT} {D : Nat → Int32} {i so q : Nat} (h : cIx 0 (chN tp n (skN tp n i)) = some so) (h2 : c so < mxN so) (h3 : ieS tp n so (frN so + c so) 9 (skN tp n i + 1) 0 (fiD so (frN so + c so) D) = Sum.inl q) : clS' tp n c D i = Sum.inl q := by
  unfold clS'
  rw [h]
  show (if c so < mxN so then _ else _) = _
  rw [if_pos h2, h3]
theorem cl_ok {c : CNT} {D : Nat → Int32} {i so : Nat} {q : Nat × (Nat → Int32)} (h : cIx 0 (chN tp n (skN tp n i)) = some so) (h2 : c so < mxN so) (h3 : ieS tp n so (frN so + c so) 9 (skN tp n i + 1) 0 (fiD so (frN so + c so) D) = Sum.inr q) : clS' tp n c D i = Sum.inr (q.1, so, q.2) := by
  unfold clS'
  rw [h]
  show (if c so < mxN so then _ else _) = _
  rw [if_pos h2, h3]
theorem cIx_0 : cIx 0 0 = none := by decide +kernel
def cOK (c : CNT) : Prop := ∀ so, so < 4 → c so ≤ mxN so
theorem fc_readClause {c : CNT} {D : Nat → Int32} {i : Nat} {t : S2} (ht : TOK n tp) (hp : TPc n tp s) (h : CT s c D i t) (hi : i ≤ n) (hc : cOK c) : ∃ t', f_Sea_readClause 1 t = some (match clS' tp n c D i with
    | Sum.inl _ => (t', false)
    | Sum.inr _ => (t', true)) ∧ (match clS' tp n c D i with
    | Sum.inl q => (∃ c' D', CT s c' D' q t') ∧ q ≤ n
    | Sum.inr q => CT s (cup c q.2.1) q.2.2 q.1 t' ∧ q.1 ≤ n ∧ q.2.1 < 4 ∧ c q.2.1 < mxN q.2.1) := by
  have h240 := ht.1
  have hk := skN_le (tp := tp) hi
  have hch := chN_lt ht (skN tp n i)
  have hl := fc_look ht (CT_tp h hp) hi
  rw [CT_tA h] at hl
  have h0 := CT_at h (skN tp n i)
  unfold f_Sea_readClause
  rw [hl, Option.bind_some, fc_ixOf hch, Option.bind_some]
  cases e : cIx 0 (chN tp n (skN tp n i)) with
  | none =>
    rw [cl_none e]
    exact ⟨tA t (skN tp n i), if_pos (by decide), ⟨c, D, h0⟩, hk.2⟩
  | some so =>
    have hs := cIx_lt e
    obtain ⟨m1, m2, m3, m4⟩ := mx_k so hs
    have hcs := hc so hs
    have hlt : skN tp n i < n := by
      apply Classical.byContradiction
      intro hn
      have : chN tp n (skN tp n i) = 0 := if_neg hn
      rw [this, cIx_0] at e
      cases e
    show ∃ t', (if nI so < 0 then _ else _) = _ ∧ _
    rw [show cdO (some so) = nI so from rfl, if_neg (nI_pos (by omega)), of_4, if_neg (nI_ge hs (by omega)), ix_nI (n := 4) (k := so) hs (by omega), Option.bind_some, kb_l.2.2.2.2.1, ix_nI (n := 4) (k := so) hs (by omega), Option.bind_some, m1]
    show ∃ t', (if (tA t (skN tp n i)).1 15 1 so < nI (mxN so) then _ else _) = _ ∧ _
    rw [h0.2.2.1 so hs]
    by_cases f : c so < mxN so
    · have hrow : frN so + c so < 19 := by omega
      rw [if_pos (nI_lt f (by omega))]
      show ∃ t', (f_Tape_pass (tA t (skN tp n i))).bind _ = _ ∧ _
      have h1 := CT_at h (skN tp n i + 1)
      rw [fc_pass1, Option.bind_some, kb_l.2.2.2.2.2.1, ix_nI (n := 4) (k := so) hs (by omega), Option.bind_some, Option.bind_some, Option.bind_some, Option.bind_some, Option.bind_some, m3, h1.2.2.1 so hs, of_1, nI_add, nI_add]
      obtain ⟨t2, ht2⟩ : ∃ t2, pkS (tA t (skN tp n i + 1)) 15 1 so (nI (c so + 1)) = t2 := ⟨_, rfl⟩
      have h2 : CT s (cup c so) D (skN tp n i + 1) t2 := by
        rw [← ht2]
        refine ⟨h1.1.pk' _ rfl, by rw [pkS_1, if_neg (by omega)]; exact h1.2.1, fun j hj => ?_, by rw [pkS_v, if_neg (by omega)]; exact h1.2.2.2⟩
        unfold cup
        rw [pkS_v]
        by_cases g : j = so
        · rw [if_pos ⟨rfl, rfl, g⟩, if_pos g, g]
        · rw [if_neg (by omega), if_neg g]; exact h1.2.2.1 j hj
      obtain ⟨t3, b1, b2⟩ := fc_fillRow h2 hs hrow
      rw [ht2, b1, Option.bind_some, show Int32.ofInt 0 = nI 0 from of_0]
      obtain ⟨t', d1, d2⟩ := fc_itemsL ht hp hs hrow 9 0 FU (skN tp n i + 1) 0 _ t3 (by omega) (lt_FU (by omega)) (by omega) (by omega) (by omega) b2
      rw [d1]
      cases r : ieS tp n so (frN so + c so) 9 (skN tp n i + 1) 0 (fiD so (frN so + c so) D) with
      | inl q =>
        rw [r] at d2
        rw [cl_bad e f r]
        obtain ⟨⟨D', g1⟩, g2⟩ := d2
        exact ⟨t', rfl, ⟨_, D', g1⟩, g2⟩
      | inr q =>
        rw [r] at d2
        rw [cl_ok e f r]
        exact ⟨t', rfl, d2.1, d2.2, hs, f⟩
    · rw [if_neg (nI_nlt (by omega) (by omega)), cl_full e f]
      exact ⟨tA t (skN tp n i), rfl, ⟨c, D, h0⟩, hk.2⟩
theorem g_told {c : CNT} {D : Nat → Int32} {i : Nat} {t : S2} (h : CT s c D i t) (a b : Int32) : g_Sea_areToldTwo 1 a b t = twB (c 1) a b := by
  unfold g_Sea_areToldTwo twB
  rw [show g_Sea_isles 1 t = nI (c 1) from h.2.2.1 1 (by omega)]
  by_cases c1 : a = b
  · rw [if_pos c1, decide_eq_true c1]; rfl
  · rw [if_neg c1, decide_eq_false c1]
    by_cases c2 : nI (c 1) ≤ a
    · rw [if_pos c2, decide_eq_true c2]; rfl
    · rw [if_neg c2, decide_eq_false c2]
      by_cases c3 : nI (c 1) ≤ b
      · rw [if_pos c3, decide_eq_true c3]; rfl
      · rw [if_neg c3, decide_eq_false c3]; rfl
theorem fc_ofTie1 {c : CNT} {D : Nat → Int32} {i a k : Nat} {t : S2} (h : CT s c D i t) (ha : a < 8) (hk : k < 8) : f_Sea_ofTie 1 (nI a) (nI k) t = some (D ((7 + a) * 8 + k)) := by
  rw [fc_ofTie ha hk, h.2.1]
theorem fc_ofBridge1 {c : CNT} {D : Nat → Int32} {i a k : Nat} {t : S2} (h : CT s c D i t) (ha : a < 4) (hk : k < 8) : f_Sea_ofBridge 1 (nI a) (nI k) t = some (D ((15 + a) * 8 + k)) := by
  rw [fc_ofBridge ha hk, h.2.1]
theorem fc_whB {c : CNT} {D : Nat → Int32} {i : Nat} {t : S2} (h : CT s c D i t) (h4 : c 3 ≤ 4) : ∀ (m j fu : Nat) (b : Bool), j + m = c 3 → m < fu → f_Sea_isWhole_L61 1 fu (bI b) (nI j) t = some (b && wzL (c 1) D 15 m j) := by
  intro m
  induction m with
  | zero =>
    intro j fu b hj hf
    obtain ⟨g, rfl, -⟩ := suc_of hf
    show b_Sea_isWhole_L61 _ _ _ _ _ = _
    unfold b_Sea_isWhole_L61
    rw [show g_Sea_bridges 1 t = nI (c 3) from h.2.2.1 3 (by omega), if_pos (nI_le (by omega) (by omega)), rb_bI, Option.bind_some]
    show _ = some (b && true)
    rw [Bool.and_true]
  | succ m ih =>
    intro j fu b hj hf
    obtain ⟨g, rfl, hg⟩ := suc_lt hf
    have n0 := ih (j + 1) g false (by omega) hg
    have n1 := ih (j + 1) g true (by omega) hg
    rw [show bI false = Int32.ofInt 0 from rfl, Bool.false_and] at n0
    rw [show bI true = Int32.ofInt 1 from rfl, Bool.true_and] at n1
    show b_Sea_isWhole_L61 _ _ _ _ _ = some (b && (twB (c 1) (D ((15 + j) * 8)) (D ((15 + j) * 8 + 1)) && wzL (c 1) D 15 m (j + 1)))
    unfold b_Sea_isWhole_L61 f_Sea_isWhole_L96 f_Sea_isWhole_L97
    rw [show g_Sea_bridges 1 t = nI (c 3) from h.2.2.1 3 (by omega), if_neg (nI_ge (by omega) (by omega)), show nI j + Int32.ofInt 1 = nI (j + 1) by rw [of_1, nI_add]]
    cases b with
    | false =>
      rw [ifF, n0]
      rfl
    | true =>
      rw [ifT, show f_Sea_ofBridge 1 (nI j) (Int32.ofInt 0) t = some (D ((15 + j) * 8 + 0)) from fc_ofBridge1 (k := 0) h (by omega) (by omega), Option.bind_some, show f_Sea_ofBridge 1 (nI j) (Int32.ofInt 1) t = some (D ((15 + j) * 8 + 1)) from fc_ofBridge1 (k := 1) h (by omega) (by omega), Option.bind_some, g_told h, Nat.add_zero]
      cases e : twB (c 1) (D ((15 + j) * 8)) (D ((15 + j) * 8 + 1)) with
      | false => rw [ifF, n0]; rfl
      | true => rw [ifT, n1]; rfl
theorem fc_whT {c : CNT} {D : Nat → Int32} {i : Nat} {t : S2} (h : CT s c D i t) (h8 : c 2 ≤ 8) (h4 : c 3 ≤ 4) : ∀ (m j fu : Nat) (b : Bool), j + m = c 2 → m < fu → f_Sea_isWhole_L16 1 fu (bI b) (nI j) t = some (b && (wzL (c 1) D 7 m j && wzL (c 1) D 15 (c 3) 0)) := by
  intro m
  induction m with
  | zero =>
    intro j fu b hj hf
    obtain ⟨g, rfl, -⟩ := suc_of hf
    show b_Sea_isWhole_L16 _ _ _ _ _ = _
    unfold b_Sea_isWhole_L16
    rw [show g_Sea_ties 1 t = nI (c 2) from h.2.2.1 2 (by omega), if_pos (nI_le (by omega) (by omega)), show Int32.ofInt 0 = nI 0 from of_0, fc_whB h h4 (c 3) 0 FU b (by omega) (lt_FU (by omega))]
    rfl
  | succ m ih =>
    intro j fu b hj hf
    obtain ⟨g, rfl, hg⟩ := suc_lt hf
    have n0 := ih (j + 1) g false (by omega) hg
    have n1 := ih (j + 1) g true (by omega) hg
    rw [show bI false = Int32.ofInt 0 from rfl, Bool.false_and] at n0
    rw [show bI true = Int32.ofInt 1 from rfl, Bool.true_and] at n1
    show b_Sea_isWhole_L16 _ _ _ _ _ = some (b && ((twB (c 1) (D ((7 + j) * 8)) (D ((7 + j) * 8 + 1)) && wzL (c 1) D 7 m (j + 1)) && wzL (c 1) D 15 (c 3) 0))
    unfold b_Sea_isWhole_L16 f_Sea_isWhole_L51 f_Sea_isWhole_L52
    rw [show g_Sea_ties 1 t = nI (c 2) from h.2.2.1 2 (by omega), if_neg (nI_ge (by omega) (by omega)), show nI j + Int32.ofInt 1 = nI (j + 1) by rw [of_1, nI_add]]
    cases b with
    | false =>
      rw [ifF, n0]
      rfl
    | true =>
      rw [ifT, show f_Sea_ofTie 1 (nI j) (Int32.ofInt 0) t = some (D ((7 + j) * 8 + 0)) from fc_ofTie1 (k := 0) h (by omega) (by omega), Option.bind_some, show f_Sea_ofTie 1 (nI j) (Int32.ofInt 1) t = some (D ((7 + j) * 8 + 1)) from fc_ofTie1 (k := 1) h (by omega) (by omega), Option.bind_some, g_told h, Nat.add_zero]
      cases e : twB (c 1) (D ((7 + j) * 8)) (D ((7 + j) * 8 + 1)) with
      | false => rw [ifF, n0]; rfl
      | true => rw [ifT, n1]; rfl
theorem mx_v : mxN 0 = 1 ∧ mxN 1 = 6 ∧ mxN 2 = 8 ∧ mxN 3 = 4 := by decide +kernel
theorem fc_whole {c : CNT} {D : Nat → Int32} {i : Nat} {t : S2} (h : CT s c D i t) (hc : cOK c) : f_Sea_isWhole 1 t = some (wzS c D) := by
  have h1 := hc 1 (by omega)
  have h2 := hc 2 (by omega)
  have h3 := hc 3 (by omega)
  obtain ⟨-, v1, v2, v3⟩ := mx_v
  unfold f_Sea_isWhole f_Sea_isWhole_L13 wzS
  rw [show g_Sea_isles 1 t = nI (c 1) from h.2.2.1 1 (by omega), of_2]
  by_cases e : c 1 < 2
  · rw [if_pos (nI_lt e (by omega)), show Int32.ofInt 0 = bI false from rfl, show bI false = nI 0 from rfl]
    have := fc_whT h (by omega) (by omega) (c 2) 0 FU false (by omega) (lt_FU (by omega))
    rw [show bI false = nI 0 from rfl] at this
    rw [this, decide_eq_false (show ¬ 2 ≤ c 1 by omega)]
  · rw [if_neg (nI_nlt (by omega) (by omega)), show Int32.ofInt 1 = bI true from rfl, show Int32.ofInt 0 = nI 0 from of_0]
    have := fc_whT h (by omega) (by omega) (c 2) 0 FU true (by omega) (lt_FU (by omega))
    rw [this, decide_eq_true (show 2 ≤ c 1 by omega)]
theorem cup_ok {c : CNT} {so : Nat} (hc : cOK c) (h : c so < mxN so) : cOK (cup c so) := by
  intro j hj
  unfold cup
  by_cases e : j = so
  · rw [if_pos e, e]; exact h
  · rw [if_neg e]; exact hc j hj
theorem cup_sum {c : CNT} {so : Nat} (hs : so < 4) : cup c so 0 + cup c so 1 + cup c so 2 + cup c so 3 = c 0 + c 1 + c 2 + c 3 + 1 := by
  unfold cup
  rcases (show so = 0 ∨ so = 1 ∨ so = 2 ∨ so = 3 by omega) with rfl | rfl | rfl | rfl <;> simp <;> omega
theorem se_bad {m i q : Nat} {c : CNT} {D : Nat → Int32} (h : clS' tp n c D i = Sum.inl q) : seaS tp n (m + 1) c D i = Sum.inl q := by
  unfold seaS
  rw [h]
theorem se_eq {m i : Nat} {c : CNT} {D : Nat → Int32} {q : Nat × Nat × (Nat → Int32)} (h : clS' tp n c D i = Sum.inr q) : seaS tp n (m + 1) c D i = if chN tp n (skN tp n q.1) = 0 then (if wzS (cup c q.2.1) q.2.2 then Sum.inr (cup c q.2.1, q.2.2) else Sum.inl (skN tp n q.1)) else if chN tp n (skN tp n q.1) = 59 then seaS tp n m (cup c q.2.1) q.2.2 (skN tp n q.1 + 1) else Sum.inl (skN tp n q.1) := by
  have : seaS tp n (m + 1) c D i = (match clS' tp n c D i with
    | Sum.inl q => Sum.inl q
    | Sum.inr q => if chN tp n (skN tp n q.1) = 0 then (if wzS (cup c q.2.1) q.2.2 then Sum.inr (cup c q.2.1, q.2.2) else Sum.inl (skN tp n q.1)) else if chN tp n (skN tp n q.1) = 59 then seaS tp n m (cup c q.2.1) q.2.2 (skN tp n q.1 + 1) else Sum.inl (skN tp n q.1)) := rfl
  rw [this, h]
theorem chN_0 (ht : TOK n tp) {i : Nat} (h : chN tp n i = 0) : ¬ i < n := by
  intro c
  unfold chN at h
  rw [if_pos c] at h
  have := (ht.2 i c).1
  omega
theorem chN_p {i c : Nat} (h : chN tp n i = c) (h0 : 0 < c) : i < n := by
  apply Classical.byContradiction
  intro hn
  unfold chN at h
  rw [if_neg hn] at h
  omega
theorem fc_seaL (ht : TOK n tp) (hp : TPc n tp s) : ∀ (m x fu i : Nat) (c : CNT) (D : Nat → Int32) (t : S2), x + m = 20 → m < fu → i ≤ n → x ≤ c 0 + c 1 + c 2 + c 3 → cOK c → CT s c D i t → ∃ t', f_Sea_read_L20 1 fu (nI x) t = some (match seaS tp n m c D i with
    | Sum.inl _ => (t', false)
    | Sum.inr _ => (t', true)) ∧ (match seaS tp n m c D i with
    | Sum.inl q => (∃ c' D', CT s c' D' q t') ∧ q ≤ n
    | Sum.inr q => ∃ j, CT s q.1 q.2 j t') := by
  have h240 := ht.1
  intro m
  induction m with
  | zero =>
    intro x fu i c D t hx hf hi hcs hc h
    have h0 := hc 0 (by omega)
    have h1 := hc 1 (by omega)
    have h2 := hc 2 (by omega)
    have h3 := hc 3 (by omega)
    obtain ⟨v0, v1, v2, v3⟩ := mx_v
    omega
  | succ m ih =>
    intro x fu i c D t hx hf hi hcs hc h
    obtain ⟨g, rfl, hg⟩ := suc_lt hf
    obtain ⟨t1, a1, a2⟩ := fc_readClause ht hp h hi hc
    show ∃ t', b_Sea_read_L20 _ _ _ _ = _ ∧ _
    unfold b_Sea_read_L20
    rw [of_19, if_neg (nI_nlt (by omega) (by omega)), a1, Option.bind_some]
    cases e : clS' tp n c D i with
    | inl q =>
      rw [e] at a2
      rw [se_bad e]
      exact ⟨t1, if_pos rfl, a2.1, a2.2⟩
    | inr q =>
      rw [e] at a2
      obtain ⟨b1, b2, b3, b4⟩ := a2
      rw [se_eq e]
      have hc1 := cup_ok hc b4
      have hk := skN_le (tp := tp) b2
      have hl := fc_look ht (CT_tp b1 hp) b2
      rw [CT_tA b1] at hl
      have hat := CT_at b1 (skN tp n q.1)
      show ∃ t', (if bI true = 0 then _ else _) = _ ∧ _
      rw [ifT]
      show ∃ t', (f_Tape_isOver t1).bind _ = _ ∧ _
      have eo : f_Tape_isOver t1 = some (tA t1 (skN tp n q.1), decide (chN tp n (skN tp n q.1) = 0)) := by
        unfold f_Tape_isOver
        rw [hl, Option.bind_some]
        have hch := chN_lt ht (skN tp n q.1)
        by_cases z : chN tp n (skN tp n q.1) = 0
        · rw [if_pos (show nI (chN tp n (skN tp n q.1)) = 0 by rw [z]; exact nI_0), decide_eq_true z]
        · rw [if_neg (fun y => z ((nI_eq (by omega) (by omega)).mp (y.trans nI_0.symm))), decide_eq_false z]
      rw [eo, Option.bind_some]
      by_cases z : chN tp n (skN tp n q.1) = 0
      · rw [if_pos z, decide_eq_true z]
        show ∃ t', (if bI true = 0 then _ else _) = _ ∧ _
        rw [ifT]
        show ∃ t', (f_Sea_isWhole 1 (tA t1 (skN tp n q.1))).bind _ = _ ∧ _
        rw [fc_whole hat hc1, Option.bind_some]
        cases y : wzS (cup c q.2.1) q.2.2 with
        | true =>
          rw [if_pos rfl]
          exact ⟨_, rfl, _, hat⟩
        | false =>
          rw [if_neg (by decide)]
          exact ⟨_, rfl, ⟨_, _, hat⟩, hk.2⟩
      · rw [if_neg z, decide_eq_false z]
        show ∃ t', (if bI false = 0 then _ else _) = _ ∧ _
        rw [ifF]
        have et := fc_takes (c := 59) ht (CT_tp hat hp) hk.2 (by omega)
        rw [CT_tA hat, skN_id (i := skN tp n q.1) (fun hlt => skN_ne b2 hlt)] at et
        show ∃ t', (f_Tape_takes (Int32.ofInt 59) (tA t1 (skN tp n q.1))).bind _ = _ ∧ _
        rw [of_59, et, Option.bind_some]
        by_cases y : chN tp n (skN tp n q.1) = 59
        · rw [if_pos y, if_pos y]
          have hlt := chN_p y (by omega)
          show ∃ t', (if bI true = 0 then _ else _) = _ ∧ _
          rw [ifT, of_1, nI_add]
          exact ih (x + 1) g (skN tp n q.1 + 1) _ _ _ (by omega) hg (by omega) (by rw [cup_sum b3]; omega) hc1 (CT_at hat _)
        · rw [if_neg y, if_neg y]
          show ∃ t', (if bI false = 0 then _ else _) = _ ∧ _
          rw [ifF]
          exact ⟨_, rfl, ⟨_, _, CT_at hat _⟩, hk.2⟩
/-- the class's reading of a sea -/
def sea0 (D : Nat → Int32) : Nat → Int32 := fiD 0 0 D
theorem fc_seaRead (ht : TOK n tp) (hp : TPc n tp s) : ∃ t', f_Sea_read 1 s = some (match seaS tp n 20 (fun _ => 0) (sea0 (s.1 14 1)) 0 with
    | Sum.inl _ => (t', false)
    | Sum.inr _ => (t', true)) ∧ (match seaS tp n 20 (fun _ => 0) (sea0 (s.1 14 1)) 0 with
    | Sum.inl q => (∃ c' D', CT s c' D' q t') ∧ q ≤ n
    | Sum.inr q => ∃ j, CT s q.1 q.2 j t') := by
  obtain ⟨t1, a1, a2, a3⟩ := fc_fill (c := 15) (i := 1) (n := 4) (x := 0) (s := s) (by omega)
  have h1 : CT s (fun _ => 0) (s.1 14 1) 0 (tA t1 0) := by
    refine ⟨(a3.mono (K' := Kst) fun c i k hk => ?_).pk' _ rfl, ?_, fun j hj => ?_, tA_at _ _⟩
    · unfold Kst at hk
      unfold Kar
      simp only [Bool.or_eq_false_iff] at hk
      exact hk.2.1
    · funext k
      rw [tA_o (by omega), a3.1 14 1 k rfl]
    · rw [tA_o (by omega), a2 j hj, nI_0]
  obtain ⟨t2, b1, b2⟩ := fc_fillRow (so := 0) (row := 0) h1 (by omega) (by omega)
  -- the row is filled ahead of the rewinding
  have b0 : ∃ t0, f_Sea_fillRow 1 (nI 0) (nI 0) t1 = some t0 ∧ tA t0 0 = t2 := by
    unfold f_Sea_fillRow at b1 ⊢
    rw [of_8, mul_nI, nx_nI (by omega), Option.bind_some, nx_nI (by omega), Option.bind_some, Option.bind_some, kb_l.2.2.2.1, if_pos (by omega), Option.bind_some] at b1 ⊢
    refine ⟨_, rfl, ?_⟩
    have := Option.some.inj b1
    rw [← this]
    refine Prod.ext (funext fun c' => funext fun i' => funext fun k' => ?_) rfl
    unfold tA
    rw [pkS_v, cpS_1, cpS_1]
    by_cases e1 : c' = 14 ∧ i' = 1
    · rw [if_pos e1, if_pos e1, if_neg (by omega), pkS_1, if_neg (by omega)]
    · rw [if_neg e1, if_neg e1, pkS_v]
  obtain ⟨t0, d1, d2⟩ := b0
  obtain ⟨t', e1, e2⟩ := fc_seaL ht hp 20 0 FU 0 (fun _ => 0) (sea0 (s.1 14 1)) t2 (by omega) (lt_FU (by omega)) (by omega) (by omega) (fun so _ => Nat.zero_le _) b2
  refine ⟨t', ?_, e2⟩
  unfold f_Sea_read f_Tape_rewind
  rw [show Int32.ofInt 0 = 0 from of_0, a1, Option.bind_some, show (0 : Int32) = nI 0 from nI_0.symm, d1, Option.bind_some, Option.bind_some, Option.bind_some, show pkS t0 11 0 2 (nI 0) = t2 from d2, e1]
end
