/-! ===== a sea's text: the reference's reading, and the fault ===== -/
section
variable {s s0 t : S2} {tp : Nat → Nat} {n : Nat}
theorem gm_told {c d : CNT} {D : Nat → Int32} {i : Nat} (h : MST s c d D i t) (a b : Int32) : g_M_areUnlike a b t = twB (c 1) a b := by
  unfold g_M_areUnlike twB
  rw [h.2.2.2.1.1]
  by_cases c1 : a = b
  · rw [if_pos c1, decide_eq_true c1]; rfl
  · rw [if_neg c1, decide_eq_false c1]
    by_cases c2 : nI (c 1) ≤ a
    · rw [if_pos c2, decide_eq_true c2]; rfl
    · rw [if_neg c2, decide_eq_false c2]
      by_cases c3 : nI (c 1) ≤ b
      · rw [if_pos c3, decide_eq_true c3]; rfl
      · rw [if_neg c3, decide_eq_false c3]; rfl
theorem mst_T {c d : CNT} {D : Nat → Int32} {i a k : Nat} (h : MST s c d D i t) (ha : a < d 2) (hk : k < 4) : t.1 73 0 (4 * a + k) = D ((7 + a) * 8 + k) := by
  have := h.2.2.2.2 2 a k (by omega) (Or.inl ha) (by rw [szn_v.2.2.1]; exact hk)
  rw [szn_v.2.2.1, frn_v.2.2.1] at this
  exact this
theorem mst_B {c d : CNT} {D : Nat → Int32} {i a k : Nat} (h : MST s c d D i t) (ha : a < d 3) (hk : k < 3) : t.1 74 0 (3 * a + k) = D ((15 + a) * 8 + k) := by
  have := h.2.2.2.2 3 a k (by omega) (Or.inl ha) (by rw [szn_v.2.2.2]; exact hk)
  rw [szn_v.2.2.2, frn_v.2.2.2] at this
  exact this
theorem fm_whB {c : CNT} {D : Nat → Int32} {i : Nat} (h : MST s c c D i t) (h4 : c 3 ≤ 4) : ∀ (m j fu : Nat) (b : Bool), j + m = c 3 → m < fu → f_M_isWhole_L67 fu (bI b) (nI j) t = some (b && wzL (c 1) D 15 m j) := by
  intro m
  induction m with
  | zero =>
    intro j fu b hj hf
    obtain ⟨g, rfl, -⟩ := suc_of hf
    show b_M_isWhole_L67 _ _ _ _ = _
    unfold b_M_isWhole_L67
    rw [h.2.2.2.1.2.2, if_pos (nI_le (by omega) (by omega)), rb_bI, Option.bind_some]
    show _ = some (b && true)
    rw [Bool.and_true]
  | succ m ih =>
    intro j fu b hj hf
    obtain ⟨g, rfl, hg⟩ := suc_lt hf
    have n0 := ih (j + 1) g false (by omega) hg
    have n1 := ih (j + 1) g true (by omega) hg
    rw [show bI false = Int32.ofInt 0 from rfl, Bool.false_and] at n0
    rw [show bI true = Int32.ofInt 1 from rfl, Bool.true_and] at n1
    show b_M_isWhole_L67 _ _ _ _ = some (b && (twB (c 1) (D ((15 + j) * 8)) (D ((15 + j) * 8 + 1)) && wzL (c 1) D 15 m (j + 1)))
    unfold b_M_isWhole_L67 f_M_isWhole_L108 f_M_isWhole_L109
    rw [h.2.2.2.1.2.2, if_neg (nI_ge (by omega) (by omega)), show nI j + Int32.ofInt 1 = nI (j + 1) by rw [of_1, nI_add]]
    cases b with
    | false =>
      rw [if_pos (show bI false = 0 from rfl), n0]
      rfl
    | true =>
      have e0 := mst_B h (a := j) (k := 0) (by omega) (by omega)
      have e1 := mst_B h (a := j) (k := 1) (by omega) (by omega)
      rw [Nat.add_zero, Nat.add_zero] at e0
      rw [if_neg (show ¬ bI true = 0 by decide), of_3, show Int32.ofInt 1 = nI 1 from of_1, mul_nI, nI_add, ix_nI (n := 12) (k := 3 * j) (by omega) (by omega), Option.bind_some, ix_nI (n := 12) (k := 3 * j + 1) (by omega) (by omega), Option.bind_some, e0, e1, gm_told h]
      cases e : twB (c 1) (D ((15 + j) * 8)) (D ((15 + j) * 8 + 1)) with
      | false => rw [ifF, n0]; rfl
      | true => rw [ifT, ← of_1, n1]; rfl
theorem fm_whT {c : CNT} {D : Nat → Int32} {i : Nat} (h : MST s c c D i t) (h8 : c 2 ≤ 8) (h4 : c 3 ≤ 4) : ∀ (m j fu : Nat) (b : Bool), j + m = c 2 → m < fu → f_M_isWhole_L16 fu (bI b) (nI j) t = some (b && (wzL (c 1) D 7 m j && wzL (c 1) D 15 (c 3) 0)) := by
  intro m
  induction m with
  | zero =>
    intro j fu b hj hf
    obtain ⟨g, rfl, -⟩ := suc_of hf
    show b_M_isWhole_L16 _ _ _ _ = _
    unfold b_M_isWhole_L16
    rw [h.2.2.2.1.2.1, if_pos (nI_le (by omega) (by omega)), show Int32.ofInt 0 = nI 0 from of_0, fm_whB h h4 (c 3) 0 FU b (by omega) (lt_FU (by omega))]
    rfl
  | succ m ih =>
    intro j fu b hj hf
    obtain ⟨g, rfl, hg⟩ := suc_lt hf
    have n0 := ih (j + 1) g false (by omega) hg
    have n1 := ih (j + 1) g true (by omega) hg
    rw [show bI false = Int32.ofInt 0 from rfl, Bool.false_and] at n0
    rw [show bI true = Int32.ofInt 1 from rfl, Bool.true_and] at n1
    show b_M_isWhole_L16 _ _ _ _ = some (b && ((twB (c 1) (D ((7 + j) * 8)) (D ((7 + j) * 8 + 1)) && wzL (c 1) D 7 m (j + 1)) && wzL (c 1) D 15 (c 3) 0))
    unfold b_M_isWhole_L16 f_M_isWhole_L57 f_M_isWhole_L58
    rw [h.2.2.2.1.2.1, if_neg (nI_ge (by omega) (by omega)), show nI j + Int32.ofInt 1 = nI (j + 1) by rw [of_1, nI_add]]
    cases b with
    | false =>
      rw [if_pos (show bI false = 0 from rfl), n0]
      rfl
    | true =>
      have e0 := mst_T h (a := j) (k := 0) (by omega) (by omega)
      have e1 := mst_T h (a := j) (k := 1) (by omega) (by omega)
      rw [Nat.add_zero, Nat.add_zero] at e0
      rw [if_neg (show ¬ bI true = 0 by decide), of_4, show Int32.ofInt 1 = nI 1 from of_1, mul_nI, nI_add, ix_nI (n := 32) (k := 4 * j) (by omega) (by omega), Option.bind_some, ix_nI (n := 32) (k := 4 * j + 1) (by omega) (by omega), Option.bind_some, e0, e1, gm_told h]
      cases e : twB (c 1) (D ((7 + j) * 8)) (D ((7 + j) * 8 + 1)) with
      | false => rw [ifF, n0]; rfl
      | true => rw [ifT, ← of_1, n1]; rfl
theorem fm_whole {c : CNT} {D : Nat → Int32} {i : Nat} (h : MST s c c D i t) (hc : cOK c) : f_M_isWhole t = some (wzS c D) := by
  have h1 := hc 1 (by omega)
  have h2 := hc 2 (by omega)
  have h3 := hc 3 (by omega)
  obtain ⟨-, v1, v2, v3⟩ := mx_v
  unfold f_M_isWhole f_M_isWhole_L13 wzS
  rw [h.2.2.2.1.1]
  by_cases e : c 1 < 2
  · rw [if_pos (show nI (c 1) ≤ Int32.ofInt 1 by rw [of_1]; exact nI_le (by omega) (by omega)), show Int32.ofInt 0 = bI false from rfl, show bI false = nI 0 from rfl]
    have := fm_whT h (by omega) (by omega) (c 2) 0 FU false (by omega) (lt_FU (by omega))
    rw [show bI false = nI 0 from rfl] at this
    rw [this, decide_eq_false (show ¬ 2 ≤ c 1 by omega)]
  · rw [if_neg (show ¬ nI (c 1) ≤ Int32.ofInt 1 by rw [of_1]; exact nI_ge (by omega) (by omega)), show Int32.ofInt 1 = bI true from rfl, show Int32.ofInt 0 = nI 0 from of_0]
    have := fm_whT h (by omega) (by omega) (c 2) 0 FU true (by omega) (lt_FU (by omega))
    rw [this, decide_eq_true (show 2 ≤ c 1 by omega)]
/-- the end of the reading, where nothing more is to come -/
theorem fm_fin {c : CNT} {D : Nat → Int32} {i : Nat} (ht : TOK n tp) (hp : TPm n tp s) (hc : cOK c) (hi : i ≤ n) (h : MST s c c D i t) (h2 : skN tp n i = i) : f_M_readSea_L136 t = some (if chN tp n i = 0 then (if wzS c D then (t, -1) else (bad4 t i, nI i)) else (bad4 t i, nI i)) := by
  have hl := mst_look ht hp h hi
  rw [h2, mst_mA h] at hl
  have hb := fm_bad (i := i) h.2.2.1
  rw [mst_mA h] at hb
  have e4 : (bad4 t i).1 60 0 4 = nI i := by unfold bad4; rw [pkS_v, if_pos ⟨rfl, rfl, rfl⟩]
  have hbb : f_M_readSea_L159 t = some (bad4 t i, nI i) := by
    unfold f_M_readSea_L159 f_M_readSea_L163
    rw [hb, Option.bind_some, show pkS t 60 0 4 (nI i) = bad4 t i by unfold bad4; rw [mst_mA h], e4]
  unfold f_M_readSea_L136
  rw [h.2.2.1, of_m1, if_pos rfl, hl, Option.bind_some]
  show (if hmN tp n i = -1 then (f_M_isWhole t).bind _ else f_M_readSea_L159 t) = _
  by_cases c0 : chN tp n i = 0
  · rw [if_pos ((hm_end ht).mpr c0), if_pos c0, fm_whole h hc, Option.bind_some]
    cases w : wzS c D with
    | true =>
      rw [ifT, if_pos rfl]
      show f_M_readSea_L163 t = _
      unfold f_M_readSea_L163
      rw [h.2.2.1]
    | false =>
      rw [ifF, if_neg (show ¬ (false = true) by decide)]
      exact hbb
  · rw [if_neg (fun z => c0 ((hm_end ht).mp z)), if_neg c0]
    exact hbb
theorem fm_finF {q : Nat} (ht : TOK n tp) (hp : TPm n tp s) (hq : q ≤ n) (h : MFa tp n s q t) (x1 : Int32) : ∃ t', f_M_readSea_L136 (pkS t 60 0 3 (t.1 60 0 3 + 0)) = some (t', nI q) ∧ Fr Kmr s t' := by
  have h240 := ht.1
  have e3 : pkS t 60 0 3 (t.1 60 0 3 + 0) = t := pkS_self _ _ _ _ _ (by rw [Int32.add_zero])
  rw [e3]
  unfold f_M_readSea_L136
  rcases h with h | ⟨h, h2, h3, h4⟩
  · rw [h.2, of_m1, if_neg (m1_ne (by omega))]
    refine ⟨t, ?_, h.1⟩
    unfold f_M_readSea_L163
    rw [h.2]
  · have hpt : TPm n tp t := by
      unfold TPm at hp ⊢
      rw [h.1.1 60 0 2 rfl, h.1.arr (c := 61) (i := 0) fun _ => rfl]
      exact hp
    have hm : mA t q = t := pkS_self _ _ _ _ _ h.2.1
    have hl := fm_look ht hpt hq
    rw [h2, hm] at hl
    have hb := fm_bad (i := q) h.2.2
    rw [hm] at hb
    rw [h.2.2, of_m1, if_pos rfl, hl, Option.bind_some]
    refine ⟨pkS t 60 0 4 (nI q), ?_, h.1.pk' _ rfl⟩
    show (if hmN tp n q = -1 then _ else f_M_readSea_L159 t) = _
    rw [if_neg (fun z => h3 ((hm_end ht).mp z))]
    unfold f_M_readSea_L159 f_M_readSea_L163
    rw [hb, Option.bind_some, pkS_v, if_pos ⟨rfl, rfl, rfl⟩]
/-- what the reference tells of a sea -/
def SEm (s : S2) (t : S2) (r : Int32) (n : Nat) : Nat ⊕ (CNT × (Nat → Int32)) → Prop
  | Sum.inl q => q ≤ n ∧ r = nI q ∧ Fr Kmr s t
  | Sum.inr q => r = -1 ∧ Fr Kmr s t ∧ MCN q.1 t ∧ MSD q.1 q.2 t ∧ cOK q.1 ∧ wzS q.1 q.2 = true
theorem fm_L91F {q : Nat} {k54 : Int32 → Int32 → S2 → Option (S2 × Int32)} {y : Int32} (ht : TOK n tp) (hp : TPm n tp s) (hq : q ≤ n) (h : MFa tp n s q t) (hk : ∀ x t, k54 x (Int32.ofInt 0) t = f_M_readSea_L136 t) : ∃ t', f_M_readSea_L91 k54 y t = some (t', nI q) ∧ Fr Kmr s t' := by
  have h240 := ht.1
  obtain ⟨t', a1, a2⟩ := fm_finF ht hp hq h y
  refine ⟨t', ?_, a2⟩
  have e : f_M_readSea_L113 k54 y t = some (t', nI q) := by
    unfold f_M_readSea_L113 f_M_readSea_L114 f_M_readSea_L129
    rw [if_pos (show Int32.ofInt 0 = 0 from of_0), Option.bind_some, hk]
    exact a1
  unfold f_M_readSea_L91
  rcases h with h | ⟨h, h2, h3, h4⟩
  · rw [h.2, of_m1, if_neg (m1_ne (by omega)), e]
  · have hpt : TPm n tp t := by
      unfold TPm at hp ⊢
      rw [h.1.1 60 0 2 rfl, h.1.arr (c := 61) (i := 0) fun _ => rfl]
      exact hp
    have hm : mA t q = t := pkS_self _ _ _ _ _ h.2.1
    have hl := fm_look ht hpt hq
    rw [h2, hm] at hl
    rw [h.2.2, of_m1, if_pos rfl, hl, Option.bind_some]
    show (if hmN tp n q = Int32.ofInt 59 then _ else f_M_readSea_L113 k54 y t) = _
    rw [of_59, if_neg (fun z => h4 ((hm_is ht (by omega) (by omega)).mp z)), e]
theorem fm_seaL (ht : TOK n tp) (hp : TPm n tp s) : ∀ (m fu i : Nat) (c : CNT) (D : Nat → Int32) (t : S2), m + 1 < fu → 20 ≤ c 0 + c 1 + c 2 + c 3 + m → i ≤ n → cOK c → MST s c c D i t → ∃ t' r, f_M_readSea_L54 fu (nI (c 0)) (nI 1) t = some (t', r) ∧ SEm s t' r n (seaS tp n m c D i) := by
  have h240 := ht.1
  intro m
  induction m with
  | zero =>
    intro fu i c D t hf hcs hi hc h
    have h0 := hc 0 (by omega)
    have h1 := hc 1 (by omega)
    have h2 := hc 2 (by omega)
    have h3 := hc 3 (by omega)
    obtain ⟨v0, v1, v2, v3⟩ := mx_v
    omega
  | succ m ih =>
    intro fu i c D t hf hcs hi hc h
    obtain ⟨g, rfl, hg⟩ := suc_lt hf
    obtain ⟨g', rfl, hg'⟩ := suc_of hg
    obtain ⟨v0, v1, v2, v3⟩ := mx_v
    have hc0 := hc 0 (by omega)
    have hk := skN_le (tp := tp) hi
    have hl := mst_look ht hp h hi
    have hk0 : ∀ x t, f_M_readSea_L54 (g' + 1) x (Int32.ofInt 0) t = f_M_readSea_L136 t := fun x t => by
      show b_M_readSea_L54 _ _ _ _ = _
      unfold b_M_readSea_L54
      rw [if_pos (show Int32.ofInt 0 = 0 from of_0)]
    -- a clause at a place and at the place behind its blanks
    have hcl : clS' tp n c D (skN tp n i) = clS' tp n c D i := by
      unfold clS'
      rw [skN_2 hi]
    obtain ⟨t1, a1, a2⟩ := fm_clause ht hp hc hk.2 (mst_at h (skN tp n i)) (skN_2 hi)
    rw [hcl] at a2
    show ∃ t' r, b_M_readSea_L54 _ _ _ _ = _ ∧ _
    unfold b_M_readSea_L54
    rw [if_neg (show ¬ nI 1 = 0 by decide), h.2.2.1, of_m1, if_pos rfl, hl, Option.bind_some]
    show ∃ t' r, (f_M_clauseText (nI (c 0)) (mA t (skN tp n i))).bind _ = _ ∧ _
    rw [a1, Option.bind_some]
    unfold f_M_readSea_L86
    show ∃ t' r, (if nI (c 0) = 0 then (if hmN tp n (skN tp n i) = Int32.ofInt 119 then f_M_readSea_L91 (f_M_readSea_L54 (g' + 1)) (Int32.ofInt 1) t1 else f_M_readSea_L91 (f_M_readSea_L54 (g' + 1)) (Int32.ofInt 0) t1) else f_M_readSea_L91 (f_M_readSea_L54 (g' + 1)) (Int32.ofInt 1) t1) = _ ∧ _
    cases e : clS' tp n c D i with
    | inl q =>
      rw [e] at a2
      rw [se_bad e]
      obtain ⟨hq, hf⟩ := a2
      obtain ⟨x1, b1, b2⟩ := fm_L91F (y := Int32.ofInt 1) ht hp hq hf hk0
      obtain ⟨x2, d1, d2⟩ := fm_L91F (y := Int32.ofInt 0) ht hp hq hf hk0
      by_cases c1 : nI (c 0) = 0
      · rw [if_pos c1]
        by_cases c2 : hmN tp n (skN tp n i) = Int32.ofInt 119
        · rw [if_pos c2, b1]; exact ⟨_, _, rfl, hq, rfl, b2⟩
        · rw [if_neg c2, d1]; exact ⟨_, _, rfl, hq, rfl, d2⟩
      · rw [if_neg c1, b1]; exact ⟨_, _, rfl, hq, rfl, b2⟩
    | inr q =>
      rw [e] at a2
      obtain ⟨hq, hs, hm, h1⟩ := a2
      rw [se_eq e]
      have hc1 := cup_ok hc hm
      have hkq := skN_le (tp := tp) hq
      have hl1 := mst_look ht hp h1 hq
      have hch := chN_lt ht (skN tp n i)
      -- the sort of the clause
      have hix : cIx 0 (chN tp n (skN tp n i)) = some q.2.1 := by
        cases z : cIx 0 (chN tp n (skN tp n i)) with
        | none => rw [cl_none z] at e; cases e
        | some so =>
          by_cases z2 : c so < mxN so
          · cases z3 : ieS tp n so (frN so + c so) 9 (skN tp n i + 1) 0 (fiD so (frN so + c so) D) with
            | inl y => rw [cl_bad z z2 z3] at e; cases e
            | inr y => rw [cl_ok z z2 z3] at e; cases e; rfl
          · rw [cl_full z z2] at e; cases e
      have is119 : (hmN tp n (skN tp n i) = nI 119) = (chN tp n (skN tp n i) = 119) := hm_is ht (by omega) (by omega)
      -- whether water has been told from now on
      have hgo : (if nI (c 0) = 0 then (if hmN tp n (skN tp n i) = Int32.ofInt 119 then f_M_readSea_L91 (f_M_readSea_L54 (g' + 1)) (Int32.ofInt 1) t1 else f_M_readSea_L91 (f_M_readSea_L54 (g' + 1)) (Int32.ofInt 0) t1) else f_M_readSea_L91 (f_M_readSea_L54 (g' + 1)) (Int32.ofInt 1) t1) = f_M_readSea_L91 (f_M_readSea_L54 (g' + 1)) (nI (cup c q.2.1 0)) t1 := by
        rw [of_119]
        by_cases c1 : c 0 = 0
        · rw [if_pos (by rw [c1]; exact nI_0)]
          by_cases c2 : chN tp n (skN tp n i) = 119
          · have : q.2.1 = 0 := by
              rw [cIx_so _ hch, c2, soO_v.1] at hix
              exact (Option.some.inj hix).symm
            rw [if_pos (is119.mpr c2), show cup c q.2.1 0 = 1 by unfold cup; rw [if_pos this.symm]; omega, of_1]
          · have : ¬ 0 = q.2.1 := fun z => by
              rw [← z, cIx_so _ hch] at hix
              unfold soO at hix
              rw [if_neg c2] at hix
              split at hix
              · cases hix
              · split at hix
                · cases hix
                · split at hix <;> cases hix
            rw [if_neg (fun z => c2 (is119.mp z)), show cup c q.2.1 0 = 0 by unfold cup; rw [if_neg this]; exact c1]
            rfl
        · have h0 : c 0 = 1 := by omega
          have : ¬ 0 = q.2.1 := fun z => by rw [← z] at hm; omega
          rw [if_neg (show ¬ nI (c 0) = 0 by rw [h0]; decide), show cup c q.2.1 0 = 1 by unfold cup; rw [if_neg this]; exact h0, of_1]
      rw [hgo]
      unfold f_M_readSea_L91
      rw [h1.2.2.1, of_m1, if_pos rfl, hl1, Option.bind_some]
      show ∃ t' r, (if hmN tp n (skN tp n q.1) = Int32.ofInt 59 then f_M_readSea_L114 (f_M_readSea_L54 (g' + 1)) (nI (cup c q.2.1 0)) (Int32.ofInt 1) (mA t1 (skN tp n q.1)) else f_M_readSea_L113 (f_M_readSea_L54 (g' + 1)) (nI (cup c q.2.1 0)) (mA t1 (skN tp n q.1))) = _ ∧ _
      rw [of_59]
      have is59 : (hmN tp n (skN tp n q.1) = nI 59) = (chN tp n (skN tp n q.1) = 59) := hm_is ht (by omega) (by omega)
      have hat := mst_at h1 (skN tp n q.1)
      by_cases y : chN tp n (skN tp n q.1) = 59
      · have hlt := chN_p y (by omega)
        rw [if_pos (is59.mpr y), if_neg (show ¬ chN tp n (skN tp n q.1) = 0 by omega), if_pos y]
        unfold f_M_readSea_L114 f_M_readSea_L129
        rw [of_1, if_neg (show ¬ nI 1 = 0 by decide), hat.2.1, nI_add, Option.bind_some, show pkS (mA t1 (skN tp n q.1)) 60 0 3 (nI (skN tp n q.1 + 1)) = mA t1 (skN tp n q.1 + 1) from mA_mA _ _ _]
        exact ih (g' + 1) (skN tp n q.1 + 1) _ _ _ (by omega) (by rw [cup_sum hs]; omega) (by omega) hc1 (mst_at h1 _)
      · have e13 : f_M_readSea_L113 (f_M_readSea_L54 (g' + 1)) (nI (cup c q.2.1 0)) (mA t1 (skN tp n q.1)) = f_M_readSea_L136 (mA t1 (skN tp n q.1)) := by
          unfold f_M_readSea_L113 f_M_readSea_L114 f_M_readSea_L129
          rw [if_pos (show Int32.ofInt 0 = 0 from of_0), Option.bind_some, hk0]
          exact congrArg f_M_readSea_L136 (pkS_self _ _ _ _ _ (by rw [of_0, Int32.add_zero]))
        rw [if_neg (fun z => y (is59.mp z)), e13, fm_fin ht hp hc1 hkq.2 hat (skN_2 hq)]
        by_cases z : chN tp n (skN tp n q.1) = 0
        · rw [if_pos z, if_pos z]
          cases w : wzS (cup c q.2.1) q.2.2 with
          | true =>
            exact ⟨_, _, rfl, rfl, hat.1, hat.2.2.2.1, hat.2.2.2.2, hc1, w⟩
          | false =>
            exact ⟨_, _, rfl, hkq.2, rfl, (mst_bad hat _).1⟩
        · rw [if_neg z, if_neg z, if_neg y]
          exact ⟨_, _, rfl, hkq.2, rfl, (mst_bad hat _).1⟩
end
