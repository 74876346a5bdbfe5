/-! ===== a rule's text: what is meant, and the class's sums ===== -/
section
variable {s s0 t : S2} {tp : Nat → Nat} {n : Nat}
abbrev RES : Type := Nat ⊕ (Nat × List Nat)
def atS (tp : Nat → Nat) (n : Nat) (g : Nat → Nat → RES) (d i : Nat) : RES :=
  if dgN tp n (skN tp n i) then (match nuG tp n 4 (skN tp n i) with
    | Sum.inl q => Sum.inl q
    | Sum.inr q => Sum.inr (q.2, [256 + q.1]))
  else if chN tp n (skN tp n i) = 91 then (if d < 6 then (match g (d + 1) (skN tp n i + 1) with
    | Sum.inl q => Sum.inl q
    | Sum.inr q => if chN tp n (skN tp n q.1) = 93 then Sum.inr (skN tp n q.1 + 1, q.2) else Sum.inl (skN tp n q.1)) else Sum.inl (skN tp n i))
  else (match cIx 2 (chN tp n (skN tp n i)) with
    | none => Sum.inl (skN tp n i)
    | some k => Sum.inr (skN tp n i + 1, [k]))
def tmL (tp : Nat → Nat) (n : Nat) (a : Nat → RES) (c1 c2 : Nat) : Nat → Nat → List Nat → RES
  | 0, _, _ => Sum.inl 0
  | m + 1, i, L => if chN tp n (skN tp n i) = c1 ∨ chN tp n (skN tp n i) = c2 then (match a (skN tp n i + 1) with
    | Sum.inl q => Sum.inl q
    | Sum.inr q => tmL tp n a c1 c2 m q.1 (L ++ q.2 ++ [chN tp n (skN tp n i)])) else Sum.inr (skN tp n i, L)
def lpR (tp : Nat → Nat) (n : Nat) (a : Nat → RES) (c1 c2 i : Nat) : RES := match a i with
  | Sum.inl q => Sum.inl q
  | Sum.inr q => tmL tp n a c1 c2 241 q.1 q.2
def teS (tp : Nat → Nat) (n : Nat) (g : Nat → Nat → RES) (d i : Nat) : RES := lpR tp n (atS tp n g d) 42 47 i
def sumS (tp : Nat → Nat) (n : Nat) : Nat → Nat → Nat → RES
  | 0, _, _ => Sum.inl 0
  | f + 1, d, i => lpR tp n (teS tp n (sumS tp n f) d) 43 45 i
/-- the class while it reads a rule -/
def Klc (c i k : Nat) : Bool := (c == 17 && i == 4) || ((c == 18 && i == 4) || (c == 11 && k == 2))
def LT (s : S2) (L : List Nat) (i : Nat) (t : S2) : Prop := Fr Klc s t ∧ t.1 17 4 2 = nI L.length ∧ (∀ k, k < L.length → t.1 18 4 k = nI (L[k]?.getD 0)) ∧ t.1 11 0 2 = nI i
theorem LT_tA {L : List Nat} {i : Nat} (h : LT s L i t) : tA t i = t := pkS_self _ _ _ _ _ h.2.2.2
theorem LT_at {L : List Nat} {i : Nat} (h : LT s L i t) (j : Nat) : LT s L j (tA t j) := by
  obtain ⟨h1, h2, h3, h4⟩ := h
  exact ⟨h1.pk' _ rfl, (tA_o (by omega)).trans h2, fun k hk => (tA_o (by omega)).trans (h3 k hk), tA_at _ _⟩
theorem LT_tp {L : List Nat} {i : Nat} (h : LT s L i t) (hp : TPc n tp s) : TPc n tp t := by
  unfold TPc at hp ⊢
  rw [h.1.1 11 0 1 rfl, h.1.arr (c := 12) (i := 0) fun _ => rfl]
  exact hp
theorem LT_put {L : List Nat} {i c : Nat} (h : LT s L i t) (hl : L.length < 241) : ∃ t', f_Rule_put 4 (nI c) t = some t' ∧ LT s (L ++ [c]) i t' := by
  obtain ⟨h1, h2, h3, h4⟩ := h
  unfold f_Rule_put
  rw [h2, if_neg (nI_ge hl (by omega)), ix_nI (n := 241) (k := L.length) hl (by omega), Option.bind_some, Option.bind_some]
  have e : (pkS t 18 4 L.length (nI c)).1 17 4 2 = nI L.length := by rw [pkS_v, if_neg (by omega)]; exact h2
  rw [e, of_1, nI_add, Option.bind_some]
  refine ⟨_, rfl, (h1.pk' _ rfl).pk' _ rfl, ?_, fun k hk => ?_, ?_⟩
  · rw [pkS_v, if_pos ⟨rfl, rfl, rfl⟩, List.length_append]
    rfl
  · rw [List.length_append] at hk
    have hk : k < L.length + 1 := hk
    rw [pkS_v, if_neg (by omega), pkS_v]
    by_cases e1 : k = L.length
    · rw [if_pos ⟨rfl, rfl, e1⟩, e1, List.getElem?_append_right (Nat.le_refl _), Nat.sub_self]
      rfl
    · rw [if_neg (by omega), List.getElem?_append_left (by omega)]
      exact h3 k (by omega)
  · rw [pkS_v, if_neg (by omega), pkS_v, if_neg (by omega)]
    exact h4
/-- a reader of the class does as is meant -/
def CRr (n : Nat) (s : S2) (L : List Nat) (i : Nat) (t' : S2) (b : Bool) : RES → Prop
  | Sum.inl q => b = false ∧ q ≤ n ∧ ∃ L', LT s L' q t'
  | Sum.inr q => b = true ∧ LT s (L ++ q.2) q.1 t' ∧ i + q.2.length ≤ q.1 ∧ i < q.1 ∧ q.1 ≤ n
def PCl (n : Nat) (s : S2) (f : S2 → Option (S2 × Bool)) (sp : Nat → RES) : Prop := ∀ (t : S2) (L : List Nat) (i : Nat), LT s L i t → i ≤ n → L.length ≤ i → ∃ t' b, f t = some (t', b) ∧ CRr n s L i t' b (sp i)
theorem lt_look {L : List Nat} {i : Nat} (ht : TOK n tp) (hp : TPc n tp s) (h : LT s L i t) (hi : i ≤ n) : f_Tape_look t = some (tA t (skN tp n i), nI (chN tp n (skN tp n i))) := by
  have hl := fc_look ht (LT_tp h hp) hi
  rw [LT_tA h] at hl
  exact hl
theorem lt_takes {L : List Nat} {i c : Nat} (ht : TOK n tp) (hp : TPc n tp s) (h : LT s L i t) (hi : i ≤ n) (hc : c < 256) : f_Tape_takes (nI c) t = some (if chN tp n (skN tp n i) = c then (tA t (skN tp n i + 1), true) else (tA t (skN tp n i), false)) := by
  have hl := fc_takes (c := c) ht (LT_tp h hp) hi hc
  rw [LT_tA h] at hl
  exact hl
theorem m1_ne' {q : Nat} (h : q < 2 ^ 31) : ¬ nI q = -1 := cdO_nm1 q h
theorem cx2_n : cIx 2 0 = none ∧ cIx 2 91 = none := by decide +kernel
theorem pcl_atom (ht : TOK n tp) (hp : TPc n tp s) {g : Nat → Int32 → S2 → Option (S2 × Bool)} {gs : Nat → Nat → RES} {d : Nat} (hg : d < 6 → PCl n s (g 4 (nI (d + 1))) (gs (d + 1))) (hd : d ≤ 6) : PCl n s (f_Rule_readAtom g 4 (nI d)) (atS tp n gs d) := by
  intro t L i h hi hL
  have h240 := ht.1
  have hk := skN_le (tp := tp) hi
  have hl := lt_look ht hp h hi
  have hat := LT_at h (skN tp n i)
  have hch := chN_lt ht (skN tp n i)
  have hl2 := lt_look ht hp hat hk.2
  rw [skN_2 hi, tA_tA] at hl2
  have hdg := fc_digit ht (LT_tp h hp) hk.2
  unfold f_Rule_readAtom f_Tape_isAtDigit f_Rule_readAtom_L27 atS
  rw [hl, Option.bind_some]
  show ∃ t' b, ((f_Tape_isDigitHere (tA t (skN tp n i))).bind _).bind _ = _ ∧ _
  rw [hdg, Option.bind_some, Option.bind_some]
  cases c : dgN tp n (skN tp n i) with
  | true =>
    rw [if_pos rfl]
    show ∃ t' b, (if bI true = 0 then _ else (f_Tape_readNumber (Int32.ofInt 4) (tA t (skN tp n i))).bind _) = _ ∧ _
    rw [ifT, of_4, fc_num (M := 4) ht (LT_tp h hp) (by omega) hk.2]
    have hn := nuG_le (tp := tp) (n := n) (M := 4) hk.2
    cases e : nuG tp n 4 (skN tp n i) with
    | inl q => exact ⟨tA t q, false, rfl, rfl, hn.1 q e, L, LT_at h q⟩
    | inr q =>
      obtain ⟨q1, q2, q3⟩ := hn.2 q e
      have q3' : q.1 < 10000 := q3
      have hlt : skN tp n i < q.2 := by
        have := dgS_le (tp := tp) (n := n) 3 (10 * 0 + tp (skN tp n i) - 48) (skN tp n i + 1) (by have := (dgN_at c).1; omega)
        have e2 : dgS tp n 4 0 (skN tp n i) = dgS tp n 3 (10 * 0 + tp (skN tp n i) - 48) (skN tp n i + 1) := by
          show (if dgN tp n (skN tp n i) then _ else _) = _
          rw [c, if_pos rfl]
        unfold nuG at e
        rw [skN_2 hi, c, if_pos rfl] at e
        split at e
        · cases e
        · cases e
          rw [e2]; omega
      obtain ⟨t', a1, a2⟩ := LT_put (c := 256 + q.1) (LT_at h q.2) (by omega)
      refine ⟨t', true, ?_, rfl, a2, ?_, by omega, q2⟩
      · rw [Option.bind_some]
        show (if nI q.1 = Int32.ofInt (-1) then _ else (f_Rule_put 4 (Int32.ofInt 256 + nI q.1) (tA t q.2)).bind _) = _
        rw [of_m1, if_neg (m1_ne' (by omega)), of_256, nI_add, a1, Option.bind_some]
        show (if nI q.1 = -1 then some (t', false) else some (t', true)) = _
        rw [if_neg (m1_ne' (by omega))]
      · show i + 1 ≤ q.2
        omega
  | false =>
    rw [if_neg (show ¬ (false = true) by decide)]
    show ∃ t' b, (if bI false = 0 then (f_Tape_look (tA t (skN tp n i))).bind _ else _) = _ ∧ _
    rw [ifF, hl2, Option.bind_some]
    show ∃ t' b, (if nI (chN tp n (skN tp n i)) = Int32.ofInt 91 then _ else _) = _ ∧ _
    rw [of_91]
    by_cases b : chN tp n (skN tp n i) = 91
    · have hlt := chN_p b (by omega)
      rw [if_pos b, if_pos (by rw [b])]
      unfold f_Rule_readBracket
      rw [of_6]
      by_cases d6 : d < 6
      · rw [if_pos d6, if_pos (nI_lt d6 (by omega))]
        show ∃ t' b, ((f_Tape_pass (tA t (skN tp n i))).bind _).bind _ = _ ∧ _
        rw [fc_pass1, Option.bind_some, of_1, nI_add]
        obtain ⟨t1, b1, a1, a2⟩ := hg d6 _ L (skN tp n i + 1) (LT_at h (skN tp n i + 1)) (by omega) (by omega)
        rw [a1, Option.bind_some]
        cases e : gs (d + 1) (skN tp n i + 1) with
        | inl q =>
          rw [e] at a2
          obtain ⟨rfl, x2, x3⟩ := a2
          exact ⟨t1, false, rfl, rfl, x2, x3⟩
        | inr q =>
          rw [e] at a2
          obtain ⟨rfl, x2, x3, x4, x5⟩ := a2
          have hkq := skN_le (tp := tp) x5
          show ∃ t' b, (if bI true = 0 then _ else (f_Tape_takes (Int32.ofInt 93) t1).bind _).bind _ = _ ∧ _
          rw [ifT, of_93, lt_takes ht hp x2 x5 (by omega), Option.bind_some]
          by_cases y : chN tp n (skN tp n q.1) = 93
          · have hlq := chN_p y (by omega)
            rw [if_pos y]
            show ∃ t' b, _ = _ ∧ CRr n s L i t' b (if chN tp n (skN tp n q.1) = 93 then Sum.inr (skN tp n q.1 + 1, q.2) else Sum.inl (skN tp n q.1))
            rw [if_pos y]
            exact ⟨_, true, rfl, rfl, LT_at x2 _, by show i + q.2.length ≤ skN tp n q.1 + 1; omega, by show i < skN tp n q.1 + 1; omega, by show skN tp n q.1 + 1 ≤ n; omega⟩
          · rw [if_neg y]
            show ∃ t' b, _ = _ ∧ CRr n s L i t' b (if chN tp n (skN tp n q.1) = 93 then Sum.inr (skN tp n q.1 + 1, q.2) else Sum.inl (skN tp n q.1))
            rw [if_neg y]
            exact ⟨_, false, rfl, rfl, hkq.2, _, LT_at x2 _⟩
      · rw [if_neg d6, if_neg (nI_nlt (by omega) (by omega))]
        exact ⟨_, false, rfl, rfl, hk.2, L, hat⟩
    · rw [if_neg b, if_neg (fun z => b ((nI_eq (by omega) (by omega)).mp z))]
      show ∃ t' b, (f_String_indexOf 2 (ji2c (nI (chN tp n (skN tp n i)))) (tA t (skN tp n i))).bind _ = _ ∧ _
      rw [fc_ixOf2 hch, Option.bind_some]
      cases e : cIx 2 (chN tp n (skN tp n i)) with
      | none =>
        exact ⟨_, false, if_neg (by decide), rfl, hk.2, L, hat⟩
      | some k =>
        have hlt : skN tp n i < n := by
          apply Classical.byContradiction
          intro hn
          have : chN tp n (skN tp n i) = 0 := if_neg hn
          rw [this, cx2_n.1] at e
          cases e
        have hk6 : k < 6 := by
          unfold cIx at e
          rw [kb_l.2.2.1] at e
          have := ffS_lt 6 0 k e
          omega
        obtain ⟨t', a1, a2⟩ := LT_put (c := k) (LT_at h (skN tp n i + 1)) (by omega)
        refine ⟨t', true, ?_, rfl, a2, by show i + 1 ≤ skN tp n i + 1; omega, by show i < skN tp n i + 1; omega, by show skN tp n i + 1 ≤ n; omega⟩
        show (if (0 : Int32) ≤ nI k then (f_Tape_pass (tA t (skN tp n i))).bind _ else _) = _
        rw [if_pos (nI_pos' (by omega)), fc_pass1, Option.bind_some, show cdO (some k) = nI k from rfl, a1, Option.bind_some]
theorem tl_stop {a : Nat → RES} {c1 c2 m i : Nat} {L : List Nat} (h : ¬ (chN tp n (skN tp n i) = c1 ∨ chN tp n (skN tp n i) = c2)) : tmL tp n a c1 c2 (m + 1) i L = Sum.inr (skN tp n i, L) := by
  unfold tmL
  rw [if_neg h]
theorem tl_bad {a : Nat → RES} {c1 c2 m i q : Nat} {L : List Nat} (h : chN tp n (skN tp n i) = c1 ∨ chN tp n (skN tp n i) = c2) (e : a (skN tp n i + 1) = Sum.inl q) : tmL tp n a c1 c2 (m + 1) i L = Sum.inl q := by
  unfold tmL
  rw [if_pos h, e]
theorem tl_go {a : Nat → RES} {c1 c2 m i : Nat} {q : Nat × List Nat} {L : List Nat} (h : chN tp n (skN tp n i) = c1 ∨ chN tp n (skN tp n i) = c2) (e : a (skN tp n i + 1) = Sum.inr q) : tmL tp n a c1 c2 (m + 1) i L = tmL tp n a c1 c2 m q.1 (L ++ q.2 ++ [chN tp n (skN tp n i)]) := by
  have : tmL tp n a c1 c2 (m + 1) i L = (if chN tp n (skN tp n i) = c1 ∨ chN tp n (skN tp n i) = c2 then (match a (skN tp n i + 1) with
    | Sum.inl q => Sum.inl q
    | Sum.inr q => tmL tp n a c1 c2 m q.1 (L ++ q.2 ++ [chN tp n (skN tp n i)])) else Sum.inr (skN tp n i, L)) := rfl
  rw [this, if_pos h, e]
theorem pcl_termL (ht : TOK n tp) (hp : TPc n tp s) {g : Nat → Int32 → S2 → Option (S2 × Bool)} {gs : Nat → Nat → RES} {d : Nat} (ha : PCl n s (f_Rule_readAtom g 4 (nI d)) (atS tp n gs d)) : ∀ (m x fu i : Nat) (L0 L : List Nat) (t : S2), n < i + m → m < fu → x < i → i ≤ n → L0.length + L.length ≤ i → LT s (L0 ++ L) i t → ∃ t' b, f_Rule_readTerm_L13 4 g fu (nI d) (nI x) t = some (t', b) ∧ (match tmL tp n (atS tp n gs d) 42 47 m i L with
    | Sum.inl q => b = false ∧ q ≤ n ∧ ∃ L', LT s L' q t'
    | Sum.inr q => b = true ∧ LT s (L0 ++ q.2) q.1 t' ∧ i + q.2.length ≤ q.1 + L.length ∧ i ≤ q.1 ∧ q.1 ≤ n) := by
  have h240 := ht.1
  intro m
  induction m with
  | zero => intro x fu i L0 L t h1 h2 h3 h4; omega
  | succ m ih =>
    intro x fu i L0 L t h1 h2 h3 h4 h5 h
    obtain ⟨g', rfl, hg⟩ := suc_lt h2
    have hk := skN_le (tp := tp) h4
    have hch := chN_lt ht (skN tp n i)
    have hl := lt_look ht hp h h4
    show ∃ t' b, b_Rule_readTerm_L13 _ _ _ _ _ _ = _ ∧ _
    unfold b_Rule_readTerm_L13
    rw [of_240, if_neg (nI_ge (by omega) (by omega)), hl, Option.bind_some]
    show ∃ t' b, (if nI (chN tp n (skN tp n i)) = Int32.ofInt 42 then f_Rule_readTerm_L42 4 g _ (nI d) (nI x) (nI (chN tp n (skN tp n i))) (tA t (skN tp n i)) else (if nI (chN tp n (skN tp n i)) = Int32.ofInt 47 then f_Rule_readTerm_L42 4 g _ (nI d) (nI x) (nI (chN tp n (skN tp n i))) (tA t (skN tp n i)) else some (tA t (skN tp n i), true))) = _ ∧ _
    rw [of_42, of_47]
    by_cases c : chN tp n (skN tp n i) = 42 ∨ chN tp n (skN tp n i) = 47
    · have hlt : skN tp n i < n := chN_p (c := chN tp n (skN tp n i)) rfl (by rcases c with c | c <;> omega)
      have e0 : ∀ (A B : Option (S2 × Bool)), (if nI (chN tp n (skN tp n i)) = nI 42 then A else (if nI (chN tp n (skN tp n i)) = nI 47 then A else B)) = A := fun A B => by
        by_cases c' : chN tp n (skN tp n i) = 42
        · rw [if_pos (by rw [c'])]
        · rw [if_neg (fun z => c' ((nI_eq (by omega) (by omega)).mp z)), if_pos (by rw [show chN tp n (skN tp n i) = 47 by omega])]
      rw [e0]
      unfold f_Rule_readTerm_L42
      obtain ⟨t1, b1, a1, a2⟩ := ha _ (L0 ++ L) (skN tp n i + 1) (LT_at h (skN tp n i + 1)) (by omega) (by rw [List.length_append]; omega)
      rw [fc_pass1, Option.bind_some, a1, Option.bind_some]
      cases e : (atS tp n gs d) (skN tp n i + 1) with
      | inl q =>
        rw [e] at a2
        rw [tl_bad c e]
        obtain ⟨rfl, x2, x3⟩ := a2
        exact ⟨t1, false, rfl, rfl, x2, x3⟩
      | inr q =>
        rw [e] at a2
        rw [tl_go c e]
        obtain ⟨rfl, x2, x3, x4, x5⟩ := a2
        show ∃ t' b, (if bI true = 0 then _ else (f_Rule_put 4 (nI (chN tp n (skN tp n i))) t1).bind _) = _ ∧ _
        obtain ⟨t2, d1, d2⟩ := LT_put (c := chN tp n (skN tp n i)) x2 (by rw [List.length_append, List.length_append]; omega)
        rw [ifT, d1, Option.bind_some, of_1, nI_add]
        have hr := ih (x + 1) g' q.1 L0 (L ++ q.2 ++ [chN tp n (skN tp n i)]) t2 (by omega) hg (by omega) x5 (by rw [List.length_append, List.length_append]; show L0.length + (L.length + q.2.length + 1) ≤ q.1; omega) (by rw [← List.append_assoc, ← List.append_assoc]; exact d2)
        obtain ⟨t', b', r1, r2⟩ := hr
        refine ⟨t', b', r1, ?_⟩
        cases z : tmL tp n (atS tp n gs d) 42 47 m q.1 (L ++ q.2 ++ [chN tp n (skN tp n i)]) with
        | inl y => rw [z] at r2; exact r2
        | inr y =>
          rw [z] at r2
          obtain ⟨y1, y2, y3, y4, y5⟩ := r2
          rw [List.length_append, List.length_append] at y3
          have y3 : q.1 + y.2.length ≤ y.1 + (L.length + q.2.length + 1) := y3
          exact ⟨y1, y2, by omega, by omega, y5⟩
    · rw [if_neg (fun z => c (Or.inl ((nI_eq (by omega) (by omega)).mp z))), if_neg (fun z => c (Or.inr ((nI_eq (by omega) (by omega)).mp z))), tl_stop c]
      exact ⟨_, true, rfl, rfl, LT_at h _, by show i + L.length ≤ skN tp n i + L.length; omega, hk.1, hk.2⟩
theorem pcl_term (ht : TOK n tp) (hp : TPc n tp s) {g : Nat → Int32 → S2 → Option (S2 × Bool)} {gs : Nat → Nat → RES} {d : Nat} (ha : PCl n s (f_Rule_readAtom g 4 (nI d)) (atS tp n gs d)) : PCl n s (f_Rule_readTerm g 4 (nI d)) (lpR tp n (atS tp n gs d) 42 47) := by
  have h240 := ht.1
  intro t L i h hi hL
  obtain ⟨t1, b1, a1, a2⟩ := ha t L i h hi hL
  unfold f_Rule_readTerm
  unfold lpR
  rw [a1, Option.bind_some]
  cases e : (atS tp n gs d) i with
  | inl q =>
    rw [e] at a2
    obtain ⟨rfl, x2, x3⟩ := a2
    exact ⟨t1, false, rfl, rfl, x2, x3⟩
  | inr q =>
    rw [e] at a2
    obtain ⟨rfl, x2, x3, x4, x5⟩ := a2
    obtain ⟨t', b', r1, r2⟩ := pcl_termL ht hp ha 241 0 FU q.1 L q.2 t1 (by omega) (lt_FU (by omega)) (by omega) x5 (by omega) x2
    refine ⟨t', b', ?_, ?_⟩
    · show (if bI true = 0 then _ else f_Rule_readTerm_L13 4 g FU (nI d) (Int32.ofInt 0) t1) = _
      rw [ifT, show Int32.ofInt 0 = nI 0 from of_0]
      exact r1
    · show CRr n s L i t' b' (tmL tp n (atS tp n gs d) 42 47 241 q.1 q.2)
      cases z : tmL tp n (atS tp n gs d) 42 47 241 q.1 q.2 with
      | inl y => rw [z] at r2; exact r2
      | inr y =>
        rw [z] at r2
        obtain ⟨y1, y2, y3, y4, y5⟩ := r2
        exact ⟨y1, y2, by omega, by omega, y5⟩
theorem pcl_sumL (ht : TOK n tp) (hp : TPc n tp s) {g : Nat → Int32 → S2 → Option (S2 × Bool)} {gs : Nat → Nat → RES} {d : Nat} (ha : PCl n s (f_Rule_readTerm g 4 (nI d)) (teS tp n gs d)) : ∀ (m x fu i : Nat) (L0 L : List Nat) (t : S2), n < i + m → m < fu → x < i → i ≤ n → L0.length + L.length ≤ i → LT s (L0 ++ L) i t → ∃ t' b, f_Rule_readSum_L13 4 g fu (nI d) (nI x) t = some (t', b) ∧ (match tmL tp n (teS tp n gs d) 43 45 m i L with
    | Sum.inl q => b = false ∧ q ≤ n ∧ ∃ L', LT s L' q t'
    | Sum.inr q => b = true ∧ LT s (L0 ++ q.2) q.1 t' ∧ i + q.2.length ≤ q.1 + L.length ∧ i ≤ q.1 ∧ q.1 ≤ n) := by
  have h240 := ht.1
  intro m
  induction m with
  | zero => intro x fu i L0 L t h1 h2 h3 h4; omega
  | succ m ih =>
    intro x fu i L0 L t h1 h2 h3 h4 h5 h
    obtain ⟨g', rfl, hg⟩ := suc_lt h2
    have hk := skN_le (tp := tp) h4
    have hch := chN_lt ht (skN tp n i)
    have hl := lt_look ht hp h h4
    show ∃ t' b, b_Rule_readSum_L13 _ _ _ _ _ _ = _ ∧ _
    unfold b_Rule_readSum_L13
    rw [of_240, if_neg (nI_ge (by omega) (by omega)), hl, Option.bind_some]
    show ∃ t' b, (if nI (chN tp n (skN tp n i)) = Int32.ofInt 43 then f_Rule_readSum_L42 4 g _ (nI d) (nI x) (nI (chN tp n (skN tp n i))) (tA t (skN tp n i)) else (if nI (chN tp n (skN tp n i)) = Int32.ofInt 45 then f_Rule_readSum_L42 4 g _ (nI d) (nI x) (nI (chN tp n (skN tp n i))) (tA t (skN tp n i)) else some (tA t (skN tp n i), true))) = _ ∧ _
    rw [of_43, of_45]
    by_cases c : chN tp n (skN tp n i) = 43 ∨ chN tp n (skN tp n i) = 45
    · have hlt : skN tp n i < n := chN_p (c := chN tp n (skN tp n i)) rfl (by rcases c with c | c <;> omega)
      have e0 : ∀ (A B : Option (S2 × Bool)), (if nI (chN tp n (skN tp n i)) = nI 43 then A else (if nI (chN tp n (skN tp n i)) = nI 45 then A else B)) = A := fun A B => by
        by_cases c' : chN tp n (skN tp n i) = 43
        · rw [if_pos (by rw [c'])]
        · rw [if_neg (fun z => c' ((nI_eq (by omega) (by omega)).mp z)), if_pos (by rw [show chN tp n (skN tp n i) = 45 by omega])]
      rw [e0]
      unfold f_Rule_readSum_L42
      obtain ⟨t1, b1, a1, a2⟩ := ha _ (L0 ++ L) (skN tp n i + 1) (LT_at h (skN tp n i + 1)) (by omega) (by rw [List.length_append]; omega)
      rw [fc_pass1, Option.bind_some, a1, Option.bind_some]
      cases e : (teS tp n gs d) (skN tp n i + 1) with
      | inl q =>
        rw [e] at a2
        rw [tl_bad c e]
        obtain ⟨rfl, x2, x3⟩ := a2
        exact ⟨t1, false, rfl, rfl, x2, x3⟩
      | inr q =>
        rw [e] at a2
        rw [tl_go c e]
        obtain ⟨rfl, x2, x3, x4, x5⟩ := a2
        show ∃ t' b, (if bI true = 0 then _ else (f_Rule_put 4 (nI (chN tp n (skN tp n i))) t1).bind _) = _ ∧ _
        obtain ⟨t2, d1, d2⟩ := LT_put (c := chN tp n (skN tp n i)) x2 (by rw [List.length_append, List.length_append]; omega)
        rw [ifT, d1, Option.bind_some, of_1, nI_add]
        have hr := ih (x + 1) g' q.1 L0 (L ++ q.2 ++ [chN tp n (skN tp n i)]) t2 (by omega) hg (by omega) x5 (by rw [List.length_append, List.length_append]; show L0.length + (L.length + q.2.length + 1) ≤ q.1; omega) (by rw [← List.append_assoc, ← List.append_assoc]; exact d2)
        obtain ⟨t', b', r1, r2⟩ := hr
        refine ⟨t', b', r1, ?_⟩
        cases z : tmL tp n (teS tp n gs d) 43 45 m q.1 (L ++ q.2 ++ [chN tp n (skN tp n i)]) with
        | inl y => rw [z] at r2; exact r2
        | inr y =>
          rw [z] at r2
          obtain ⟨y1, y2, y3, y4, y5⟩ := r2
          rw [List.length_append, List.length_append] at y3
          have y3 : q.1 + y.2.length ≤ y.1 + (L.length + q.2.length + 1) := y3
          exact ⟨y1, y2, by omega, by omega, y5⟩
    · rw [if_neg (fun z => c (Or.inl ((nI_eq (by omega) (by omega)).mp z))), if_neg (fun z => c (Or.inr ((nI_eq (by omega) (by omega)).mp z))), tl_stop c]
      exact ⟨_, true, rfl, rfl, LT_at h _, by show i + L.length ≤ skN tp n i + L.length; omega, hk.1, hk.2⟩
theorem pcl_sum (ht : TOK n tp) (hp : TPc n tp s) {g : Nat → Int32 → S2 → Option (S2 × Bool)} {gs : Nat → Nat → RES} {d : Nat} (ha : PCl n s (f_Rule_readTerm g 4 (nI d)) (teS tp n gs d)) : PCl n s (fb_Rule_readSum g 4 (nI d)) (lpR tp n (teS tp n gs d) 43 45) := by
  have h240 := ht.1
  intro t L i h hi hL
  obtain ⟨t1, b1, a1, a2⟩ := ha t L i h hi hL
  unfold fb_Rule_readSum
  unfold lpR
  rw [a1, Option.bind_some]
  cases e : (teS tp n gs d) i with
  | inl q =>
    rw [e] at a2
    obtain ⟨rfl, x2, x3⟩ := a2
    exact ⟨t1, false, rfl, rfl, x2, x3⟩
  | inr q =>
    rw [e] at a2
    obtain ⟨rfl, x2, x3, x4, x5⟩ := a2
    obtain ⟨t', b', r1, r2⟩ := pcl_sumL ht hp ha 241 0 FU q.1 L q.2 t1 (by omega) (lt_FU (by omega)) (by omega) x5 (by omega) x2
    refine ⟨t', b', ?_, ?_⟩
    · show (if bI true = 0 then _ else f_Rule_readSum_L13 4 g FU (nI d) (Int32.ofInt 0) t1) = _
      rw [ifT, show Int32.ofInt 0 = nI 0 from of_0]
      exact r1
    · show CRr n s L i t' b' (tmL tp n (teS tp n gs d) 43 45 241 q.1 q.2)
      cases z : tmL tp n (teS tp n gs d) 43 45 241 q.1 q.2 with
      | inl y => rw [z] at r2; exact r2
      | inr y =>
        rw [z] at r2
        obtain ⟨y1, y2, y3, y4, y5⟩ := r2
        exact ⟨y1, y2, by omega, by omega, y5⟩
theorem pcl_sumS (ht : TOK n tp) (hp : TPc n tp s) : ∀ (f d : Nat), d ≤ 6 → 7 ≤ d + f → PCl n s (f_Rule_readSum f 4 (nI d)) (sumS tp n f d) := by
  intro f
  induction f with
  | zero => intro d h1 h2; omega
  | succ f ih =>
    intro d h1 h2
    have ha := pcl_atom (g := f_Rule_readSum f) (gs := sumS tp n f) (d := d) ht hp (fun h6 => ih (d + 1) (by omega) (by omega)) h1
    exact pcl_sum ht hp (pcl_term ht hp ha)
end
