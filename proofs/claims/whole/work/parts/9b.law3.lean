/-! ===== a rule's text: the class's clauses and the whole ===== -/
section
variable {s s0 t : S2} {tp : Nat → Nat} {n : Nat}
abbrev CLA : Type := Option (List Nat) × List Nat
def tlS (tp : Nat → Nat) (n : Nat) (r : RES) : Nat ⊕ (Nat × CLA) := match r with
  | Sum.inl q => Sum.inl q
  | Sum.inr q => if chN tp n (skN tp n q.1) = 63 then (match sumS tp n 9 0 (skN tp n q.1 + 1) with
    | Sum.inl y => Sum.inl y
    | Sum.inr y => Sum.inr (y.1, some q.2, y.2)) else Sum.inl (skN tp n q.1)
def pre1 (q : List Nat) (r : RES) : RES := match r with
  | Sum.inl y => Sum.inl y
  | Sum.inr y => Sum.inr (y.1, q ++ y.2)
/-- a clause behind its beginning -/
def bdS (tp : Nat → Nat) (n i : Nat) : Nat ⊕ (Nat × CLA) :=
  if chN tp n (skN tp n i) = 33 ∨ chN tp n (skN tp n i) = 40 then tlS tp n (cdS tp n (unS tp n 9) 0 (skN tp n i))
  else (match sumS tp n 9 0 (skN tp n i) with
    | Sum.inl q => Sum.inl q
    | Sum.inr q => if isC (chN tp n (skN tp n q.1)) then tlS tp n (pre1 q.2 (cd1 tp n (unS tp n 9) 0 (skN tp n q.1))) else Sum.inr (skN tp n q.1, none, q.2))
def clR (tp : Nat → Nat) (n i : Nat) : Nat ⊕ (Nat × CLA) :=
  if chN tp n (skN tp n i) = 121 then (if chN tp n (skN tp n (skN tp n i + 1)) = 58 then bdS tp n (skN tp n (skN tp n i + 1) + 1) else Sum.inl (skN tp n (skN tp n i + 1))) else Sum.inl (skN tp n i)
def lawS (tp : Nat → Nat) (n : Nat) : Nat → Nat → Nat ⊕ List CLA
  | 0, _ => Sum.inl 0
  | m + 1, i => match clR tp n i with
    | Sum.inl q => Sum.inl q
    | Sum.inr q => if chN tp n (skN tp n q.1) = 0 then Sum.inr [q.2] else if chN tp n (skN tp n q.1) = 59 then (match lawS tp n m (skN tp n q.1 + 1) with
      | Sum.inl y => Sum.inl y
      | Sum.inr y => Sum.inr (q.2 :: y)) else Sum.inl (skN tp n q.1)
def enC : CLA → List Nat
  | (none, S) => S
  | (some T, S) => T ++ 63 :: S
def encL : List CLA → List Nat
  | [] => []
  | c :: l => enC c ++ 59 :: encL l
def CCr (n : Nat) (s : S2) (L : List Nat) (i : Nat) (t' : S2) (b : Bool) : Nat ⊕ (Nat × CLA) → Prop
  | Sum.inl q => b = false ∧ q ≤ n ∧ ∃ L', LT s L' q t'
  | Sum.inr q => b = true ∧ LT s (L ++ enC q.2) q.1 t' ∧ i + (enC q.2).length ≤ q.1 ∧ q.1 ≤ n
theorem lt_tail (ht : TOK n tp) (hp : TPc n tp s) {A : S2 → Option (S2 × Bool)} {a : Nat → RES} (ha : PCl n s A a) {L : List Nat} {i : Nat} (h : LT s L i t) (hi : i ≤ n) (hL : L.length ≤ i) : ∃ t' b, ((A t).bind fun q1 => (if (bI q1.2) = 0 then some (q1.1, false) else ((f_Tape_takes (Int32.ofInt 63) q1.1).bind fun q2 => (if (bI q2.2) = 0 then some (q2.1, false) else ((f_Rule_put 4 (Int32.ofInt 63) q2.1).bind fun q3 => ((f_Rule_readSum 9 4 (Int32.ofInt 0) q3).bind fun q4 => some (q4.1, q4.2))))))) = some (t', b) ∧ CCr n s L i t' b (tlS tp n (a i)) := by
  have h240 := ht.1
  obtain ⟨t1, b1, a1, a2⟩ := ha t L i h hi hL
  rw [a1, Option.bind_some]
  cases e : a i with
  | inl q =>
    rw [e] at a2
    obtain ⟨rfl, x2, x3⟩ := a2
    exact ⟨t1, false, rfl, rfl, x2, x3⟩
  | inr q =>
    rw [e] at a2
    obtain ⟨rfl, x2, x3, x4, x5⟩ := a2
    have hkq := skN_le (tp := tp) x5
    show ∃ t' b, (if bI true = 0 then _ else (f_Tape_takes (Int32.ofInt 63) t1).bind _) = _ ∧ _
    unfold tlS
    rw [ifT, of_63, lt_takes ht hp x2 x5 (by omega), Option.bind_some]
    by_cases y : chN tp n (skN tp n q.1) = 63
    · have hlq := chN_p y (by omega)
      rw [if_pos y]
      show ∃ t' b, (if bI true = 0 then _ else (f_Rule_put 4 (nI 63) (tA t1 (skN tp n q.1 + 1))).bind _) = _ ∧ CCr n s L i t' b (if chN tp n (skN tp n q.1) = 63 then _ else _)
      obtain ⟨t2, d1, d2⟩ := LT_put (c := 63) (LT_at x2 (skN tp n q.1 + 1)) (by rw [List.length_append]; omega)
      rw [ifT, d1, Option.bind_some, if_pos y, show Int32.ofInt 0 = nI 0 from of_0]
      obtain ⟨t3, b3, g1, g2⟩ := pcl_sumS ht hp 9 0 (by omega) (by omega) t2 _ (skN tp n q.1 + 1) d2 (by omega) (by rw [List.length_append, List.length_append]; show L.length + q.2.length + 1 ≤ _; omega)
      rw [g1, Option.bind_some]
      refine ⟨t3, b3, rfl, ?_⟩
      cases z : sumS tp n 9 0 (skN tp n q.1 + 1) with
      | inl y => rw [z] at g2; exact g2
      | inr y =>
        rw [z] at g2
        obtain ⟨y1, y2, y3, y4, y5⟩ := g2
        refine ⟨y1, ?_, ?_, y5⟩
        · show LT s (L ++ (q.2 ++ 63 :: y.2)) y.1 t3
          rw [show L ++ (q.2 ++ 63 :: y.2) = L ++ q.2 ++ [63] ++ y.2 by simp]
          exact y2
        · show i + (q.2 ++ 63 :: y.2).length ≤ y.1
          rw [List.length_append]
          show i + (q.2.length + (y.2.length + 1)) ≤ y.1
          omega
    · rw [if_neg y]
      show ∃ t' b, (if bI false = 0 then some (tA t1 (skN tp n q.1), false) else _) = _ ∧ CCr n s L i t' b (if chN tp n (skN tp n q.1) = 63 then _ else _)
      rw [ifF, if_neg y]
      exact ⟨_, false, rfl, rfl, hkq.2, _, LT_at x2 _⟩
theorem ccr_mono {L : List Nat} {i j : Nat} {t' : S2} {b : Bool} {r : Nat ⊕ (Nat × CLA)} (h : CCr n s L j t' b r) (hij : i ≤ j) : CCr n s L i t' b r := by
  cases r with
  | inl q => exact h
  | inr q =>
    obtain ⟨h1, h2, h3, h4⟩ := h
    exact ⟨h1, h2, by omega, h4⟩
theorem cl_pre (ht : TOK n tp) {q L : List Nat} {i j : Nat} {t' : S2} {b : Bool} {r : RES} (h : CCr n s (L ++ q) j t' b (tlS tp n r)) (hij : i + q.length ≤ j) : CCr n s L i t' b (tlS tp n (pre1 q r)) := by
  cases r with
  | inl y => exact h
  | inr y =>
    unfold pre1
    unfold tlS at h ⊢
    show CCr n s L i t' b (if chN tp n (skN tp n y.1) = 63 then (match sumS tp n 9 0 (skN tp n y.1 + 1) with
      | Sum.inl z => Sum.inl z
      | Sum.inr z => Sum.inr (z.1, some (q ++ y.2), z.2)) else Sum.inl (skN tp n y.1))
    have h : CCr n s (L ++ q) j t' b (if chN tp n (skN tp n y.1) = 63 then (match sumS tp n 9 0 (skN tp n y.1 + 1) with
      | Sum.inl z => Sum.inl z
      | Sum.inr z => Sum.inr (z.1, some y.2, z.2)) else Sum.inl (skN tp n y.1)) := h
    by_cases c : chN tp n (skN tp n y.1) = 63
    · rw [if_pos c] at h ⊢
      cases e : sumS tp n 9 0 (skN tp n y.1 + 1) with
      | inl z => rw [e] at h; exact h
      | inr z =>
        rw [e] at h
        obtain ⟨h1, h2, h3, h4⟩ := h
        refine ⟨h1, ?_, ?_, h4⟩
        · have h2 : LT s (L ++ q ++ (y.2 ++ 63 :: z.2)) z.1 t' := h2
          show LT s (L ++ (q ++ y.2 ++ 63 :: z.2)) z.1 t'
          rw [show L ++ (q ++ y.2 ++ 63 :: z.2) = L ++ q ++ (y.2 ++ 63 :: z.2) by simp]
          exact h2
        · have h3 : j + (y.2 ++ 63 :: z.2).length ≤ z.1 := h3
          show i + (q ++ y.2 ++ 63 :: z.2).length ≤ z.1
          rw [List.length_append] at h3 ⊢
          rw [List.length_append]
          omega
    · rw [if_neg c] at h ⊢
      exact h
theorem pcl_congr {f : S2 → Option (S2 × Bool)} {a b : Nat → RES} (h : PCl n s f a) (e : ∀ i, a i = b i) : PCl n s f b := fun t L i h1 h2 h3 => by rw [← e i]; exact h t L i h1 h2 h3
theorem lt_body (ht : TOK n tp) (hp : TPc n tp s) {L : List Nat} {i : Nat} (h : LT s L i t) (hi : i ≤ n) (hL : L.length ≤ i) : ∃ t' b, ((f_Tape_look t).bind fun q3 => (if q3.2 = (Int32.ofInt 33) then (f_Rule_readClause_L37 4 q3.1) else (if q3.2 = (Int32.ofInt 40) then (f_Rule_readClause_L37 4 q3.1) else (f_Rule_readClause_L42 4 (Int32.ofInt 0) q3.1)))) = some (t', b) ∧ CCr n s L i t' b (bdS tp n i) := by
  have h240 := ht.1
  have hk := skN_le (tp := tp) hi
  have hch := chN_lt ht (skN tp n i)
  have hat := LT_at h (skN tp n i)
  have hu : PCl n s (f_Rule_readUnit 9 4 (nI 0) (Int32.ofInt 0)) (unS tp n 9 0) := pcl_unS ht hp 9 0 (by omega) (by omega)
  rw [lt_look ht hp h hi, Option.bind_some]
  show ∃ t' b, (if nI (chN tp n (skN tp n i)) = Int32.ofInt 33 then f_Rule_readClause_L37 4 (tA t (skN tp n i)) else (if nI (chN tp n (skN tp n i)) = Int32.ofInt 40 then f_Rule_readClause_L37 4 (tA t (skN tp n i)) else f_Rule_readClause_L42 4 (Int32.ofInt 0) (tA t (skN tp n i)))) = _ ∧ _
  rw [of_33, of_40]
  unfold bdS
  by_cases c : chN tp n (skN tp n i) = 33 ∨ chN tp n (skN tp n i) = 40
  · have e0 : ∀ (A B : Option (S2 × Bool)), (if nI (chN tp n (skN tp n i)) = nI 33 then A else (if nI (chN tp n (skN tp n i)) = nI 40 then A else B)) = A := fun A B => by
      by_cases c' : chN tp n (skN tp n i) = 33
      · rw [if_pos (by rw [c'])]
      · rw [if_neg (fun z => c' ((nI_eq (by omega) (by omega)).mp z)), if_pos (by rw [show chN tp n (skN tp n i) = 40 by omega])]
    rw [e0, if_pos c]
    have n1 : ¬ Int32.ofInt 1 = 0 := by decide
    unfold f_Rule_readClause_L37 f_Rule_readClause_L42 f_Rule_readClause_L58 f_Rule_readClause_L74 f_Rule_readClause_L86
    rw [if_neg n1, if_neg n1, if_neg n1, show Int32.ofInt 0 = nI 0 from of_0]
    have hc := pcl_cdS (d := 0) (us := unS tp n 9) ht hp hu
    rw [show Int32.ofInt 0 = nI 0 from of_0] at hc
    obtain ⟨t', b, a1, a2⟩ := lt_tail ht hp hc hat hk.2 (by omega)
    rw [show Int32.ofInt 0 = nI 0 from of_0] at a1
    exact ⟨t', b, a1, ccr_mono a2 hk.1⟩
  · rw [if_neg (fun z => c (Or.inl ((nI_eq (by omega) (by omega)).mp z))), if_neg (fun z => c (Or.inr ((nI_eq (by omega) (by omega)).mp z))), if_neg c]
    unfold f_Rule_readClause_L42
    rw [if_pos (show Int32.ofInt 0 = 0 from of_0)]
    obtain ⟨t1, b1, a1, a2⟩ := pcl_sumS ht hp 9 0 (by omega) (by omega) _ L (skN tp n i) hat hk.2 (by omega)
    rw [show Int32.ofInt 0 = nI 0 from of_0, a1, Option.bind_some]
    cases e : sumS tp n 9 0 (skN tp n i) with
    | inl q =>
      rw [e] at a2
      obtain ⟨rfl, x2, x3⟩ := a2
      exact ⟨t1, false, rfl, rfl, x2, x3⟩
    | inr q =>
      rw [e] at a2
      obtain ⟨rfl, x2, x3, x4, x5⟩ := a2
      have hkq := skN_le (tp := tp) x5
      have hcq := chN_lt ht (skN tp n q.1)
      show ∃ t' b, (if bI true = 0 then _ else f_Rule_readClause_L58 4 (nI 0) t1) = _ ∧ CCr n s L i t' b (if isC (chN tp n (skN tp n q.1)) then tlS tp n (pre1 q.2 (cd1 tp n (unS tp n 9) 0 (skN tp n q.1))) else Sum.inr (skN tp n q.1, none, q.2))
      rw [ifT]
      unfold f_Rule_readClause_L58
      rw [if_pos (show nI 0 = 0 from nI_0), lt_look ht hp x2 x5, Option.bind_some]
      show ∃ t' b, (if bI (g_Rule_isComparison (nI (chN tp n (skN tp n q.1))) _) = 0 then some (tA t1 (skN tp n q.1), true) else f_Rule_readClause_L74 4 (nI 0) (tA t1 (skN tp n q.1))) = _ ∧ _
      rw [g_isC hcq]
      cases y : isC (chN tp n (skN tp n q.1)) with
      | false =>
        rw [ifF, if_neg (show ¬ (false = true) by decide)]
        exact ⟨_, true, rfl, rfl, LT_at x2 _, by show i + q.2.length ≤ skN tp n q.1; omega, hkq.2⟩
      | true =>
        rw [ifT, if_pos rfl]
        unfold f_Rule_readClause_L74 f_Rule_readClause_L86
        rw [if_pos (show nI 0 = 0 from nI_0), show Int32.ofInt 0 = nI 0 from of_0]
        have h1 : PCl n s (f_Rule_readUnit 9 4 (nI 0) (Int32.ofInt 1)) (cmS tp n 0) := pcl_un1 (g := f_Rule_readUnit 8) ht hp (by omega)
        have hcd : PCl n s (f_Rule_readCondition (f_Rule_readUnit 9) 4 (nI 0) (Int32.ofInt 1)) (cd1 tp n (unS tp n 9) 0) := by
          have hcc := pcl_cond (us := unS tp n 9) ht hp h1 hu
          refine pcl_congr hcc fun i => ?_
          unfold cd1
          cases cmS tp n 0 i <;> rfl
        obtain ⟨t', b, r1, r2⟩ := lt_tail ht hp hcd (LT_at x2 (skN tp n q.1)) hkq.2 (by rw [List.length_append]; omega)
        rw [show Int32.ofInt 0 = nI 0 from of_0] at r1
        exact ⟨t', b, r1, cl_pre ht r2 (by omega)⟩
theorem lt_clause (ht : TOK n tp) (hp : TPc n tp s) {L : List Nat} {i : Nat} (h : LT s L i t) (hi : i ≤ n) (hL : L.length ≤ i) : ∃ t' b, f_Rule_readClause 4 t = some (t', b) ∧ CCr n s L (i + 2) t' b (clR tp n i) := by
  have h240 := ht.1
  have hk := skN_le (tp := tp) hi
  unfold f_Rule_readClause clR
  rw [of_121, lt_takes ht hp h hi (by omega), Option.bind_some]
  by_cases c : chN tp n (skN tp n i) = 121
  · have hlt := chN_p c (by omega)
    rw [if_pos c, if_pos c]
    have hk2 := skN_le (tp := tp) (show skN tp n i + 1 ≤ n by omega)
    show ∃ t' b, (if bI true = 0 then _ else (f_Tape_takes (Int32.ofInt 58) (tA t (skN tp n i + 1))).bind _) = _ ∧ _
    rw [ifT, of_58, lt_takes ht hp (LT_at h (skN tp n i + 1)) (by omega) (by omega), Option.bind_some, tA_tA, tA_tA]
    by_cases c2 : chN tp n (skN tp n (skN tp n i + 1)) = 58
    · have hlt2 := chN_p c2 (by omega)
      rw [if_pos c2, if_pos c2]
      obtain ⟨t', b, a1, a2⟩ := lt_body ht hp (LT_at h (skN tp n (skN tp n i + 1) + 1)) (by omega) (by omega)
      refine ⟨t', b, ?_, ccr_mono a2 (by omega)⟩
      show (if bI true = 0 then _ else (f_Tape_look (tA t (skN tp n (skN tp n i + 1) + 1))).bind _) = _
      rw [ifT]
      exact a1
    · rw [if_neg c2, if_neg c2]
      exact ⟨_, false, rfl, rfl, hk2.2, L, LT_at h _⟩
  · rw [if_neg c, if_neg c]
    exact ⟨_, false, rfl, rfl, hk.2, L, LT_at h _⟩
theorem lt_over (ht : TOK n tp) (hp : TPc n tp s) {L : List Nat} {i : Nat} (h : LT s L i t) (hi : i ≤ n) : f_Tape_isOver t = some (tA t (skN tp n i), decide (chN tp n (skN tp n i) = 0)) := by
  unfold f_Tape_isOver
  rw [lt_look ht hp h hi, Option.bind_some]
  have hch := chN_lt ht (skN tp n i)
  by_cases z : chN tp n (skN tp n i) = 0
  · rw [if_pos (show nI (chN tp n (skN tp n i)) = 0 by rw [z]; exact nI_0), decide_eq_true z]
  · rw [if_neg (fun y => z ((nI_eq (by omega) (by omega)).mp (y.trans nI_0.symm))), decide_eq_false z]
theorem la_bad {m i q : Nat} (h : clR tp n i = Sum.inl q) : lawS tp n (m + 1) i = Sum.inl q := by
  unfold lawS
  rw [h]
theorem la_eq {m i : Nat} {q : Nat × CLA} (h : clR tp n i = Sum.inr q) : lawS tp n (m + 1) i = if chN tp n (skN tp n q.1) = 0 then Sum.inr [q.2] else if chN tp n (skN tp n q.1) = 59 then (match lawS tp n m (skN tp n q.1 + 1) with
      | Sum.inl y => Sum.inl y
      | Sum.inr y => Sum.inr (q.2 :: y)) else Sum.inl (skN tp n q.1) := by
  have : lawS tp n (m + 1) i = (match clR tp n i with
    | Sum.inl q => Sum.inl q
    | Sum.inr q => if chN tp n (skN tp n q.1) = 0 then Sum.inr [q.2] else if chN tp n (skN tp n q.1) = 59 then (match lawS tp n m (skN tp n q.1 + 1) with
      | Sum.inl y => Sum.inl y
      | Sum.inr y => Sum.inr (q.2 :: y)) else Sum.inl (skN tp n q.1)) := rfl
  rw [this, h]
theorem lt_lawL (ht : TOK n tp) (hp : TPc n tp s) : ∀ (m x fu i : Nat) (L : List Nat) (t : S2), n < i + m → m < fu → 2 * x ≤ i → i ≤ n → L.length ≤ i → LT s L i t → ∃ t' b, f_Rule_read_L11 4 fu (nI x) t = some (t', b) ∧ (match lawS tp n m i with
    | Sum.inl q => b = false ∧ q ≤ n ∧ ∃ L', LT s L' q t'
    | Sum.inr l => b = true ∧ (∃ j, LT s (L ++ encL l) j t') ∧ (L ++ encL l).length ≤ n) := by
  have h240 := ht.1
  intro m
  induction m with
  | zero => intro x fu i L t h1 h2 h3 h4; omega
  | succ m ih =>
    intro x fu i L t h1 h2 h3 h4 h5 h
    obtain ⟨g, rfl, hg⟩ := suc_lt h2
    obtain ⟨t1, b1, a1, a2⟩ := lt_clause ht hp h h4 h5
    show ∃ t' b, b_Rule_read_L11 _ _ _ _ = _ ∧ _
    unfold b_Rule_read_L11
    rw [of_240, if_neg (nI_ge (by omega) (by omega)), a1, Option.bind_some]
    cases e : clR tp n i with
    | inl q =>
      rw [e] at a2
      rw [la_bad e]
      obtain ⟨rfl, x2, x3⟩ := a2
      exact ⟨t1, false, rfl, rfl, x2, x3⟩
    | inr q =>
      rw [e] at a2
      rw [la_eq e]
      obtain ⟨rfl, x2, x3, x4⟩ := a2
      have hkq := skN_le (tp := tp) x4
      show ∃ t' b, (if bI true = 0 then _ else (f_Rule_put 4 (Int32.ofInt 59) t1).bind _) = _ ∧ _
      obtain ⟨t2, d1, d2⟩ := LT_put (c := 59) x2 (by rw [List.length_append]; omega)
      rw [ifT, of_59, d1, Option.bind_some, lt_over ht hp d2 x4, Option.bind_some]
      have hat := LT_at d2 (skN tp n q.1)
      by_cases z : chN tp n (skN tp n q.1) = 0
      · rw [if_pos z, decide_eq_true z]
        show ∃ t' b, (if bI true = 0 then _ else some (tA t2 (skN tp n q.1), true)) = _ ∧ _
        rw [ifT]
        refine ⟨_, true, rfl, rfl, ⟨skN tp n q.1, ?_⟩, ?_⟩
        · show LT s (L ++ (enC q.2 ++ 59 :: [])) _ _
          rw [← List.append_assoc]
          exact hat
        · show (L ++ (enC q.2 ++ 59 :: [])).length ≤ n
          rw [List.length_append, List.length_append]
          show L.length + ((enC q.2).length + 1) ≤ n
          omega
      · rw [if_neg z, decide_eq_false z]
        show ∃ t' b, (if bI false = 0 then (f_Tape_takes (nI 59) (tA t2 (skN tp n q.1))).bind _ else _) = _ ∧ _
        rw [ifF, lt_takes ht hp hat hkq.2 (by omega), Option.bind_some, skN_2 x4, tA_tA, tA_tA]
        by_cases y : chN tp n (skN tp n q.1) = 59
        · have hlt := chN_p y (by omega)
          rw [if_pos y, if_pos y]
          show ∃ t' b, (if bI true = 0 then _ else f_Rule_read_L11 4 g (nI x + Int32.ofInt 1) (tA t2 (skN tp n q.1 + 1))) = _ ∧ _
          rw [ifT, of_1, nI_add]
          obtain ⟨t', b', r1, r2⟩ := ih (x + 1) g (skN tp n q.1 + 1) (L ++ enC q.2 ++ [59]) (tA t2 (skN tp n q.1 + 1)) (by omega) hg (by omega) (by omega) (by rw [List.length_append, List.length_append]; show L.length + (enC q.2).length + 1 ≤ _; omega) (LT_at d2 _)
          refine ⟨t', b', r1, ?_⟩
          cases w : lawS tp n m (skN tp n q.1 + 1) with
          | inl v => rw [w] at r2; exact r2
          | inr v =>
            rw [w] at r2
            obtain ⟨v1, v2, v3⟩ := r2
            have ea : L ++ enC q.2 ++ [59] ++ encL v = L ++ encL (q.2 :: v) := by
              show _ = L ++ (enC q.2 ++ 59 :: encL v)
              simp
            rw [ea] at v2 v3
            exact ⟨v1, v2, v3⟩
        · rw [if_neg y, if_neg y]
          show ∃ t' b, (if bI false = 0 then some (tA t2 (skN tp n q.1), false) else _) = _ ∧ _
          rw [ifF]
          exact ⟨_, false, rfl, rfl, hkq.2, _, hat⟩
theorem fc_ruleRead (ht : TOK n tp) (hp : TPc n tp s) : ∃ t' b, f_Rule_read 4 s = some (t', b) ∧ (match lawS tp n 241 0 with
    | Sum.inl q => b = false ∧ q ≤ n ∧ ∃ L', LT s L' q t'
    | Sum.inr l => b = true ∧ (∃ j, LT s (encL l) j t') ∧ (encL l).length ≤ n) := by
  have h240 := ht.1
  have h0 : LT s [] 0 (tA (pkS s 17 4 2 (nI 0)) 0) := ⟨(Fr.pk rfl s _).pk' _ rfl, by rw [tA_o (by omega), pkS_v, if_pos ⟨rfl, rfl, rfl⟩]; rfl, fun k hk => absurd hk (Nat.not_lt_zero _), tA_at _ _⟩
  obtain ⟨t', b, a1, a2⟩ := lt_lawL ht hp 241 0 FU 0 [] _ (by omega) (lt_FU (by omega)) (by omega) (by omega) (Nat.le_refl _) h0
  refine ⟨t', b, ?_, ?_⟩
  · unfold f_Rule_read f_Tape_rewind
    rw [show Int32.ofInt 0 = nI 0 from of_0, Option.bind_some, Option.bind_some, Option.bind_some]
    exact a1
  · cases e : lawS tp n 241 0 with
    | inl q => rw [e] at a2; exact a2
    | inr l => rw [e] at a2; exact a2
end
