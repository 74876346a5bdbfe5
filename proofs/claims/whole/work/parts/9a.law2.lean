/-! ===== a rule's text: the class's conditions and clauses ===== -/
section
variable {s s0 t : S2} {tp : Nat → Nat} {n : Nat}
def isC (ch : Nat) : Bool := decide (ch = 61) || (decide (ch = 60) || decide (ch = 62))
def cmS (tp : Nat → Nat) (n d i : Nat) : RES := if isC (chN tp n (skN tp n i)) then (match sumS tp n 9 d (skN tp n i + 1) with
  | Sum.inl q => Sum.inl q
  | Sum.inr q => Sum.inr (q.1, q.2 ++ [chN tp n (skN tp n i)])) else Sum.inl (skN tp n i)
def cdS (tp : Nat → Nat) (n : Nat) (u : Nat → Nat → RES) (d i : Nat) : RES := lpR tp n (lpR tp n (u d) 38 38) 124 124 i
def sqS (a : RES) (b : Nat → RES) : RES := match a with
  | Sum.inl q => Sum.inl q
  | Sum.inr q => (match b q.1 with
    | Sum.inl y => Sum.inl y
    | Sum.inr y => Sum.inr (y.1, q.2 ++ y.2))
def unG (tp : Nat → Nat) (n : Nat) (g : Nat → Nat → RES) (d i : Nat) : RES :=
  if chN tp n (skN tp n i) = 33 then (if d < 6 then (match g (d + 1) (skN tp n i + 1) with
    | Sum.inl q => Sum.inl q
    | Sum.inr q => Sum.inr (q.1, q.2 ++ [33])) else Sum.inl (skN tp n i))
  else if chN tp n (skN tp n i) = 40 then (if d < 6 then (match cdS tp n g (d + 1) (skN tp n i + 1) with
    | Sum.inl q => Sum.inl q
    | Sum.inr q => if chN tp n (skN tp n q.1) = 41 then Sum.inr (skN tp n q.1 + 1, q.2) else Sum.inl (skN tp n q.1)) else Sum.inl (skN tp n i))
  else sqS (sumS tp n 9 d (skN tp n i)) (cmS tp n d)
def unS (tp : Nat → Nat) (n : Nat) : Nat → Nat → Nat → RES
  | 0, _, _ => Sum.inl 0
  | f + 1, d, i => unG tp n (unS tp n f) d i
/-- a test whose first sum has been read -/
def cd1 (tp : Nat → Nat) (n : Nat) (u : Nat → Nat → RES) (d i : Nat) : RES := match cmS tp n d i with
  | Sum.inl q => Sum.inl q
  | Sum.inr q => (match tmL tp n (u d) 38 38 241 q.1 q.2 with
    | Sum.inl y => Sum.inl y
    | Sum.inr y => tmL tp n (lpR tp n (u d) 38 38) 124 124 241 y.1 y.2)
theorem crr_mono {L : List Nat} {i j : Nat} {t' : S2} {b : Bool} {r : RES} (h : CRr n s L j t' b r) (hij : i ≤ j) : CRr n s L i t' b r := by
  cases r with
  | inl q => exact h
  | inr q =>
    obtain ⟨h1, h2, h3, h4, h5⟩ := h
    exact ⟨h1, h2, by omega, by omega, h5⟩
theorem g_isC {ch : Nat} (h : ch < 256) : g_Rule_isComparison (nI ch) s = isC ch := by
  unfold g_Rule_isComparison isC
  rw [of_61, of_60, of_62]
  by_cases c1 : ch = 61
  · rw [if_pos (by rw [c1]), decide_eq_true c1]; rfl
  · rw [if_neg (fun z => c1 ((nI_eq (by omega) (by omega)).mp z)), decide_eq_false c1]
    by_cases c2 : ch = 60
    · rw [if_pos (by rw [c2]), decide_eq_true c2]; rfl
    · rw [if_neg (fun z => c2 ((nI_eq (by omega) (by omega)).mp z)), decide_eq_false c2]
      by_cases c3 : ch = 62
      · rw [if_pos (by rw [c3]), decide_eq_true c3]; rfl
      · rw [if_neg (fun z => c3 ((nI_eq (by omega) (by omega)).mp z)), decide_eq_false c3]; rfl
theorem isC_pos {ch : Nat} (h : isC ch = true) : ch = 61 ∨ ch = 60 ∨ ch = 62 := by
  unfold isC at h
  simp only [Bool.or_eq_true, decide_eq_true_eq] at h
  exact h
theorem pcl_cmp (ht : TOK n tp) (hp : TPc n tp s) {g : Nat → Int32 → Int32 → S2 → Option (S2 × Bool)} {d : Nat} (hd : d ≤ 6) : PCl n s (f_Rule_readUnit_L48 4 g (nI d)) (cmS tp n d) := by
  have h240 := ht.1
  intro t L i h hi hL
  have hk := skN_le (tp := tp) hi
  have hch := chN_lt ht (skN tp n i)
  unfold f_Rule_readUnit_L48 cmS
  rw [lt_look ht hp h hi, Option.bind_some]
  show ∃ t' b, (if bI (g_Rule_isComparison (nI (chN tp n (skN tp n i))) _) = 0 then some (tA t (skN tp n i), false) else (f_Tape_pass (tA t (skN tp n i))).bind _) = _ ∧ _
  rw [g_isC hch]
  cases c : isC (chN tp n (skN tp n i)) with
  | false =>
    rw [ifF, if_neg (show ¬ (false = true) by decide)]
    exact ⟨_, false, rfl, rfl, hk.2, L, LT_at h _⟩
  | true =>
    have hlt := chN_p (tp := tp) (n := n) (i := skN tp n i) (c := chN tp n (skN tp n i)) rfl (by have := isC_pos c; omega)
    rw [ifT, if_pos rfl, fc_pass1, Option.bind_some]
    obtain ⟨t1, b1, a1, a2⟩ := pcl_sumS ht hp 9 d hd (by omega) _ L (skN tp n i + 1) (LT_at h (skN tp n i + 1)) (by omega) (by omega)
    rw [a1, Option.bind_some]
    cases e : sumS tp n 9 d (skN tp n i + 1) with
    | inl q =>
      rw [e] at a2
      obtain ⟨rfl, x2, x3⟩ := a2
      exact ⟨t1, false, rfl, rfl, x2, x3⟩
    | inr q =>
      rw [e] at a2
      obtain ⟨rfl, x2, x3, x4, x5⟩ := a2
      obtain ⟨t2, d1, d2⟩ := LT_put (c := chN tp n (skN tp n i)) x2 (by rw [List.length_append]; omega)
      refine ⟨t2, true, ?_, rfl, by rw [← List.append_assoc]; exact d2, by show i + (q.2 ++ [chN tp n (skN tp n i)]).length ≤ q.1; rw [List.length_append]; show i + (q.2.length + 1) ≤ q.1; omega, by show i < q.1; omega, x5⟩
      show (if bI true = 0 then _ else (f_Rule_put 4 (nI (chN tp n (skN tp n i))) t1).bind _) = _
      rw [ifT, d1, Option.bind_some]
theorem pcl_andL (ht : TOK n tp) (hp : TPc n tp s) {g : Nat → Int32 → Int32 → S2 → Option (S2 × Bool)} {us : Nat → Nat → RES} {d : Nat} (ha : PCl n s (g 4 (nI d) (Int32.ofInt 0)) (us d)) : ∀ (m x fu i : Nat) (L0 L : List Nat) (t : S2), n < i + m → m < fu → x < i → i ≤ n → L0.length + L.length ≤ i → LT s (L0 ++ L) i t → ∃ t' b, f_Rule_readTruth_L15 4 g fu (nI d) (nI x) t = some (t', b) ∧ (match tmL tp n (us d) 38 38 m i L with
    | Sum.inl q => b = false ∧ q ≤ n ∧ ∃ L', LT s L' q t'
    | Sum.inr q => b = true ∧ LT s (L0 ++ q.2) q.1 t' ∧ i + q.2.length ≤ q.1 + L.length ∧ i ≤ q.1 ∧ q.1 ≤ n) := by
  have h240 := ht.1
  intro m
  induction m with
  | zero => intro x fu i L0 L t h1 h2 h3 h4; omega
  | succ m ih =>
    intro x fu i L0 L t h1 h2 h3 h4 h5 h
    obtain ⟨g', rfl, hg⟩ := suc_lt h2
    have hk := skN_le (tp := tp) h4
    show ∃ t' b, b_Rule_readTruth_L15 _ _ _ _ _ _ = _ ∧ _
    unfold b_Rule_readTruth_L15
    rw [of_240, if_neg (nI_ge (by omega) (by omega)), of_38, lt_takes ht hp h h4 (by omega), Option.bind_some]
    by_cases c : chN tp n (skN tp n i) = 38
    · have hlt : skN tp n i < n := chN_p c (by omega)
      have c2 : chN tp n (skN tp n i) = 38 ∨ chN tp n (skN tp n i) = 38 := Or.inl c
      rw [if_pos c]
      show ∃ t' b, (if bI true = 0 then _ else (g 4 (nI d) (Int32.ofInt 0) (tA t (skN tp n i + 1))).bind _) = _ ∧ _
      obtain ⟨t1, b1, a1, a2⟩ := ha _ (L0 ++ L) (skN tp n i + 1) (LT_at h (skN tp n i + 1)) (by omega) (by rw [List.length_append]; omega)
      rw [ifT, a1, Option.bind_some]
      cases e : (us d) (skN tp n i + 1) with
      | inl q =>
        rw [e] at a2
        rw [tl_bad c2 e]
        obtain ⟨rfl, x2, x3⟩ := a2
        exact ⟨t1, false, rfl, rfl, x2, x3⟩
      | inr q =>
        rw [e] at a2
        rw [tl_go c2 e, c]
        obtain ⟨rfl, x2, x3, x4, x5⟩ := a2
        show ∃ t' b, (if bI true = 0 then _ else (f_Rule_put 4 (nI 38) t1).bind _) = _ ∧ _
        obtain ⟨t2, d1, d2⟩ := LT_put (c := 38) x2 (by rw [List.length_append, List.length_append]; omega)
        rw [ifT, d1, Option.bind_some, of_1, nI_add]
        have hr := ih (x + 1) g' q.1 L0 (L ++ q.2 ++ [38]) t2 (by omega) hg (by omega) x5 (by rw [List.length_append, List.length_append]; show L0.length + (L.length + q.2.length + 1) ≤ q.1; omega) (by rw [← List.append_assoc, ← List.append_assoc]; exact d2)
        obtain ⟨t', b', r1, r2⟩ := hr
        refine ⟨t', b', r1, ?_⟩
        cases z : tmL tp n (us d) 38 38 m q.1 (L ++ q.2 ++ [38]) with
        | inl y => rw [z] at r2; exact r2
        | inr y =>
          rw [z] at r2
          obtain ⟨y1, y2, y3, y4, y5⟩ := r2
          rw [List.length_append, List.length_append] at y3
          have y3 : q.1 + y.2.length ≤ y.1 + (L.length + q.2.length + 1) := y3
          exact ⟨y1, y2, by omega, by omega, y5⟩
    · rw [if_neg c, tl_stop (fun z => by rcases z with z | z <;> exact c z)]
      show ∃ t' b, (if bI false = 0 then some (tA t (skN tp n i), true) else _) = _ ∧ _
      rw [ifF]
      exact ⟨_, true, rfl, rfl, LT_at h _, by show i + L.length ≤ skN tp n i + L.length; omega, hk.1, hk.2⟩
theorem pcl_orL (ht : TOK n tp) (hp : TPc n tp s) {g : Nat → Int32 → Int32 → S2 → Option (S2 × Bool)} {us : Nat → Nat → RES} {d : Nat} (ha : PCl n s (f_Rule_readTruth g 4 (nI d) (Int32.ofInt 0)) (lpR tp n (us d) 38 38)) : ∀ (m x fu i : Nat) (L0 L : List Nat) (t : S2), n < i + m → m < fu → x < i → i ≤ n → L0.length + L.length ≤ i → LT s (L0 ++ L) i t → ∃ t' b, f_Rule_readCondition_L15 4 g fu (nI d) (nI x) t = some (t', b) ∧ (match tmL tp n (lpR tp n (us d) 38 38) 124 124 m i L with
    | Sum.inl q => b = false ∧ q ≤ n ∧ ∃ L', LT s L' q t'
    | Sum.inr q => b = true ∧ LT s (L0 ++ q.2) q.1 t' ∧ i + q.2.length ≤ q.1 + L.length ∧ i ≤ q.1 ∧ q.1 ≤ n) := by
  have h240 := ht.1
  intro m
  induction m with
  | zero => intro x fu i L0 L t h1 h2 h3 h4; omega
  | succ m ih =>
    intro x fu i L0 L t h1 h2 h3 h4 h5 h
    obtain ⟨g', rfl, hg⟩ := suc_lt h2
    have hk := skN_le (tp := tp) h4
    show ∃ t' b, b_Rule_readCondition_L15 _ _ _ _ _ _ = _ ∧ _
    unfold b_Rule_readCondition_L15
    rw [of_240, if_neg (nI_ge (by omega) (by omega)), of_124, lt_takes ht hp h h4 (by omega), Option.bind_some]
    by_cases c : chN tp n (skN tp n i) = 124
    · have hlt : skN tp n i < n := chN_p c (by omega)
      have c2 : chN tp n (skN tp n i) = 124 ∨ chN tp n (skN tp n i) = 124 := Or.inl c
      rw [if_pos c]
      show ∃ t' b, (if bI true = 0 then _ else (f_Rule_readTruth g 4 (nI d) (Int32.ofInt 0) (tA t (skN tp n i + 1))).bind _) = _ ∧ _
      obtain ⟨t1, b1, a1, a2⟩ := ha _ (L0 ++ L) (skN tp n i + 1) (LT_at h (skN tp n i + 1)) (by omega) (by rw [List.length_append]; omega)
      rw [ifT, a1, Option.bind_some]
      cases e : (lpR tp n (us d) 38 38) (skN tp n i + 1) with
      | inl q =>
        rw [e] at a2
        rw [tl_bad c2 e]
        obtain ⟨rfl, x2, x3⟩ := a2
        exact ⟨t1, false, rfl, rfl, x2, x3⟩
      | inr q =>
        rw [e] at a2
        rw [tl_go c2 e, c]
        obtain ⟨rfl, x2, x3, x4, x5⟩ := a2
        show ∃ t' b, (if bI true = 0 then _ else (f_Rule_put 4 (nI 124) t1).bind _) = _ ∧ _
        obtain ⟨t2, d1, d2⟩ := LT_put (c := 124) x2 (by rw [List.length_append, List.length_append]; omega)
        rw [ifT, d1, Option.bind_some, of_1, nI_add]
        have hr := ih (x + 1) g' q.1 L0 (L ++ q.2 ++ [124]) t2 (by omega) hg (by omega) x5 (by rw [List.length_append, List.length_append]; show L0.length + (L.length + q.2.length + 1) ≤ q.1; omega) (by rw [← List.append_assoc, ← List.append_assoc]; exact d2)
        obtain ⟨t', b', r1, r2⟩ := hr
        refine ⟨t', b', r1, ?_⟩
        cases z : tmL tp n (lpR tp n (us d) 38 38) 124 124 m q.1 (L ++ q.2 ++ [124]) with
        | inl y => rw [z] at r2; exact r2
        | inr y =>
          rw [z] at r2
          obtain ⟨y1, y2, y3, y4, y5⟩ := r2
          rw [List.length_append, List.length_append] at y3
          have y3 : q.1 + y.2.length ≤ y.1 + (L.length + q.2.length + 1) := y3
          exact ⟨y1, y2, by omega, by omega, y5⟩
    · rw [if_neg c, tl_stop (fun z => by rcases z with z | z <;> exact c z)]
      show ∃ t' b, (if bI false = 0 then some (tA t (skN tp n i), true) else _) = _ ∧ _
      rw [ifF]
      exact ⟨_, true, rfl, rfl, LT_at h _, by show i + L.length ≤ skN tp n i + L.length; omega, hk.1, hk.2⟩
theorem pcl_seq {A : S2 → Option (S2 × Bool)} {B : S2 → Option (S2 × Bool)} {a : Nat → RES} {c : Nat} {b : Nat → RES} (ht : TOK n tp) (ha : PCl n s A a) (hB : ∀ (i : Nat) (L0 L : List Nat) (t : S2), 0 < i → i ≤ n → L0.length + L.length ≤ i → LT s (L0 ++ L) i t → ∃ t' b', B t = some (t', b') ∧ (match tmL tp n b c c 241 i L with
    | Sum.inl q => b' = false ∧ q ≤ n ∧ ∃ L', LT s L' q t'
    | Sum.inr q => b' = true ∧ LT s (L0 ++ q.2) q.1 t' ∧ i + q.2.length ≤ q.1 + L.length ∧ i ≤ q.1 ∧ q.1 ≤ n)) : PCl n s (fun t => (A t).bind fun q1 => (if (bI q1.2) = 0 then some (q1.1, false) else B q1.1)) (fun i => match a i with
    | Sum.inl q => Sum.inl q
    | Sum.inr q => tmL tp n b c c 241 q.1 q.2) := by
  intro t L i h hi hL
  obtain ⟨t1, b1, a1, a2⟩ := ha t L i h hi hL
  show ∃ t' b', (A t).bind _ = _ ∧ CRr n s L i t' b' (match a i with
    | Sum.inl q => Sum.inl q
    | Sum.inr q => tmL tp n b c c 241 q.1 q.2)
  rw [a1, Option.bind_some]
  cases e : a i with
  | inl q =>
    rw [e] at a2
    obtain ⟨rfl, x2, x3⟩ := a2
    exact ⟨t1, false, rfl, rfl, x2, x3⟩
  | inr q =>
    rw [e] at a2
    obtain ⟨rfl, x2, x3, x4, x5⟩ := a2
    obtain ⟨t', b', r1, r2⟩ := hB q.1 L q.2 t1 (by omega) x5 (by omega) x2
    refine ⟨t', b', r1, ?_⟩
    show CRr n s L i t' b' (tmL tp n b c c 241 q.1 q.2)
    cases z : tmL tp n b c c 241 q.1 q.2 with
    | inl y => rw [z] at r2; exact r2
    | inr y =>
      rw [z] at r2
      obtain ⟨y1, y2, y3, y4, y5⟩ := r2
      exact ⟨y1, y2, by omega, by omega, y5⟩
theorem pcl_truth (ht : TOK n tp) (hp : TPc n tp s) {g : Nat → Int32 → Int32 → S2 → Option (S2 × Bool)} {us : Nat → Nat → RES} {d : Nat} {a3 : Int32} {a : Nat → RES} (h1 : PCl n s (g 4 (nI d) a3) a) (ha : PCl n s (g 4 (nI d) (Int32.ofInt 0)) (us d)) : PCl n s (f_Rule_readTruth g 4 (nI d) a3) (fun i => match a i with
    | Sum.inl q => Sum.inl q
    | Sum.inr q => tmL tp n (us d) 38 38 241 q.1 q.2) := by
  have h240 := ht.1
  exact pcl_seq (B := fun t => f_Rule_readTruth_L15 4 g FU (nI d) (Int32.ofInt 0) t) ht h1 fun i L0 L t h0 hi hL h => pcl_andL ht hp ha 241 0 FU i L0 L t (by omega) (lt_FU (by omega)) (by omega) hi hL h
theorem pcl_cond (ht : TOK n tp) (hp : TPc n tp s) {g : Nat → Int32 → Int32 → S2 → Option (S2 × Bool)} {us : Nat → Nat → RES} {d : Nat} {a3 : Int32} {a : Nat → RES} (h1 : PCl n s (g 4 (nI d) a3) a) (ha : PCl n s (g 4 (nI d) (Int32.ofInt 0)) (us d)) : PCl n s (f_Rule_readCondition g 4 (nI d) a3) (fun i => match (match a i with
    | Sum.inl q => Sum.inl q
    | Sum.inr q => tmL tp n (us d) 38 38 241 q.1 q.2 : RES) with
    | Sum.inl q => Sum.inl q
    | Sum.inr q => tmL tp n (lpR tp n (us d) 38 38) 124 124 241 q.1 q.2) := by
  have h240 := ht.1
  have hT : PCl n s (f_Rule_readTruth g 4 (nI d) (Int32.ofInt 0)) (lpR tp n (us d) 38 38) := pcl_truth ht hp ha ha
  exact pcl_seq (B := fun t => f_Rule_readCondition_L15 4 g FU (nI d) (Int32.ofInt 0) t) ht (pcl_truth ht hp h1 ha) fun i L0 L t h0 hi hL h => pcl_orL ht hp hT 241 0 FU i L0 L t (by omega) (lt_FU (by omega)) (by omega) hi hL h
theorem pcl_cdS (ht : TOK n tp) (hp : TPc n tp s) {g : Nat → Int32 → Int32 → S2 → Option (S2 × Bool)} {us : Nat → Nat → RES} {d : Nat} (ha : PCl n s (g 4 (nI d) (Int32.ofInt 0)) (us d)) : PCl n s (f_Rule_readCondition g 4 (nI d) (Int32.ofInt 0)) (cdS tp n us d) := pcl_cond ht hp ha ha
theorem cm_sk {d i : Nat} (hi : i ≤ n) : cmS tp n d (skN tp n i) = cmS tp n d i := by
  unfold cmS
  rw [skN_2 hi]
theorem pcl_un1 (ht : TOK n tp) (hp : TPc n tp s) {g : Nat → Int32 → Int32 → S2 → Option (S2 × Bool)} {d : Nat} (hd : d ≤ 6) : PCl n s (fb_Rule_readUnit g 4 (nI d) (Int32.ofInt 1)) (cmS tp n d) := by
  have h240 := ht.1
  intro t L i h hi hL
  have hk := skN_le (tp := tp) hi
  obtain ⟨t', b, a1, a2⟩ := pcl_cmp (g := g) ht hp hd _ L (skN tp n i) (LT_at h (skN tp n i)) hk.2 (by omega)
  rw [cm_sk hi] at a2
  refine ⟨t', b, ?_, crr_mono a2 hk.1⟩
  unfold fb_Rule_readUnit f_Rule_readUnit_L33
  rw [lt_look ht hp h hi, Option.bind_some, if_neg (show ¬ Int32.ofInt 1 = 0 by decide), if_neg (show ¬ Int32.ofInt 1 = 0 by decide)]
  exact a1
theorem pcl_un (ht : TOK n tp) (hp : TPc n tp s) {g : Nat → Int32 → Int32 → S2 → Option (S2 × Bool)} {us : Nat → Nat → RES} {d : Nat} (hd : d ≤ 6) (hg : d < 6 → PCl n s (g 4 (nI (d + 1)) (Int32.ofInt 0)) (us (d + 1))) : PCl n s (fb_Rule_readUnit g 4 (nI d) (Int32.ofInt 0)) (unG tp n us d) := by
  have h240 := ht.1
  intro t L i h hi hL
  have hk := skN_le (tp := tp) hi
  have hch := chN_lt ht (skN tp n i)
  have hat := LT_at h (skN tp n i)
  unfold fb_Rule_readUnit f_Rule_readUnit_L24 f_Rule_readNested unG
  rw [lt_look ht hp h hi, Option.bind_some, if_pos (show Int32.ofInt 0 = 0 from of_0)]
  show ∃ t' b, (if nI (chN tp n (skN tp n i)) = Int32.ofInt 33 then _ else (if nI (chN tp n (skN tp n i)) = Int32.ofInt 40 then _ else f_Rule_readUnit_L33 4 g (nI d) (Int32.ofInt 0) (tA t (skN tp n i)))) = _ ∧ _
  rw [of_33, of_40, of_6]
  by_cases c1 : chN tp n (skN tp n i) = 33
  · have hlt := chN_p c1 (by omega)
    rw [if_pos (by rw [c1]), if_pos c1]
    by_cases d6 : d < 6
    · rw [if_pos d6, if_pos (nI_lt d6 (by omega))]
      show ∃ t' b, ((f_Tape_pass (tA t (skN tp n i))).bind _).bind _ = _ ∧ _
      obtain ⟨t1, b1, a1, a2⟩ := hg d6 _ L (skN tp n i + 1) (LT_at h (skN tp n i + 1)) (by omega) (by omega)
      rw [fc_pass1, Option.bind_some, show nI (chN tp n (skN tp n i)) = nI 33 by rw [c1], if_neg (show ¬ nI 33 = nI 40 by decide), of_1, nI_add, a1, Option.bind_some]
      cases e : us (d + 1) (skN tp n i + 1) with
      | inl q =>
        rw [e] at a2
        obtain ⟨rfl, x2, x3⟩ := a2
        exact ⟨t1, false, rfl, rfl, x2, x3⟩
      | inr q =>
        rw [e] at a2
        obtain ⟨rfl, x2, x3, x4, x5⟩ := a2
        obtain ⟨t2, d1, d2⟩ := LT_put (c := 33) x2 (by rw [List.length_append]; omega)
        refine ⟨t2, true, ?_, rfl, by rw [← List.append_assoc]; exact d2, by show i + (q.2 ++ [33]).length ≤ q.1; rw [List.length_append]; show i + (q.2.length + 1) ≤ q.1; omega, by show i < q.1; omega, x5⟩
        show (if bI true = 0 then _ else (f_Rule_put 4 (nI 33) t1).bind _).bind _ = _
        rw [ifT, d1, Option.bind_some, Option.bind_some]
    · rw [if_neg d6, if_neg (nI_nlt (by omega) (by omega))]
      exact ⟨_, false, rfl, rfl, hk.2, L, hat⟩
  · rw [if_neg (fun z => c1 ((nI_eq (by omega) (by omega)).mp z)), if_neg c1]
    by_cases c2 : chN tp n (skN tp n i) = 40
    · have hlt := chN_p c2 (by omega)
      rw [if_pos (by rw [c2]), if_pos c2]
      by_cases d6 : d < 6
      · rw [if_pos d6, if_pos (nI_lt d6 (by omega))]
        show ∃ t' b, ((f_Tape_pass (tA t (skN tp n i))).bind _).bind _ = _ ∧ _
        obtain ⟨t1, b1, a1, a2⟩ := pcl_cdS ht hp (hg d6) _ L (skN tp n i + 1) (LT_at h (skN tp n i + 1)) (by omega) (by omega)
        rw [fc_pass1, Option.bind_some, if_pos (by rw [c2]), of_1, nI_add, a1, Option.bind_some]
        cases e : cdS tp n us (d + 1) (skN tp n i + 1) with
        | inl q =>
          rw [e] at a2
          obtain ⟨rfl, x2, x3⟩ := a2
          exact ⟨t1, false, rfl, rfl, x2, x3⟩
        | inr q =>
          rw [e] at a2
          obtain ⟨rfl, x2, x3, x4, x5⟩ := a2
          have hkq := skN_le (tp := tp) x5
          show ∃ t' b, (if bI true = 0 then _ else (f_Tape_takes (Int32.ofInt 41) t1).bind _).bind _ = _ ∧ _
          rw [ifT, of_41, lt_takes ht hp x2 x5 (by omega), Option.bind_some]
          by_cases y : chN tp n (skN tp n q.1) = 41
          · have hlq := chN_p y (by omega)
            rw [if_pos y]
            show ∃ t' b, _ = _ ∧ CRr n s L i t' b (if chN tp n (skN tp n q.1) = 41 then Sum.inr (skN tp n q.1 + 1, q.2) else Sum.inl (skN tp n q.1))
            rw [if_pos y]
            exact ⟨_, true, rfl, rfl, LT_at x2 _, by show i + q.2.length ≤ skN tp n q.1 + 1; omega, by show i < skN tp n q.1 + 1; omega, by show skN tp n q.1 + 1 ≤ n; omega⟩
          · rw [if_neg y]
            show ∃ t' b, _ = _ ∧ CRr n s L i t' b (if chN tp n (skN tp n q.1) = 41 then Sum.inr (skN tp n q.1 + 1, q.2) else Sum.inl (skN tp n q.1))
            rw [if_neg y]
            exact ⟨_, false, rfl, rfl, hkq.2, _, LT_at x2 _⟩
      · rw [if_neg d6, if_neg (nI_nlt (by omega) (by omega))]
        exact ⟨_, false, rfl, rfl, hk.2, L, hat⟩
    · rw [if_neg (fun z => c2 ((nI_eq (by omega) (by omega)).mp z)), if_neg c2]
      unfold f_Rule_readUnit_L33
      rw [if_pos (show Int32.ofInt 0 = 0 from of_0)]
      obtain ⟨t1, b1, a1, a2⟩ := pcl_sumS ht hp 9 d hd (by omega) _ L (skN tp n i) hat hk.2 (by omega)
      rw [a1, Option.bind_some]
      unfold sqS
      cases e : sumS tp n 9 d (skN tp n i) with
      | inl q =>
        rw [e] at a2
        obtain ⟨rfl, x2, x3⟩ := a2
        exact ⟨t1, false, rfl, rfl, x2, x3⟩
      | inr q =>
        rw [e] at a2
        obtain ⟨rfl, x2, x3, x4, x5⟩ := a2
        obtain ⟨t2, b2, d1, d2⟩ := pcl_cmp (g := g) ht hp hd t1 (L ++ q.2) q.1 x2 x5 (by rw [List.length_append]; omega)
        refine ⟨t2, b2, ?_, ?_⟩
        · show (if bI true = 0 then _ else f_Rule_readUnit_L48 4 g (nI d) t1) = _
          rw [ifT]; exact d1
        · show CRr n s L i t2 b2 (match cmS tp n d q.1 with
            | Sum.inl y => Sum.inl y
            | Sum.inr y => Sum.inr (y.1, q.2 ++ y.2))
          cases z : cmS tp n d q.1 with
          | inl y => rw [z] at d2; exact d2
          | inr y =>
            rw [z] at d2
            obtain ⟨y1, y2, y3, y4, y5⟩ := d2
            exact ⟨y1, by rw [← List.append_assoc]; exact y2, by show i + (q.2 ++ y.2).length ≤ y.1; rw [List.length_append]; omega, by show i < y.1; omega, y5⟩
theorem pcl_unS (ht : TOK n tp) (hp : TPc n tp s) : ∀ (f d : Nat), d ≤ 6 → 7 ≤ d + f → PCl n s (f_Rule_readUnit f 4 (nI d) (Int32.ofInt 0)) (unS tp n f d) := by
  intro f
  induction f with
  | zero => intro d h1 h2; omega
  | succ f ih =>
    intro d h1 h2
    exact pcl_un (g := f_Rule_readUnit f) (us := unS tp n f) ht hp h1 fun h6 => ih (d + 1) (by omega) (by omega)
end
