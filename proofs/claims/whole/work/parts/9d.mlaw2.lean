/-! ===== a rule's text: the reference's conditions ===== -/
section
variable {s s0 t : S2} {tp : Nat → Nat} {n N : Nat}
theorem gm_isC (ht : TOK n tp) {i : Nat} : g_M_isSign (hmN tp n i) s = isC (chN tp n i) := by
  have h1 : (hmN tp n i = nI 61) = (chN tp n i = 61) := hm_is ht (by omega) (by omega)
  have h2 : (hmN tp n i = nI 60) = (chN tp n i = 60) := hm_is ht (by omega) (by omega)
  have h3 : (hmN tp n i = nI 62) = (chN tp n i = 62) := hm_is ht (by omega) (by omega)
  unfold g_M_isSign isC
  rw [of_61, of_60, of_62]
  by_cases c1 : chN tp n i = 61
  · rw [if_pos (h1.mpr c1), decide_eq_true c1]; rfl
  · rw [if_neg (fun z => c1 (h1.mp z)), decide_eq_false c1]
    by_cases c2 : chN tp n i = 60
    · rw [if_pos (h2.mpr c2), decide_eq_true c2]; rfl
    · rw [if_neg (fun z => c2 (h2.mp z)), decide_eq_false c2]
      by_cases c3 : chN tp n i = 62
      · rw [if_pos (h3.mpr c3), decide_eq_true c3]; rfl
      · rw [if_neg (fun z => c3 (h3.mp z)), decide_eq_false c3]; rfl
theorem mb_compare {x q : Nat} (hq : q < 1000) (h : MBD s N x q t) : f_M_compare t = some t := by
  have hb : f_M_bad t = some t := by
    unfold f_M_bad f_M_bad_L20
    rw [h.2.1, of_m1, if_neg (m1_ne hq), Option.bind_some, pkS_self _ _ _ _ _ h.2.1]
  unfold f_M_compare f_M_compare_L16
  rw [h.2.1, of_m1, if_neg (m1_ne hq)]
  have : g_M_isSign (-1) t = false := by
    unfold g_M_isSign
    rw [of_61, of_60, of_62, if_neg (by decide), if_neg (by decide), if_neg (by decide)]
  rw [this, ifF, hb, Option.bind_some]
theorem pmm_cmp (ht : TOK n tp) (hp : TPm n tp s) (hb : LB N s) {d : Nat} (hd : d ≤ 6) : PMm n s N d f_M_compare (cmS tp n d) := by
  have h240 := ht.1
  intro t L i h hi hL
  have hk := skN_le (tp := tp) hi
  have h1 : (hmN tp n (skN tp n i) = nI 61) = (chN tp n (skN tp n i) = 61) := hm_is ht (by omega) (by omega)
  have h2 : (hmN tp n (skN tp n i) = nI 60) = (chN tp n (skN tp n i) = 60) := hm_is ht (by omega) (by omega)
  unfold f_M_compare f_M_compare_L16 cmS
  rw [h.2.2.2.2.1, of_m1, if_pos rfl, lm_look ht hp h hi, Option.bind_some]
  show ∃ t', (if bI (g_M_isSign (hmN tp n (skN tp n i)) (mA t (skN tp n i))) = 0 then (f_M_bad (mA t (skN tp n i))).bind _ else (some (pkS (mA t (skN tp n i)) 60 0 3 ((mA t (skN tp n i)).1 60 0 3 + Int32.ofInt 1))).bind _) = _ ∧ _
  rw [gm_isC ht]
  cases c : isC (chN tp n (skN tp n i)) with
  | false =>
    rw [ifF, if_neg (show ¬ (false = true) by decide), lm_bad h, Option.bind_some]
    exact ⟨_, rfl, hk.2, _, by omega, LM_bad h⟩
  | true =>
    have hlt := chN_p (tp := tp) (n := n) (i := skN tp n i) (c := chN tp n (skN tp n i)) rfl (by have := isC_pos c; omega)
    rw [ifT, if_pos rfl, mA_at, of_1, nI_add, Option.bind_some, show pkS (mA t (skN tp n i)) 60 0 3 (nI (skN tp n i + 1)) = mA t (skN tp n i + 1) from mA_mA t _ _]
    obtain ⟨t1, a1, a2⟩ := pmm_sumS ht hp hb 9 d hd (by omega) _ L (skN tp n i + 1) (LM_at h (skN tp n i + 1)) (by omega) (by omega)
    rw [a1, Option.bind_some, of_61, of_60]
    obtain ⟨kv, hkv, hL⟩ : ∃ kv : Int32, kv = nI (kd (chN tp n (skN tp n i))).1 ∧ (if hmN tp n (skN tp n i) = nI 61 then f_M_compare_L68 (Int32.ofInt 6) t1 else (if hmN tp n (skN tp n i) = nI 60 then f_M_compare_L68 (Int32.ofInt 7) t1 else f_M_compare_L68 (Int32.ofInt 8) t1)) = f_M_compare_L68 kv t1 := by
      by_cases c1 : chN tp n (skN tp n i) = 61
      · exact ⟨nI 6, by rw [c1, kd_op.2.2.2.2.1], by rw [if_pos (h1.mpr c1), of_6]⟩
      · by_cases c2 : chN tp n (skN tp n i) = 60
        · exact ⟨nI 7, by rw [c2, kd_op.2.2.2.2.2.1], by rw [if_neg (fun z => c1 (h1.mp z)), if_pos (h2.mpr c2), of_7]⟩
        · have c3 : chN tp n (skN tp n i) = 62 := by have := isC_pos c; omega
          exact ⟨nI 8, by rw [c3, kd_op.2.2.2.2.2.2.1], by rw [if_neg (fun z => c1 (h1.mp z)), if_neg (fun z => c2 (h2.mp z)), of_8]⟩
    have hkv2 : (0 : Int32) = nI (kd (chN tp n (skN tp n i))).2 := by
      have := isC_pos c
      rcases this with z | z | z
      · rw [z, kd_op.2.2.2.2.1]; exact nI_0.symm
      · rw [z, kd_op.2.2.2.2.2.1]; exact nI_0.symm
      · rw [z, kd_op.2.2.2.2.2.2.1]; exact nI_0.symm
    rw [hL]
    unfold f_M_compare_L68
    rw [show Int32.ofInt 0 = (0 : Int32) from of_0]
    cases e : sumS tp n 9 d (skN tp n i + 1) with
    | inl q =>
      rw [e] at a2
      obtain ⟨x1, x, x2, x3⟩ := a2
      obtain ⟨t2, r1, r2⟩ := MBD_put (a := kv) (b := 0) hb x3 (by omega)
      rw [r1, Option.bind_some]
      exact ⟨t2, rfl, x1, x + 1, by omega, r2⟩
    | inr q =>
      rw [e] at a2
      obtain ⟨x2, x3, x4, x5⟩ := a2
      obtain ⟨t2, d1, d2⟩ := LM_put (c := chN tp n (skN tp n i)) (a := kv) (b := 0) hb x2 (by rw [List.length_append]; omega) hkv hkv2
      rw [d1, Option.bind_some]
      refine ⟨t2, rfl, by rw [← List.append_assoc]; exact d2, by show i + (q.2 ++ [chN tp n (skN tp n i)]).length ≤ q.1; rw [List.length_append]; show i + (q.2.length + 1) ≤ q.1; omega, by show i < q.1; omega, x5⟩
theorem mb_and {u : S2 → Option S2} {x q fu : Nat} (hq : q < 1000) (h : MBD s N x q t) : f_M_goOnAnd_L0 u (fu + 1) t = some t := by
  show b_M_goOnAnd_L0 _ _ _ = _
  unfold b_M_goOnAnd_L0
  rw [h.2.1, of_m1, if_neg (m1_ne hq)]
theorem mb_or {u : S2 → Option S2} {x q fu : Nat} (hq : q < 1000) (h : MBD s N x q t) : f_M_goOnOr_L0 u (fu + 1) t = some t := by
  show b_M_goOnOr_L0 _ _ _ = _
  unfold b_M_goOnOr_L0
  rw [h.2.1, of_m1, if_neg (m1_ne hq)]
theorem pmm_andL (ht : TOK n tp) (hp : TPm n tp s) (hb : LB N s) {u : S2 → Option S2} {us : Nat → Nat → RES} {d : Nat} (ha : PMm n s N d u (us d)) : ∀ (m fu i : Nat) (L0 L : List Nat) (t : S2), n < i + m → m + 1 < fu → i ≤ n → L0.length + L.length ≤ i → LM s N d (L0 ++ L) i t → ∃ t', f_M_goOnAnd_L0 u fu t = some t' ∧ (match tmL tp n (us d) 38 38 m i L with
    | Sum.inl q => q ≤ n ∧ ∃ x, x ≤ L0.length + L.length + (n - i) ∧ MBD s N x q t'
    | Sum.inr q => LM s N d (L0 ++ q.2) q.1 t' ∧ i + q.2.length ≤ q.1 + L.length ∧ i ≤ q.1 ∧ q.1 ≤ n) := by
  have h240 := ht.1
  intro m
  induction m with
  | zero => intro fu i L0 L t h1 h2 h3; omega
  | succ m ih =>
    intro fu i L0 L t h1 h2 h3 h5 h
    obtain ⟨g', rfl, hg⟩ := suc_lt h2
    obtain ⟨g'', rfl, hg2⟩ := suc_of hg
    have hk := skN_le (tp := tp) h3
    have is1 : (hmN tp n (skN tp n i) = nI 38) = (chN tp n (skN tp n i) = 38) := hm_is ht (by omega) (by omega)
    show ∃ t', b_M_goOnAnd_L0 _ _ _ = _ ∧ _
    unfold b_M_goOnAnd_L0
    rw [h.2.2.2.2.1, of_m1, if_pos rfl, lm_look ht hp h h3, Option.bind_some, of_38]
    show ∃ t', (if hmN tp n (skN tp n i) = nI 38 then (some (pkS (mA t (skN tp n i)) 60 0 3 ((mA t (skN tp n i)).1 60 0 3 + Int32.ofInt 1))).bind _ else some (mA t (skN tp n i))) = _ ∧ _
    by_cases c : chN tp n (skN tp n i) = 38
    · have hlt : skN tp n i < n := chN_p c (by omega)
      have c2 : chN tp n (skN tp n i) = 38 ∨ chN tp n (skN tp n i) = 38 := Or.inl c
      obtain ⟨t1, a1, a2⟩ := ha _ (L0 ++ L) (skN tp n i + 1) (LM_at h (skN tp n i + 1)) (by omega) (by rw [List.length_append]; omega)
      rw [if_pos (is1.mpr c), mA_at, of_1, nI_add, Option.bind_some, show pkS (mA t (skN tp n i)) 60 0 3 (nI (skN tp n i + 1)) = mA t (skN tp n i + 1) from mA_mA t _ _, a1, Option.bind_some, of_10, show Int32.ofInt 0 = (0 : Int32) from of_0]
      cases e : us d (skN tp n i + 1) with
      | inl q =>
        rw [e] at a2
        rw [tl_bad c2 e]
        obtain ⟨x1, x, x2, x3⟩ := a2
        rw [List.length_append] at x2
        obtain ⟨t2, r1, r2⟩ := MBD_put (a := nI 10) (b := 0) hb x3 (by omega)
        rw [r1, Option.bind_some, mb_and (by omega) r2]
        exact ⟨t2, rfl, x1, x + 1, by omega, r2⟩
      | inr q =>
        rw [e] at a2
        rw [tl_go c2 e, c]
        obtain ⟨x2, x3, x4, x5⟩ := a2
        obtain ⟨t2, d1, d2⟩ := LM_put (c := 38) (a := nI 10) (b := 0) hb x2 (by rw [List.length_append, List.length_append]; omega) (by rw [kd_op.2.2.2.2.2.2.2.2.1]) (by rw [kd_op.2.2.2.2.2.2.2.2.1]; exact nI_0.symm)
        rw [d1, Option.bind_some]
        obtain ⟨t', r1, r2⟩ := ih (g'' + 1) q.1 L0 (L ++ q.2 ++ [38]) t2 (by omega) (by omega) x5 (by rw [List.length_append, List.length_append]; show L0.length + (L.length + q.2.length + 1) ≤ q.1; omega) (by rw [← List.append_assoc, ← List.append_assoc]; exact d2)
        refine ⟨t', r1, ?_⟩
        cases z : tmL tp n (us d) 38 38 m q.1 (L ++ q.2 ++ [38]) with
        | inl y =>
          rw [z] at r2
          obtain ⟨y1, x, y2, y3⟩ := r2
          rw [List.length_append, List.length_append] at y2
          have y2 : x ≤ L0.length + (L.length + q.2.length + 1) + (n - q.1) := y2
          exact ⟨y1, x, by omega, y3⟩
        | inr y =>
          rw [z] at r2
          obtain ⟨y2, y3, y4, y5⟩ := r2
          rw [List.length_append, List.length_append] at y3
          have y3 : q.1 + y.2.length ≤ y.1 + (L.length + q.2.length + 1) := y3
          exact ⟨y2, by omega, by omega, y5⟩
    · rw [if_neg (fun z => c (is1.mp z)), tl_stop (fun z => by rcases z with z | z <;> exact c z)]
      exact ⟨_, rfl, LM_at h _, by show i + L.length ≤ skN tp n i + L.length; omega, hk.1, hk.2⟩
/-- a first piece and what goes on behind it -/
theorem pmm_seq {A : S2 → Option S2} {B : S2 → Option S2} {a b : Nat → RES} {c d : Nat} (ht : TOK n tp) (ha : PMm n s N d A a) (hbad : ∀ x q t, q < 1000 → MBD s N x q t → B t = some t) (hB : ∀ (i : Nat) (L0 L : List Nat) (t : S2), i ≤ n → L0.length + L.length ≤ i → 0 < i → LM s N d (L0 ++ L) i t → ∃ t', B t = some t' ∧ (match tmL tp n b c c 241 i L with
    | Sum.inl q => q ≤ n ∧ ∃ x, x ≤ L0.length + L.length + (n - i) ∧ MBD s N x q t'
    | Sum.inr q => LM s N d (L0 ++ q.2) q.1 t' ∧ i + q.2.length ≤ q.1 + L.length ∧ i ≤ q.1 ∧ q.1 ≤ n)) : PMm n s N d (fun t => (A t).bind B) (fun i => match a i with
    | Sum.inl q => Sum.inl q
    | Sum.inr q => tmL tp n b c c 241 q.1 q.2) := by
  have h240 := ht.1
  intro t L i h hi hL
  obtain ⟨t1, a1, a2⟩ := ha t L i h hi hL
  show ∃ t', (A t).bind B = some t' ∧ RMr n s N d L i t' (match a i with
    | Sum.inl q => Sum.inl q
    | Sum.inr q => tmL tp n b c c 241 q.1 q.2)
  rw [a1, Option.bind_some]
  cases e : a i with
  | inl q =>
    rw [e] at a2
    obtain ⟨x1, x, x2, x3⟩ := a2
    exact ⟨t1, hbad x q t1 (by omega) x3, x1, x, x2, x3⟩
  | inr q =>
    rw [e] at a2
    obtain ⟨x2, x3, x4, x5⟩ := a2
    obtain ⟨t', r1, r2⟩ := hB q.1 L q.2 t1 x5 (by omega) (by omega) x2
    refine ⟨t', r1, ?_⟩
    show RMr n s N d L i t' (tmL tp n b c c 241 q.1 q.2)
    cases z : tmL tp n b c c 241 q.1 q.2 with
    | inl y =>
      rw [z] at r2
      obtain ⟨y1, x, y2, y3⟩ := r2
      exact ⟨y1, x, by omega, y3⟩
    | inr y =>
      rw [z] at r2
      obtain ⟨y2, y3, y4, y5⟩ := r2
      exact ⟨y2, by omega, by omega, y5⟩
theorem FU_s : FU = 99999 + 1 := rfl
theorem pmm_truth (ht : TOK n tp) (hp : TPm n tp s) (hb : LB N s) {A u : S2 → Option S2} {us : Nat → Nat → RES} {d : Nat} {a : Nat → RES} (hA : PMm n s N d A a) (hu : PMm n s N d u (us d)) : PMm n s N d (fun t => (A t).bind (f_M_goOnAnd u)) (fun i => match a i with
    | Sum.inl q => Sum.inl q
    | Sum.inr q => tmL tp n (us d) 38 38 241 q.1 q.2) := by
  have h240 := ht.1
  refine pmm_seq ht hA (fun x q t hq h => ?_) fun i L0 L t hi hL h0 h => ?_
  · unfold f_M_goOnAnd
    rw [FU_s]
    exact mb_and hq h
  · exact pmm_andL ht hp hb hu 241 FU i L0 L t (by omega) (lt_FU (by omega)) hi hL h
theorem pmm_orL (ht : TOK n tp) (hp : TPm n tp s) (hb : LB N s) {u : S2 → Option S2} {us : Nat → Nat → RES} {d : Nat} (hu : PMm n s N d u (us d)) : ∀ (m fu i : Nat) (L0 L : List Nat) (t : S2), n < i + m → m + 1 < fu → i ≤ n → L0.length + L.length ≤ i → LM s N d (L0 ++ L) i t → ∃ t', f_M_goOnOr_L0 u fu t = some t' ∧ (match tmL tp n (lpR tp n (us d) 38 38) 124 124 m i L with
    | Sum.inl q => q ≤ n ∧ ∃ x, x ≤ L0.length + L.length + (n - i) ∧ MBD s N x q t'
    | Sum.inr q => LM s N d (L0 ++ q.2) q.1 t' ∧ i + q.2.length ≤ q.1 + L.length ∧ i ≤ q.1 ∧ q.1 ≤ n) := by
  have h240 := ht.1
  have hT : PMm n s N d (fun t => (u t).bind (f_M_goOnAnd u)) (lpR tp n (us d) 38 38) := pmm_truth ht hp hb hu hu
  intro m
  induction m with
  | zero => intro fu i L0 L t h1 h2 h3; omega
  | succ m ih =>
    intro fu i L0 L t h1 h2 h3 h5 h
    obtain ⟨g', rfl, hg⟩ := suc_lt h2
    obtain ⟨g'', rfl, hg2⟩ := suc_of hg
    have hk := skN_le (tp := tp) h3
    have is1 : (hmN tp n (skN tp n i) = nI 124) = (chN tp n (skN tp n i) = 124) := hm_is ht (by omega) (by omega)
    show ∃ t', b_M_goOnOr_L0 _ _ _ = _ ∧ _
    unfold b_M_goOnOr_L0
    rw [h.2.2.2.2.1, of_m1, if_pos rfl, lm_look ht hp h h3, Option.bind_some, of_124]
    show ∃ t', (if hmN tp n (skN tp n i) = nI 124 then (some (pkS (mA t (skN tp n i)) 60 0 3 ((mA t (skN tp n i)).1 60 0 3 + Int32.ofInt 1))).bind _ else some (mA t (skN tp n i))) = _ ∧ _
    by_cases c : chN tp n (skN tp n i) = 124
    · have hlt : skN tp n i < n := chN_p c (by omega)
      have c2 : chN tp n (skN tp n i) = 124 ∨ chN tp n (skN tp n i) = 124 := Or.inl c
      obtain ⟨t1, a1, a2⟩ := hT _ (L0 ++ L) (skN tp n i + 1) (LM_at h (skN tp n i + 1)) (by omega) (by rw [List.length_append]; omega)
      have a1 : (u (mA t (skN tp n i + 1))).bind (f_M_goOnAnd u) = some t1 := a1
      have hasc : ∀ (F : S2 → Option S2), ((u (mA t (skN tp n i + 1))).bind fun q3 => (f_M_goOnAnd u q3).bind F) = F t1 := fun F => by
        rw [← Option.bind_assoc, a1, Option.bind_some]
      rw [if_pos (is1.mpr c), mA_at, of_1, nI_add, Option.bind_some, show pkS (mA t (skN tp n i)) 60 0 3 (nI (skN tp n i + 1)) = mA t (skN tp n i + 1) from mA_mA t _ _, hasc, of_11, show Int32.ofInt 0 = (0 : Int32) from of_0]
      cases e : lpR tp n (us d) 38 38 (skN tp n i + 1) with
      | inl q =>
        rw [e] at a2
        rw [tl_bad c2 e]
        obtain ⟨x1, x, x2, x3⟩ := a2
        rw [List.length_append] at x2
        obtain ⟨t2, r1, r2⟩ := MBD_put (a := nI 11) (b := 0) hb x3 (by omega)
        rw [r1, Option.bind_some, mb_or (by omega) r2]
        exact ⟨t2, rfl, x1, x + 1, by omega, r2⟩
      | inr q =>
        rw [e] at a2
        rw [tl_go c2 e, c]
        obtain ⟨x2, x3, x4, x5⟩ := a2
        obtain ⟨t2, d1, d2⟩ := LM_put (c := 124) (a := nI 11) (b := 0) hb x2 (by rw [List.length_append, List.length_append]; omega) (by rw [kd_op.2.2.2.2.2.2.2.2.2]) (by rw [kd_op.2.2.2.2.2.2.2.2.2]; exact nI_0.symm)
        rw [d1, Option.bind_some]
        obtain ⟨t', r1, r2⟩ := ih (g'' + 1) q.1 L0 (L ++ q.2 ++ [124]) t2 (by omega) (by omega) x5 (by rw [List.length_append, List.length_append]; show L0.length + (L.length + q.2.length + 1) ≤ q.1; omega) (by rw [← List.append_assoc, ← List.append_assoc]; exact d2)
        refine ⟨t', r1, ?_⟩
        cases z : tmL tp n (lpR tp n (us d) 38 38) 124 124 m q.1 (L ++ q.2 ++ [124]) with
        | inl y =>
          rw [z] at r2
          obtain ⟨y1, x, y2, y3⟩ := r2
          rw [List.length_append, List.length_append] at y2
          have y2 : x ≤ L0.length + (L.length + q.2.length + 1) + (n - q.1) := y2
          exact ⟨y1, x, by omega, y3⟩
        | inr y =>
          rw [z] at r2
          obtain ⟨y2, y3, y4, y5⟩ := r2
          rw [List.length_append, List.length_append] at y3
          have y3 : q.1 + y.2.length ≤ y.1 + (L.length + q.2.length + 1) := y3
          exact ⟨y2, by omega, by omega, y5⟩
    · rw [if_neg (fun z => c (is1.mp z)), tl_stop (fun z => by rcases z with z | z <;> exact c z)]
      exact ⟨_, rfl, LM_at h _, by show i + L.length ≤ skN tp n i + L.length; omega, hk.1, hk.2⟩
theorem pmm_cond (ht : TOK n tp) (hp : TPm n tp s) (hb : LB N s) {A u : S2 → Option S2} {us : Nat → Nat → RES} {d : Nat} {a : Nat → RES} (hA : PMm n s N d A a) (hu : PMm n s N d u (us d)) : PMm n s N d (fun t => ((A t).bind (f_M_goOnAnd u)).bind (f_M_goOnOr u)) (fun i => match (match a i with
    | Sum.inl q => Sum.inl q
    | Sum.inr q => tmL tp n (us d) 38 38 241 q.1 q.2 : RES) with
    | Sum.inl q => Sum.inl q
    | Sum.inr q => tmL tp n (lpR tp n (us d) 38 38) 124 124 241 q.1 q.2) := by
  have h240 := ht.1
  refine pmm_seq ht (pmm_truth ht hp hb hA hu) (fun x q t hq h => ?_) fun i L0 L t hi hL h0 h => ?_
  · unfold f_M_goOnOr
    rw [FU_s]
    exact mb_or hq h
  · exact pmm_orL ht hp hb hu 241 FU i L0 L t (by omega) (lt_FU (by omega)) hi hL h
theorem cond_eq {u : S2 → Option S2} (t : S2) : f_M_condition u t = ((u t).bind (f_M_goOnAnd u)).bind (f_M_goOnOr u) := by
  unfold f_M_condition
  cases u t with
  | none => rfl
  | some q =>
    rw [Option.bind_some, Option.bind_some]
    cases f_M_goOnAnd u q with
    | none => rfl
    | some q2 =>
      rw [Option.bind_some, Option.bind_some]
      cases f_M_goOnOr u q2 <;> rfl
theorem pmm_ext {d : Nat} {f g : S2 → Option S2} {a b : Nat → RES} (h : PMm n s N d f a) (e : ∀ t, g t = f t) (e2 : ∀ i, a i = b i) : PMm n s N d g b := fun t L i h1 h2 h3 => by rw [e, ← e2 i]; exact h t L i h1 h2 h3
theorem pmm_cdS (ht : TOK n tp) (hp : TPm n tp s) (hb : LB N s) {u : S2 → Option S2} {us : Nat → Nat → RES} {d : Nat} (hu : PMm n s N d u (us d)) : PMm n s N d (f_M_condition u) (cdS tp n us d) := by
  refine pmm_ext (pmm_cond ht hp hb hu hu) cond_eq fun i => ?_
  unfold cdS lpR
  cases us d i with
  | inl q => rfl
  | inr q =>
    show (match tmL tp n (us d) 38 38 241 q.1 q.2 with
      | Sum.inl q => Sum.inl q
      | Sum.inr q => tmL tp n (lpR tp n (us d) 38 38) 124 124 241 q.1 q.2 : RES) = _
    cases e : tmL tp n (us d) 38 38 241 q.1 q.2 with
    | inl y => simp only [e]
    | inr y => simp only [e]; rfl
theorem pmm_un (ht : TOK n tp) (hp : TPm n tp s) (hb : LB N s) {g : S2 → Option S2} {us : Nat → Nat → RES} {d : Nat} (hd : d ≤ 6) (hg : d < 6 → PMm n s N (d + 1) g (us (d + 1))) : PMm n s N d (fb_M_unit g) (unG tp n us d) := by
  have h240 := ht.1
  intro t L i h hi hL
  have hk := skN_le (tp := tp) hi
  have hch := chN_lt ht (skN tp n i)
  have hat := LM_at h (skN tp n i)
  have is33 : (hmN tp n (skN tp n i) = nI 33) = (chN tp n (skN tp n i) = 33) := hm_is ht (by omega) (by omega)
  have is40 : (hmN tp n (skN tp n i) = nI 40) = (chN tp n (skN tp n i) = 40) := hm_is ht (by omega) (by omega)
  obtain ⟨t1, o1, o2, o3⟩ := lm_opens hd hat
  unfold fb_M_unit unG
  rw [lm_look ht hp h hi, Option.bind_some]
  show ∃ t', (if hmN tp n (skN tp n i) = Int32.ofInt 33 then (f_M_opens (mA t (skN tp n i))).bind _ else (if hmN tp n (skN tp n i) = Int32.ofInt 40 then (f_M_opens (mA t (skN tp n i))).bind _ else (f_M_sum 9 (mA t (skN tp n i))).bind _)) = _ ∧ _
  rw [of_33, of_40]
  by_cases c1 : chN tp n (skN tp n i) = 33
  · have hlt := chN_p c1 (by omega)
    rw [if_pos (is33.mpr c1), if_pos c1, o1, Option.bind_some]
    by_cases d6 : d < 6
    · have h1 := o2 d6
      obtain ⟨t2, a1, a2⟩ := hg d6 t1 L (skN tp n i + 1) h1 (by omega) (by omega)
      rw [if_pos d6, h1.2.2.2.2.1, of_m1, if_pos rfl, a1, Option.bind_some, of_9, show Int32.ofInt 0 = (0 : Int32) from of_0]
      cases e : us (d + 1) (skN tp n i + 1) with
      | inl q =>
        rw [e] at a2
        obtain ⟨x1, x, x2, x3⟩ := a2
        obtain ⟨t3, r1, r2⟩ := MBD_put (a := nI 9) (b := 0) hb x3 (by omega)
        rw [r1, Option.bind_some, Option.bind_some]
        exact ⟨_, rfl, x1, x + 1, by omega, MBD_pk r2 (Or.inr rfl)⟩
      | inr q =>
        rw [e] at a2
        obtain ⟨x2, x3, x4, x5⟩ := a2
        obtain ⟨t3, r1, r2⟩ := LM_put (c := 33) (a := nI 9) (b := 0) hb x2 (by rw [List.length_append]; omega) (by rw [kd_op.2.2.2.2.2.2.2.1]) (by rw [kd_op.2.2.2.2.2.2.2.1]; exact nI_0.symm)
        obtain ⟨w1, w2, w3, w4, w5, w6⟩ := r2
        rw [r1, Option.bind_some, w6, of_1, sub_nI (by omega), Option.bind_some, show d + 1 - 1 = d by omega]
        refine ⟨_, rfl, ⟨w1.pk' _ rfl, ?_, fun k hk => ⟨?_, ?_⟩, ?_, ?_, ?_⟩, by show i + (q.2 ++ [33]).length ≤ q.1; rw [List.length_append]; show i + (q.2.length + 1) ≤ q.1; omega, by show i < q.1; omega, x5⟩
        · rw [pkS_v, if_neg (by omega), ← List.append_assoc]; exact w2
        · rw [← List.append_assoc] at hk ⊢
          rw [pkS_v, if_neg (by omega)]; exact (w3 k hk).1
        · rw [← List.append_assoc] at hk ⊢
          rw [pkS_v, if_neg (by omega)]; exact (w3 k hk).2
        · rw [pkS_v, if_neg (by omega)]; exact w4
        · rw [pkS_v, if_neg (by omega)]; exact w5
        · rw [pkS_v, if_pos ⟨rfl, rfl, rfl⟩]
    · have h1 := o3 (by omega)
      rw [if_neg d6, h1.2.1, of_m1, if_neg (m1_ne (by omega))]
      exact ⟨t1, rfl, hk.2, _, by omega, h1⟩
  · rw [if_neg (fun z => c1 (is33.mp z)), if_neg c1]
    by_cases c2 : chN tp n (skN tp n i) = 40
    · have hlt := chN_p c2 (by omega)
      rw [if_pos (is40.mpr c2), if_pos c2, o1, Option.bind_some]
      by_cases d6 : d < 6
      · have h1 := o2 d6
        obtain ⟨t2, a1, a2⟩ := pmm_cdS ht hp hb (hg d6) t1 L (skN tp n i + 1) h1 (by omega) (by omega)
        rw [if_pos d6, h1.2.2.2.2.1, of_m1, if_pos rfl, a1, Option.bind_some, of_41]
        cases e : cdS tp n us (d + 1) (skN tp n i + 1) with
        | inl q =>
          rw [e] at a2
          obtain ⟨x1, x, x2, x3⟩ := a2
          obtain ⟨t3, r1, r2⟩ := mb_closes (a := nI 41) (by omega) x3
          rw [r1, Option.bind_some]
          exact ⟨t3, rfl, x1, x, by omega, r2⟩
        | inr q =>
          rw [e] at a2
          obtain ⟨x2, x3, x4, x5⟩ := a2
          have hkq := skN_le (tp := tp) x5
          obtain ⟨t3, r1, r2, r3⟩ := lm_closes (c := 41) ht hp (by omega) (by omega) x2 x5 (by omega)
          rw [r1, Option.bind_some]
          refine ⟨t3, rfl, ?_⟩
          show RMr n s N d L i t3 (if chN tp n (skN tp n q.1) = 41 then Sum.inr (skN tp n q.1 + 1, q.2) else Sum.inl (skN tp n q.1))
          by_cases y : chN tp n (skN tp n q.1) = 41
          · have hlq := chN_p y (by omega)
            rw [if_pos y]
            exact ⟨r2 y, by show i + q.2.length ≤ skN tp n q.1 + 1; omega, by show i < skN tp n q.1 + 1; omega, by show skN tp n q.1 + 1 ≤ n; omega⟩
          · rw [if_neg y]
            exact ⟨hkq.2, _, by rw [List.length_append]; omega, r3 y⟩
      · have h1 := o3 (by omega)
        rw [if_neg d6, h1.2.1, of_m1, if_neg (m1_ne (by omega))]
        exact ⟨t1, rfl, hk.2, _, by omega, h1⟩
    · rw [if_neg (fun z => c2 (is40.mp z)), if_neg c2]
      obtain ⟨t1, a1, a2⟩ := pmm_sumS ht hp hb 9 d hd (by omega) _ L (skN tp n i) hat hk.2 (by omega)
      rw [a1, Option.bind_some]
      unfold sqS
      cases e : sumS tp n 9 d (skN tp n i) with
      | inl q =>
        rw [e] at a2
        obtain ⟨x1, x, x2, x3⟩ := a2
        rw [x3.2.1, of_m1, if_neg (m1_ne (by omega))]
        exact ⟨t1, rfl, x1, x, by omega, x3⟩
      | inr q =>
        rw [e] at a2
        obtain ⟨x2, x3, x4, x5⟩ := a2
        obtain ⟨t2, d1, d2⟩ := pmm_cmp ht hp hb hd t1 (L ++ q.2) q.1 x2 x5 (by rw [List.length_append]; omega)
        rw [x2.2.2.2.2.1, of_m1, if_pos rfl, d1, Option.bind_some]
        refine ⟨t2, rfl, ?_⟩
        show RMr n s N d L i t2 (match cmS tp n d q.1 with
          | Sum.inl y => Sum.inl y
          | Sum.inr y => Sum.inr (y.1, q.2 ++ y.2))
        cases z : cmS tp n d q.1 with
        | inl y =>
          rw [z] at d2
          obtain ⟨y1, x, y2, y3⟩ := d2
          rw [List.length_append] at y2
          exact ⟨y1, x, by omega, y3⟩
        | inr y =>
          rw [z] at d2
          obtain ⟨y2, y3, y4, y5⟩ := d2
          exact ⟨by rw [← List.append_assoc]; exact y2, by show i + (q.2 ++ y.2).length ≤ y.1; rw [List.length_append]; omega, by show i < y.1; omega, y5⟩
theorem pmm_unS (ht : TOK n tp) (hp : TPm n tp s) (hb : LB N s) : ∀ (f d : Nat), d ≤ 6 → 7 ≤ d + f → PMm n s N d (f_M_unit f) (unS tp n f d) := by
  intro f
  induction f with
  | zero => intro d h1 h2; omega
  | succ f ih =>
    intro d h1 h2
    exact pmm_un (g := f_M_unit f) (us := unS tp n f) ht hp hb h1 fun h6 => ih (d + 1) (by omega) (by omega)
end
