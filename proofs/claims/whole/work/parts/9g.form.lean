/-! ===== a rule's codes are well formed ===== -/
section
variable {tp : Nat → Nat} {n : Nat} {Q : Bool → Nat → List Nat → Prop}
def QC (Q : Bool → Nat → List Nat → Prop) : Prop := (∀ b m m' L, m ≤ m' → Q b m L → Q b m' L) ∧ (∀ v, v < 10000 → Q false 1 [256 + v]) ∧ (∀ k, k < 6 → Q false 1 [k]) ∧ (∀ m L, Q true m L → Q true m (L ++ [33])) ∧ (∀ m L L' c, (c = 42 ∨ c = 47 ∨ c = 43 ∨ c = 45) → Q false (m + 1) L → Q false m L' → Q false (m + 1) (L ++ L' ++ [c])) ∧ (∀ m L L' c, isC c = true → Q false (m + 1) L → Q false m L' → Q true (m + 1) (L ++ L' ++ [c])) ∧ (∀ m L L' c, (c = 38 ∨ c = 124) → Q true (m + 1) L → Q true m L' → Q true (m + 1) (L ++ L' ++ [c]))
def ns (d : Nat) : Nat := 3 + 2 * (6 - d)
def SPx (n : Nat) (P : List Nat → Prop) (sp : Nat → RES) : Prop := ∀ i q, i ≤ n → sp i = Sum.inr q → P q.2 ∧ q.1 ≤ n
theorem sx_atom (ht : TOK n tp) (hQ : QC Q) {gs : Nat → Nat → RES} {d : Nat} (hd : d ≤ 6) (hg : d < 6 → SPx n (Q false (ns (d + 1))) (gs (d + 1))) : SPx n (Q false (ns d - 2)) (atS tp n gs d) := by
  intro i q hi h
  have hk := skN_le (tp := tp) hi
  have hns : 1 ≤ ns d - 2 := by unfold ns; omega
  unfold atS at h
  cases c : dgN tp n (skN tp n i) with
  | true =>
    rw [c, if_pos rfl] at h
    cases e : nuG tp n 4 (skN tp n i) with
    | inl y => rw [e] at h; cases h
    | inr y =>
      rw [e] at h
      cases h
      obtain ⟨q1, q2, q3⟩ := (nuG_le (tp := tp) (n := n) (M := 4) hk.2).2 y e
      exact ⟨hQ.1 _ _ _ _ hns (hQ.2.1 _ q3), q2⟩
  | false =>
    rw [c, if_neg (show ¬ (false = true) by decide)] at h
    by_cases b : chN tp n (skN tp n i) = 91
    · have hlt := chN_p b (by omega)
      rw [if_pos b] at h
      by_cases d6 : d < 6
      · rw [if_pos d6] at h
        cases e : gs (d + 1) (skN tp n i + 1) with
        | inl y => rw [e] at h; cases h
        | inr y =>
          rw [e] at h
          obtain ⟨g1, g2⟩ := hg d6 (skN tp n i + 1) y (by omega) e
          have h : (if chN tp n (skN tp n y.1) = 93 then Sum.inr (skN tp n y.1 + 1, y.2) else Sum.inl (skN tp n y.1) : RES) = Sum.inr q := h
          by_cases z : chN tp n (skN tp n y.1) = 93
          · have hl2 := chN_p z (by omega)
            rw [if_pos z] at h
            cases h
            exact ⟨hQ.1 _ _ _ _ (by unfold ns; omega) g1, by show skN tp n y.1 + 1 ≤ n; omega⟩
          · rw [if_neg z] at h; cases h
      · rw [if_neg d6] at h; cases h
    · rw [if_neg b] at h
      cases e : cIx 2 (chN tp n (skN tp n i)) with
      | none => rw [e] at h; cases h
      | some k =>
        rw [e] at h
        cases h
        have hlt : skN tp n i < n := by
          apply Classical.byContradiction
          intro hn
          have : chN tp n (skN tp n i) = 0 := if_neg hn
          rw [this, cx2_n.1] at e
          cases e
        have hk6 : k < 6 := by
          unfold cIx at e
          rw [kb_l.2.2.1] at e
          have := ffS_lt 6 0 k e
          omega
        exact ⟨hQ.1 _ _ _ _ hns (hQ.2.2.1 k hk6), by show skN tp n i + 1 ≤ n; omega⟩
theorem sx_tl {b : Bool} {m c1 c2 : Nat} {a : Nat → RES} (h0 : 0 < c1 ∧ 0 < c2) (hop : ∀ L L' c, (c = c1 ∨ c = c2) → Q b (m + 1) L → Q b m L' → Q b (m + 1) (L ++ L' ++ [c])) (ha : SPx n (Q b m) a) : ∀ (M i : Nat) (L0 L : List Nat) (q : Nat × List Nat), i ≤ n → Q b (m + 1) (L0 ++ L) → tmL tp n a c1 c2 M i L = Sum.inr q → Q b (m + 1) (L0 ++ q.2) ∧ q.1 ≤ n := by
  intro M
  induction M with
  | zero => intro i L0 L q _ _ h; cases h
  | succ M ih =>
    intro i L0 L q hi hL h
    have hk := skN_le (tp := tp) hi
    by_cases c : chN tp n (skN tp n i) = c1 ∨ chN tp n (skN tp n i) = c2
    · have hlt : skN tp n i < n := chN_p (c := chN tp n (skN tp n i)) rfl (by rcases c with c | c <;> omega)
      cases e : a (skN tp n i + 1) with
      | inl y => rw [tl_bad c e] at h; cases h
      | inr y =>
        rw [tl_go c e] at h
        obtain ⟨g1, g2⟩ := ha _ y (by omega) e
        exact ih _ L0 _ q g2 (by rw [← List.append_assoc, ← List.append_assoc]; exact hop (L0 ++ L) y.2 _ c hL g1) h
    · rw [tl_stop c] at h
      cases h
      exact ⟨hL, hk.2⟩
theorem sx_lp {b : Bool} {m c1 c2 : Nat} {a : Nat → RES} (h0 : 0 < c1 ∧ 0 < c2) (hmono : ∀ L, Q b m L → Q b (m + 1) L) (hop : ∀ L L' c, (c = c1 ∨ c = c2) → Q b (m + 1) L → Q b m L' → Q b (m + 1) (L ++ L' ++ [c])) (ha : SPx n (Q b m) a) : SPx n (Q b (m + 1)) (lpR tp n a c1 c2) := by
  intro i q hi h
  unfold lpR at h
  cases e : a i with
  | inl y => rw [e] at h; cases h
  | inr y =>
    rw [e] at h
    obtain ⟨g1, g2⟩ := ha i y hi e
    exact sx_tl h0 hop ha 241 y.1 [] y.2 q g2 (hmono _ g1) h
theorem sx_sum (ht : TOK n tp) (hQ : QC Q) : ∀ (f d : Nat), d ≤ 6 → SPx n (Q false (ns d)) (sumS tp n f d) := by
  intro f
  induction f with
  | zero => intro d _ i q _ h; cases h
  | succ f ih =>
    intro d hd
    have ha := sx_atom (gs := sumS tp n f) (d := d) ht hQ hd fun h6 => ih (d + 1) (by omega)
    have hte := sx_lp (c1 := 42) (c2 := 47) (tp := tp) (by omega) (fun L => hQ.1 _ _ _ L (Nat.le_succ _)) (fun L L' c hc => hQ.2.2.2.2.1 _ L L' c (by omega)) ha
    have hsu := sx_lp (c1 := 43) (c2 := 45) (tp := tp) (by omega) (fun L => hQ.1 _ _ _ L (Nat.le_succ _)) (fun L L' c hc => hQ.2.2.2.2.1 _ L L' c (by omega)) hte
    rw [show ns d - 2 + 1 + 1 = ns d by unfold ns; omega] at hsu
    exact hsu
theorem sx_cmp (ht : TOK n tp) (hQ : QC Q) {d i : Nat} {L0 : List Nat} {q : Nat × List Nat} (hd : d ≤ 6) (hi : i ≤ n) (hL : Q false (ns d + 1) L0) (h : cmS tp n d i = Sum.inr q) : Q true (ns d + 1) (L0 ++ q.2) ∧ q.1 ≤ n := by
  have hk := skN_le (tp := tp) hi
  unfold cmS at h
  cases c : isC (chN tp n (skN tp n i)) with
  | false => rw [c, if_neg (show ¬ (false = true) by decide)] at h; cases h
  | true =>
    have hlt := chN_p (tp := tp) (n := n) (i := skN tp n i) (c := chN tp n (skN tp n i)) rfl (by have := isC_pos c; omega)
    rw [c, if_pos rfl] at h
    cases e : sumS tp n 9 d (skN tp n i + 1) with
    | inl y => rw [e] at h; cases h
    | inr y =>
      rw [e] at h
      cases h
      obtain ⟨g1, g2⟩ := sx_sum ht hQ 9 d hd _ y (by omega) e
      exact ⟨by rw [← List.append_assoc]; exact hQ.2.2.2.2.2.1 _ _ _ _ c hL g1, g2⟩
theorem sx_cond (hQ : QC Q) {u : Nat → Nat → RES} {d m : Nat} (hu : SPx n (Q true m) (u d)) : SPx n (Q true (m + 2)) (cdS tp n u d) := by
  have h1 := sx_lp (c1 := 38) (c2 := 38) (tp := tp) (by omega) (fun L => hQ.1 _ _ _ L (Nat.le_succ _)) (fun L L' c hc => hQ.2.2.2.2.2.2 _ L L' c (by omega)) hu
  exact sx_lp (c1 := 124) (c2 := 124) (tp := tp) (by omega) (fun L => hQ.1 _ _ _ L (Nat.le_succ _)) (fun L L' c hc => hQ.2.2.2.2.2.2 _ L L' c (by omega)) h1
theorem sx_un (ht : TOK n tp) (hQ : QC Q) : ∀ (f d : Nat), d ≤ 6 → SPx n (Q true (ns d + 1)) (unS tp n f d) := by
  intro f
  induction f with
  | zero => intro d _ i q _ h; cases h
  | succ f ih =>
    intro d hd i q hi h
    have hk := skN_le (tp := tp) hi
    have h : unG tp n (unS tp n f) d i = Sum.inr q := h
    unfold unG at h
    by_cases c1 : chN tp n (skN tp n i) = 33
    · have hlt := chN_p c1 (by omega)
      rw [if_pos c1] at h
      by_cases d6 : d < 6
      · rw [if_pos d6] at h
        cases e : unS tp n f (d + 1) (skN tp n i + 1) with
        | inl y => rw [e] at h; cases h
        | inr y =>
          rw [e] at h
          cases h
          obtain ⟨g1, g2⟩ := ih (d + 1) (by omega) _ y (by omega) e
          exact ⟨hQ.2.2.2.1 _ _ (hQ.1 _ _ _ _ (by unfold ns; omega) g1), g2⟩
      · rw [if_neg d6] at h; cases h
    · rw [if_neg c1] at h
      by_cases c2 : chN tp n (skN tp n i) = 40
      · have hlt := chN_p c2 (by omega)
        rw [if_pos c2] at h
        by_cases d6 : d < 6
        · rw [if_pos d6] at h
          cases e : cdS tp n (unS tp n f) (d + 1) (skN tp n i + 1) with
          | inl y => rw [e] at h; cases h
          | inr y =>
            rw [e] at h
            obtain ⟨g1, g2⟩ := sx_cond hQ (ih (d + 1) (by omega)) _ y (show skN tp n i + 1 ≤ n by omega) e
            have h : (if chN tp n (skN tp n y.1) = 41 then Sum.inr (skN tp n y.1 + 1, y.2) else Sum.inl (skN tp n y.1) : RES) = Sum.inr q := h
            by_cases z : chN tp n (skN tp n y.1) = 41
            · have hl2 := chN_p z (by omega)
              rw [if_pos z] at h
              cases h
              exact ⟨hQ.1 _ _ _ _ (by unfold ns; omega) g1, by show skN tp n y.1 + 1 ≤ n; omega⟩
            · rw [if_neg z] at h; cases h
        · rw [if_neg d6] at h; cases h
      · rw [if_neg c2] at h
        unfold sqS at h
        cases e : sumS tp n 9 d (skN tp n i) with
        | inl y => rw [e] at h; cases h
        | inr y =>
          rw [e] at h
          obtain ⟨g1, g2⟩ := sx_sum ht hQ 9 d hd _ y hk.2 e
          have h : (match cmS tp n d y.1 with
            | Sum.inl z => Sum.inl z
            | Sum.inr z => Sum.inr (z.1, y.2 ++ z.2) : RES) = Sum.inr q := h
          cases e2 : cmS tp n d y.1 with
          | inl z => rw [e2] at h; cases h
          | inr z =>
            rw [e2] at h
            cases h
            exact sx_cmp ht hQ hd g2 (hQ.1 _ _ _ _ (Nat.le_succ _) g1) e2
/-- what a clause may hold -/
def CLQ (Q : Bool → Nat → List Nat → Prop) (c : CLA) : Prop := (∀ T, c.1 = some T → Q true 18 T) ∧ Q false 15 c.2
theorem sx_tlS (ht : TOK n tp) (hQ : QC Q) {r : RES} {q : Nat × CLA} (hr : ∀ y, r = Sum.inr y → Q true 18 y.2 ∧ y.1 ≤ n) (h : tlS tp n r = Sum.inr q) : CLQ Q q.2 ∧ q.1 ≤ n := by
  cases r with
  | inl y => cases h
  | inr y =>
    obtain ⟨g1, g2⟩ := hr y rfl
    have hk := skN_le (tp := tp) g2
    unfold tlS at h
    have h : (if chN tp n (skN tp n y.1) = 63 then (match sumS tp n 9 0 (skN tp n y.1 + 1) with
      | Sum.inl z => Sum.inl z
      | Sum.inr z => Sum.inr (z.1, some y.2, z.2)) else Sum.inl (skN tp n y.1) : Nat ⊕ (Nat × CLA)) = Sum.inr q := h
    by_cases c : chN tp n (skN tp n y.1) = 63
    · have hlt := chN_p c (by omega)
      rw [if_pos c] at h
      cases e : sumS tp n 9 0 (skN tp n y.1 + 1) with
      | inl z => rw [e] at h; cases h
      | inr z =>
        rw [e] at h
        cases h
        obtain ⟨k1, k2⟩ := sx_sum ht hQ 9 0 (by omega) _ z (by omega) e
        exact ⟨⟨fun T hT => by cases hT; exact g1, k1⟩, k2⟩
    · rw [if_neg c] at h; cases h
theorem sx_body (ht : TOK n tp) (hQ : QC Q) {i : Nat} {q : Nat × CLA} (hi : i ≤ n) (h : bdS tp n i = Sum.inr q) : CLQ Q q.2 ∧ q.1 ≤ n := by
  have hk := skN_le (tp := tp) hi
  unfold bdS at h
  by_cases c : chN tp n (skN tp n i) = 33 ∨ chN tp n (skN tp n i) = 40
  · rw [if_pos c] at h
    exact sx_tlS ht hQ (fun y e => sx_cond hQ (sx_un ht hQ 9 0 (by omega)) _ y hk.2 e) h
  · rw [if_neg c] at h
    cases e : sumS tp n 9 0 (skN tp n i) with
    | inl y => rw [e] at h; cases h
    | inr y =>
      rw [e] at h
      obtain ⟨g1, g2⟩ := sx_sum ht hQ 9 0 (by omega) _ y hk.2 e
      have hk2 := skN_le (tp := tp) g2
      have h : (if isC (chN tp n (skN tp n y.1)) then tlS tp n (pre1 y.2 (cd1 tp n (unS tp n 9) 0 (skN tp n y.1))) else Sum.inr (skN tp n y.1, none, y.2)) = Sum.inr q := h
      cases z : isC (chN tp n (skN tp n y.1)) with
      | false =>
        rw [z, if_neg (show ¬ (false = true) by decide)] at h
        cases h
        exact ⟨⟨fun T hT => (by cases hT), g1⟩, hk2.2⟩
      | true =>
        rw [z, if_pos rfl] at h
        refine sx_tlS ht hQ (fun v e2 => ?_) h
        cases e3 : cmS tp n 0 (skN tp n y.1) with
        | inl w =>
          have : cd1 tp n (unS tp n 9) 0 (skN tp n y.1) = Sum.inl w := by unfold cd1; rw [e3]
          rw [this] at e2
          cases e2
        | inr w =>
          obtain ⟨a1, a2⟩ := sx_cmp (L0 := y.2) ht hQ (show 0 ≤ 6 by omega) hk2.2 (hQ.1 _ _ _ _ (Nat.le_succ _) g1) e3
          have hu := sx_un ht hQ 9 0 (by omega)
          have hT := sx_lp (c1 := 38) (c2 := 38) (tp := tp) (by omega) (fun L => hQ.1 _ _ _ L (Nat.le_succ _)) (fun L L' c hc => hQ.2.2.2.2.2.2 _ L L' c (by omega)) hu
          cases e4 : tmL tp n (unS tp n 9 0) 38 38 241 w.1 w.2 with
          | inl z =>
            have : cd1 tp n (unS tp n 9) 0 (skN tp n y.1) = Sum.inl z := by unfold cd1; rw [e3]; show (match tmL tp n (unS tp n 9 0) 38 38 241 w.1 w.2 with | Sum.inl z => _ | Sum.inr z => _) = _; rw [e4]
            rw [this] at e2
            cases e2
          | inr z =>
            have : cd1 tp n (unS tp n 9) 0 (skN tp n y.1) = tmL tp n (lpR tp n (unS tp n 9 0) 38 38) 124 124 241 z.1 z.2 := by unfold cd1; rw [e3]; show (match tmL tp n (unS tp n 9 0) 38 38 241 w.1 w.2 with | Sum.inl z => _ | Sum.inr z => _) = _; rw [e4]
            rw [this] at e2
            obtain ⟨b1, b2⟩ := sx_tl (b := true) (by omega) (fun L L' c hc => hQ.2.2.2.2.2.2 _ L L' c (by omega)) hu 241 w.1 y.2 w.2 z a2 (hQ.1 _ _ _ _ (Nat.le_succ _) a1) e4
            cases e5 : tmL tp n (lpR tp n (unS tp n 9 0) 38 38) 124 124 241 z.1 z.2 with
            | inl x => rw [e5] at e2; cases e2
            | inr x =>
              obtain ⟨d1, d2⟩ := sx_tl (b := true) (by omega) (fun L L' c hc => hQ.2.2.2.2.2.2 _ L L' c (by omega)) hT 241 z.1 y.2 z.2 x b2 (hQ.1 _ _ _ _ (Nat.le_succ _) b1) e5
              rw [e5] at e2
              cases e2
              exact ⟨d1, d2⟩
theorem sx_clause (ht : TOK n tp) (hQ : QC Q) {i : Nat} {q : Nat × CLA} (hi : i ≤ n) (h : clR tp n i = Sum.inr q) : CLQ Q q.2 ∧ q.1 ≤ n := by
  have hk := skN_le (tp := tp) hi
  unfold clR at h
  by_cases c : chN tp n (skN tp n i) = 121
  · have hlt := chN_p c (by omega)
    have hk2 := skN_le (tp := tp) (show skN tp n i + 1 ≤ n by omega)
    rw [if_pos c] at h
    by_cases c2 : chN tp n (skN tp n (skN tp n i + 1)) = 58
    · have hlt2 := chN_p c2 (by omega)
      rw [if_pos c2] at h
      exact sx_body ht hQ (by omega) h
    · rw [if_neg c2] at h; cases h
  · rw [if_neg c] at h; cases h
theorem sx_law (ht : TOK n tp) (hQ : QC Q) : ∀ (m i : Nat) (l : List CLA), i ≤ n → lawS tp n m i = Sum.inr l → ∀ c, c ∈ l → CLQ Q c := by
  intro m
  induction m with
  | zero => intro i l _ h; cases h
  | succ m ih =>
    intro i l hi h
    cases e : clR tp n i with
    | inl y => rw [la_bad e] at h; cases h
    | inr y =>
      obtain ⟨g1, g2⟩ := sx_clause ht hQ hi e
      have hk := skN_le (tp := tp) g2
      rw [la_eq e] at h
      by_cases z : chN tp n (skN tp n y.1) = 0
      · rw [if_pos z] at h
        cases h
        intro c hc
        rw [List.mem_singleton] at hc
        rw [hc]; exact g1
      · rw [if_neg z] at h
        by_cases z2 : chN tp n (skN tp n y.1) = 59
        · have hlt := chN_p z2 (by omega)
          rw [if_pos z2] at h
          cases e2 : lawS tp n m (skN tp n y.1 + 1) with
          | inl v => rw [e2] at h; cases h
          | inr v =>
            rw [e2] at h
            cases h
            intro c hc
            rcases List.mem_cons.mp hc with hc | hc
            · rw [hc]; exact g1
            · exact ih _ v (by omega) e2 c hc
        · rw [if_neg z2] at h; cases h
end
