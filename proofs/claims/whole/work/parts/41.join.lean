/-! ===== which become one ===== -/
def neS (I : Nat) (w v : Nat → Int32) (a b : Nat) : Bool := isH I v a && (isH I v b && decide (apS v a b ≤ w 1))
def fbS (I : Nat) (w v : Nat → Int32) (a : Nat) : Nat → Nat → Option Nat
  | 0, _ => none
  | m + 1, b => if neS I w v a b then some b else fbS I w v a m (b + 1)
def faS (I : Nat) (w v : Nat → Int32) : Nat → Nat → Option (Nat × Nat)
  | 0, _ => none
  | m + 1, a => match fbS I w v a (5 - a) (a + 1) with
    | some b => some (a, b)
    | none => faS I w v m (a + 1)
/-- the first pair that is near enough -/
def npS (I : Nat) (w v : Nat → Int32) : Option (Nat × Nat) := faS I w v 6 0
def scS (w u v : Nat → Int32) (a b : Nat) : Int32 := if (jabs (u a - u b) + jabs (u (6 + a) - u (6 + b))) - apS v a b ≤ w 3 then 0 else nI 1
def h1S (v : Nat → Int32) (a b : Nat) : Nat → (Nat → Int32)
  | 0 => v
  | k + 1 => if v (18 + k) = nI b then upd (h1S v a b k) (18 + k) (nI a) else h1S v a b k
def jnS (w u v : Nat → Int32) (a b : Nat) : Nat → Int32 := h1S (upd (upd v (12 + a) (jmin (nI 99) (v (12 + a) + v (12 + b)))) (24 + a) (v (24 + a) + (v (24 + b) + scS w u v a b))) a b 6
theorem fbS_t {I : Nat} {w v : Nat → Int32} {a m b : Nat} (h : neS I w v a b = true) : fbS I w v a (m + 1) b = some b := by
  unfold fbS
  rw [h]; rfl
theorem fbS_f {I : Nat} {w v : Nat → Int32} {a m b : Nat} (h : neS I w v a b = false) : fbS I w v a (m + 1) b = fbS I w v a m (b + 1) := by
  show (if neS I w v a b then some b else fbS I w v a m (b + 1)) = _
  rw [h]; rfl
theorem fbS_some {I : Nat} {w v : Nat → Int32} {a : Nat} : ∀ {m b c : Nat}, fbS I w v a m b = some c → b ≤ c ∧ c < b + m ∧ neS I w v a c = true
  | 0, _, _, h => by cases h
  | m + 1, b, c, h => by
    unfold fbS at h
    split at h
    · rename_i hh; cases h; exact ⟨Nat.le_refl _, by omega, hh⟩
    · have := fbS_some h; exact ⟨by omega, by omega, this.2.2⟩
theorem fbS_none {I : Nat} {w v : Nat → Int32} {a : Nat} : ∀ {m b : Nat}, (∀ c, b ≤ c → c < b + m → neS I w v a c = false) → fbS I w v a m b = none
  | 0, _, _ => rfl
  | m + 1, b, h => by
    unfold fbS
    rw [h b (Nat.le_refl b) (by omega)]
    exact fbS_none (m := m) (b := b + 1) fun c h1 h2 => h c (by omega) (by omega)
theorem faS_some {I : Nat} {w v : Nat → Int32} : ∀ {m a : Nat} {q : Nat × Nat}, a + m = 6 → faS I w v m a = some q → q.1 < q.2 ∧ q.2 < 6 ∧ neS I w v q.1 q.2 = true
  | 0, _, _, _, h => by cases h
  | m + 1, a, q, hm, h => by
    unfold faS at h
    cases hb : fbS I w v a (5 - a) (a + 1) with
    | some b =>
      rw [hb] at h
      cases h
      have := fbS_some hb
      exact ⟨by omega, by omega, this.2.2⟩
    | none =>
      rw [hb] at h
      exact faS_some (by omega) h
theorem npS_some {I : Nat} {w v : Nat → Int32} {a b : Nat} (h : npS I w v = some (a, b)) : a < b ∧ b < I ∧ isH I v a = true ∧ isH I v b = true := by
  obtain ⟨h1, h2, h3⟩ := faS_some (by rfl) h
  unfold neS at h3
  simp only [Bool.and_eq_true] at h3
  exact ⟨h1, isH_lt h3.2.1, h3.1, h3.2.1⟩
theorem h1S_o {v : Nat → Int32} {a b j : Nat} (hj : j < 18 ∨ 24 ≤ j) : ∀ k, k ≤ 6 → h1S v a b k j = v j
  | 0, _ => rfl
  | k + 1, hk => by
    unfold h1S
    split
    · rw [upd_ne _ _ (by omega)]; exact h1S_o hj k (by omega)
    · exact h1S_o hj k (by omega)
theorem h1S_k {v : Nat → Int32} {a b j : Nat} : ∀ k, k ≤ 6 → h1S v a b k (18 + j) = if j < k ∧ v (18 + j) = nI b then nI a else v (18 + j)
  | 0, _ => by rw [if_neg (by omega)]; rfl
  | k + 1, hk => by
    have ih := h1S_k (v := v) (a := a) (b := b) (j := j) k (by omega)
    unfold h1S
    by_cases c : j = k
    · subst c
      by_cases h : v (18 + j) = nI b
      · rw [if_pos h, upd_eq, if_pos ⟨by omega, h⟩]
      · rw [if_neg h, ih, if_neg (by omega), if_neg (fun z => h z.2)]
    · have e : (j < k + 1) = (j < k) := propext (by omega)
      split
      · rw [upd_ne _ _ (by omega), ih]
        simp only [e]
      · rw [ih]
        simp only [e]
theorem jnS_v {w u v : Nat → Int32} {a b : Nat} (ha : a < 6) (j : Nat) (hj : j < 6) : jnS w u v a b (18 + j) = if v (18 + j) = nI b then nI a else v (18 + j) := by
  unfold jnS
  rw [h1S_k 6 (Nat.le_refl 6), upd_ne _ _ (by omega), upd_ne _ _ (by omega)]
  by_cases h : v (18 + j) = nI b
  · rw [if_pos ⟨hj, h⟩, if_pos h]
  · rw [if_neg (fun z => h z.2), if_neg h]
theorem jnS_hd {I : Nat} {w u v : Nat → Int32} {a b : Nat} (hv : VS I v) (ha : a < I) (hb : b < I) (j : Nat) (hj : j < I) : hdS (jnS w u v a b) j = if hdS v j = b then a else hdS v j := by
  have h6 := hv.1
  obtain ⟨g1, g2, -⟩ := hv.2.1 j hj
  unfold hdS
  rw [jnS_v (by omega) j (by omega)]
  by_cases h : hdS v j = b
  · rw [if_pos (by rw [g1, h]), nI_clamp (by omega)]
    unfold hdS at h
    rw [if_pos h]
  · rw [if_neg (fun z => h (by rw [g1] at z; exact (nI_eq (by omega) (by omega)).mp z))]
    unfold hdS at h
    rw [if_neg h]
theorem jnS_m {w u v : Nat → Int32} {a b j : Nat} (h6 : a < 6) (hj : j < 6) : jnS w u v a b (12 + j) = if j = a then jmin (nI 99) (v (12 + a) + v (12 + b)) else v (12 + j) := by
  unfold jnS
  rw [h1S_o (by omega) 6 (Nat.le_refl 6), upd_ne _ _ (by omega)]
  unfold upd
  by_cases c : j = a
  · rw [if_pos (by omega), if_pos c]
  · rw [if_neg (by omega), if_neg c]
theorem VS_jn {I : Nat} {w u v : Nat → Int32} {a b : Nat} (hv : VS I v) (hab : a < b) (hb : b < I) (hA : isH I v a = true) : VS I (jnS w u v a b) := by
  have h6 := hv.1
  have hda : hdS v a = a := of_decide_eq_true (Bool.and_eq_true_iff.mp hA).2
  refine ⟨h6, fun j hj => ?_, fun j h1 h2 => ?_, fun j hj => ?_⟩
  · obtain ⟨g1, g2, g3⟩ := hv.2.1 j hj
    rw [jnS_hd hv (by omega) hb j hj, jnS_v (by omega) j (by omega)]
    by_cases h : hdS v j = b
    · rw [if_pos h, if_pos (by rw [g1, h]), jnS_hd hv (by omega) hb a (by omega), hda, if_neg (by omega)]
      exact ⟨rfl, by omega, rfl⟩
    · rw [if_neg h, if_neg (fun z => h (by rw [g1] at z; exact (nI_eq (by omega) (by omega)).mp z)), jnS_hd hv (by omega) hb _ g2, g3, if_neg h]
      exact ⟨g1, g2, rfl⟩
  · have := hv.2.2.1 j h1 h2
    rw [jnS_v (by omega) j h2, this, if_neg (fun z => by have e := nI_nm1 (n := b) (by omega); rw [← z] at e; exact cast e rfl)]
  · rw [jnS_m (by omega) (by omega)]
    obtain ⟨m, m1, m2, m3⟩ := hv.2.2.2 j hj
    by_cases c : j = a
    · obtain ⟨n, n1, n2, n3⟩ := hv.2.2.2 a (by omega)
      obtain ⟨p, p1, p2, p3⟩ := hv.2.2.2 b hb
      rw [if_pos c, n3, p3, nI_add, jmin_nI (by omega) (by omega)]
      exact ⟨min 99 (n + p), by omega, by omega, rfl⟩
    · rw [if_neg c]; exact ⟨m, m1, m2, m3⟩
theorem fc_b1L {i a b : Nat} {v : Nat → Int32} (hb : b < 6) : ∀ (m k fu : Nat) (s : S2), k + m = 6 → m < fu → s.1 21 i = h1S v a b k → ∃ s', f_State_becomeOne_L59 i fu (nI a) (nI b) (nI k) s = some s' ∧ s'.1 21 i = h1S v a b 6 ∧ Fr (fun c j _ => c == 21 && j == i) s s' := by
  intro m
  induction m with
  | zero =>
    intro k fu s hk hf hs
    obtain ⟨f, rfl, hf'⟩ := suc_of hf
    have e : k = 6 := by omega
    subst e
    refine ⟨s, ?_, hs, Fr.refl _ _⟩
    show b_State_becomeOne_L59 i _ _ _ _ _ = _
    unfold b_State_becomeOne_L59
    rw [of_6, if_pos (nI_le (by omega) (by omega))]
  | succ m ih =>
    intro k fu s hk hf hs
    obtain ⟨f, rfl, hf'⟩ := suc_lt hf
    have hvk : s.1 21 i (18 + k) = v (18 + k) := by rw [hs, h1S_k k (by omega), if_neg (by omega)]
    show ∃ s', b_State_becomeOne_L59 i _ _ _ _ _ = _ ∧ _
    unfold b_State_becomeOne_L59 f_State_becomeOne_L91
    rw [of_6, if_neg (nI_ge (by omega) (by omega)), of_18, nI_add, ix_nI (by omega) (by omega), Option.bind_some, Option.bind_some, hvk, of_1, nI_add, Option.bind_some]
    by_cases c : v (18 + k) = nI b
    · rw [if_pos c]
      have F : Fr (fun c j _ => c == 21 && j == i) s (pkS s 21 i (18 + k) (nI a)) := Fr.pk (by simp) s _
      obtain ⟨s', g1, g2, g3⟩ := ih (k + 1) f (pkS s 21 i (18 + k) (nI a)) (by omega) hf' (by
        rw [pkS_same, hs]
        show _ = if v (18 + k) = nI b then _ else _
        rw [if_pos c])
      exact ⟨s', g1, g2, F.trans g3⟩
    · rw [if_neg c]
      exact ih (k + 1) f s (by omega) hf' (by
        rw [hs]
        show _ = if v (18 + k) = nI b then _ else _
        rw [if_neg c])
theorem K21_KP {i c j k : Nat} (h : KP i c j k = false) : (c == 21 && j == i) = false := by
  unfold KP at h
  simp only [Bool.or_eq_false_iff] at h
  exact h.2.1
theorem fc_becomeOne {s : S2} {i a b : Nat} {sc : Int32} (ha : a < 6) (hb : b < 6) : ∃ s', f_State_becomeOne i (nI a) (nI b) sc s = some s' ∧ s'.1 21 i = h1S (upd (upd (s.1 21 i) (12 + a) (jmin (nI 99) (s.1 21 i (12 + a) + s.1 21 i (12 + b)))) (24 + a) (s.1 21 i (24 + a) + (s.1 21 i (24 + b) + sc))) a b 6 ∧ Fr (fun c j _ => c == 21 && j == i) s s' := by
  have F : Fr (fun c j _ => c == 21 && j == i) s (pkS (pkS s 21 i (12 + a) (jmin (nI 99) (s.1 21 i (12 + a) + s.1 21 i (12 + b)))) 21 i (24 + a) (s.1 21 i (24 + a) + (s.1 21 i (24 + b) + sc))) := ((Fr.refl _ _).pk' _ (by simp)).pk' _ (by simp)
  obtain ⟨s', g1, g2, g3⟩ := fc_b1L (i := i) (a := a) (b := b) (v := upd (upd (s.1 21 i) (12 + a) (jmin (nI 99) (s.1 21 i (12 + a) + s.1 21 i (12 + b)))) (24 + a) (s.1 21 i (24 + a) + (s.1 21 i (24 + b) + sc))) hb 6 0 FU (pkS (pkS s 21 i (12 + a) (jmin (nI 99) (s.1 21 i (12 + a) + s.1 21 i (12 + b)))) 21 i (24 + a) (s.1 21 i (24 + a) + (s.1 21 i (24 + b) + sc))) (by omega) (lt_FU (by omega)) (by rw [pkS_same, pkS_same]; rfl)
  refine ⟨s', ?_, g2, F.trans g3⟩
  rw [← g1]
  unfold f_State_becomeOne
  rw [of_12, of_24, of_99, of_0, nI_0, nI_add, nI_add, nI_add, nI_add, ix_nI (n := 49) (k := 12 + a) (by omega) (by omega), Option.bind_some, ix_nI (n := 49) (k := 12 + b) (by omega) (by omega), Option.bind_some, Option.bind_some, Option.bind_some, ix_nI (n := 49) (k := 24 + a) (by omega) (by omega), Option.bind_some, ix_nI (n := 49) (k := 24 + b) (by omega) (by omega), Option.bind_some, Option.bind_some, Option.bind_some, pkS_same, upd_ne _ _ (show ¬ 24 + a = 12 + a by omega), upd_ne _ _ (show ¬ 24 + b = 12 + a by omega)]
theorem fc_joinTwo {s : S2} {i a b I T B : Nat} {W : Option WF6} {on : Nat → Bool} {x : XT} {e : Nat} {w u : Nat → Int32} (hv : VS I (s.1 21 i)) (hX : CX I T B W on x e w s) (hab : a < b) (hb : b < I) (hA : isH I u a = true) (hB : isH I u b = true) (hW : WK I u 6 s) : ∃ s', f_Course_joinTwo i (nI a) (nI b) s = some s' ∧ s'.1 21 i = jnS w u (s.1 21 i) a b ∧ Fr (fun c j _ => c == 21 && j == i) s s' := by
  have h6 := hv.1
  obtain ⟨w1, w2⟩ := hW a (by omega) hA
  obtain ⟨w3, w4⟩ := hW b (by omega) hB
  have hw := hX.2.1
  have key := fun sc : Int32 => fc_becomeOne (i := i) (s := s) (a := a) (b := b) (sc := sc) (by omega) (by omega)
  unfold f_Course_joinTwo f_Course_joinTwo_L60 f_Course_joinTwo_L75
  rw [ix_nI (n := 6) (k := a) (by omega) (by omega), Option.bind_some, ix_nI (n := 6) (k := b) (by omega) (by omega), Option.bind_some, Option.bind_some, Option.bind_some, fc_apart hv (show a < I by omega) hb, Option.bind_some, w1, w2, w3, w4, of_3, fc_ofWater (by omega), Option.bind_some, hw, of_0, if_pos rfl, of_1, if_neg (show ¬ nI 1 = 0 by decide)]
  unfold jnS scS
  by_cases c : (jabs (u a - u b) + jabs (u (6 + a) - u (6 + b))) - apS (s.1 21 i) a b ≤ w 3
  · rw [if_pos c, if_pos c]
    obtain ⟨s', g1, g2, g3⟩ := key 0
    exact ⟨s', by rw [g1, Option.bind_some], g2, g3⟩
  · rw [if_neg c, if_neg c]
    obtain ⟨s', g1, g2, g3⟩ := key (nI 1)
    exact ⟨s', by rw [g1, Option.bind_some], g2, g3⟩
/-- what one try of the class does -/
def tjS (I : Nat) (w u v : Nat → Int32) : Option (Nat × Nat) → (Nat → Int32)
  | none => v
  | some q => jnS w u v q.1 q.2
theorem fc_jL {i I T B : Nat} {W : Option WF6} {on : Nat → Bool} {x : XT} {e : Nat} {w u : Nat → Int32} {s : S2} (hv : VS I (s.1 21 i)) (hX : CX I T B W on x e w s) (hW : WK I u 6 s) (hu : ∀ a, a < 6 → isH I (s.1 21 i) a = true → isH I u a = true) (K : Int32 → Int32 → S2 → Option (S2 × Bool)) {a : Nat} (ha : a < 6) : ∀ (m b fu : Nat), b + m = 6 → a < b → m < fu → (match fbS I w (s.1 21 i) a m b with
    | some c => ∃ s', f_Course_joinFirstPair_L22 i K fu (w 1) (nI a) (nI b) s = some (s', true) ∧ s'.1 21 i = jnS w u (s.1 21 i) a c ∧ Fr (fun c j _ => c == 21 && j == i) s s'
    | none => f_Course_joinFirstPair_L22 i K fu (w 1) (nI a) (nI b) s = K (w 1) (nI (a + 1)) s) := by
  intro m
  induction m with
  | zero =>
    intro b fu hb hab hf
    obtain ⟨f, rfl, hf'⟩ := suc_of hf
    show b_Course_joinFirstPair_L22 i _ _ _ _ _ _ = _
    unfold b_Course_joinFirstPair_L22 f_Course_joinFirstPair_L73
    rw [of_6, if_pos (nI_le (by omega) (by omega)), of_1, nI_add]
  | succ m ih =>
    intro b fu hb hab hf
    obtain ⟨f, rfl, hf'⟩ := suc_lt hf
    have h6 := hv.1
    have hrec := ih (b + 1) f (by omega) (by omega) hf'
    have hun : f_Course_joinFirstPair_L22 i K (f + 1) (w 1) (nI a) (nI b) s = b_Course_joinFirstPair_L22 i K (f_Course_joinFirstPair_L22 i K f) (w 1) (nI a) (nI b) s := rfl
    rw [hun]
    unfold b_Course_joinFirstPair_L22 f_Course_joinFirstPair_L73 f_Course_joinFirstPair_L67
    rw [of_6, if_neg (nI_ge (by omega) (by omega)), fc_isHead hv ha, Option.bind_some, fc_isHead hv (by omega), Option.bind_some, of_1, nI_add, nI_add]
    cases h1 : isH I (s.1 21 i) a with
    | false =>
      have hn : ∀ c, neS I w (s.1 21 i) a c = false := fun c => by unfold neS; rw [h1]; rfl
      rw [fbS_f (hn b), fbS_none fun c _ _ => hn c, if_pos (by decide)]
    | true =>
      rw [if_neg (by decide)]
      cases h2 : isH I (s.1 21 i) b with
      | false =>
        have hn : neS I w (s.1 21 i) a b = false := by unfold neS; rw [h1, h2]; rfl
        rw [fbS_f hn, if_pos (by decide)]
        exact hrec
      | true =>
        rw [if_neg (by decide), fc_apart hv (isH_lt h1) (isH_lt h2), Option.bind_some]
        by_cases c : apS (s.1 21 i) a b ≤ w 1
        · have hn : neS I w (s.1 21 i) a b = true := by unfold neS; rw [h1, h2, decide_eq_true c]; rfl
          rw [fbS_t hn, if_neg (Int32.not_lt.mpr c)]
          obtain ⟨s', g1, g2, g3⟩ := fc_joinTwo (u := u) hv hX hab (isH_lt h2) (hu a ha h1) (hu b (by omega) h2) hW
          exact ⟨s', by rw [g1, Option.bind_some], g2, g3⟩
        · have hn : neS I w (s.1 21 i) a b = false := by unfold neS; rw [h1, h2, decide_eq_false c]; rfl
          rw [fbS_f hn, if_pos (Int32.not_le.mp c)]
          exact hrec
theorem fc_jA {i I T B : Nat} {W : Option WF6} {on : Nat → Bool} {x : XT} {e : Nat} {w u : Nat → Int32} {s : S2} (hv : VS I (s.1 21 i)) (hX : CX I T B W on x e w s) (hW : WK I u 6 s) (hu : ∀ a, a < 6 → isH I (s.1 21 i) a = true → isH I u a = true) : ∀ (m a fu : Nat), a + m = 6 → m < fu → ∃ s', f_Course_joinFirstPair_L11 i fu (w 1) (nI a) s = some (s', (faS I w (s.1 21 i) m a).isSome) ∧ s'.1 21 i = tjS I w u (s.1 21 i) (faS I w (s.1 21 i) m a) ∧ Fr (fun c j _ => c == 21 && j == i) s s' := by
  intro m
  induction m with
  | zero =>
    intro a fu hb hf
    obtain ⟨f, rfl, hf'⟩ := suc_of hf
    refine ⟨s, ?_, rfl, Fr.refl _ _⟩
    show b_Course_joinFirstPair_L11 i _ _ _ _ = _
    unfold b_Course_joinFirstPair_L11
    rw [of_6, if_pos (nI_le (by omega) (by omega))]
    rfl
  | succ m ih =>
    intro a fu hb hf
    obtain ⟨f, rfl, hf'⟩ := suc_lt hf
    have hrec := ih (a + 1) f (by omega) hf'
    have hin := fc_jL hv hX hW hu (f_Course_joinFirstPair_L11 i f) (show a < 6 by omega) (5 - a) (a + 1) FU (by omega) (by omega) (lt_FU (by omega))
    show ∃ s', b_Course_joinFirstPair_L11 i _ _ _ _ = _ ∧ _
    unfold b_Course_joinFirstPair_L11
    rw [of_6, if_neg (nI_ge (by omega) (by omega)), of_1, nI_add]
    unfold faS
    cases hb : fbS I w (s.1 21 i) a (5 - a) (a + 1) with
    | some c =>
      rw [hb] at hin
      obtain ⟨s', g1, g2, g3⟩ := hin
      exact ⟨s', g1, g2, g3⟩
    | none =>
      rw [hb] at hin
      rw [hin]
      exact hrec
theorem fc_joinFirstPair {i I T B : Nat} {W : Option WF6} {on : Nat → Bool} {x : XT} {e : Nat} {w u : Nat → Int32} {s : S2} (hv : VS I (s.1 21 i)) (hX : CX I T B W on x e w s) (hW : WK I u 6 s) (hu : ∀ a, a < 6 → isH I (s.1 21 i) a = true → isH I u a = true) : ∃ s', f_Course_joinFirstPair i s = some (s', (npS I w (s.1 21 i)).isSome) ∧ s'.1 21 i = tjS I w u (s.1 21 i) (npS I w (s.1 21 i)) ∧ Fr (fun c j _ => c == 21 && j == i) s s' := by
  unfold f_Course_joinFirstPair
  rw [of_1, fc_ofWater (by omega), Option.bind_some, hX.2.1, of_0, ← nI_0]
  exact fc_jA hv hX hW hu 6 0 FU (by omega) (lt_FU (by omega))
