/-! ===== which become one: the reference ===== -/
theorem faS_none {I : Nat} {w v : Nat → Int32} : ∀ (m a : Nat), a + m = 6 → (∀ b c, a ≤ b → b < 6 → neS I w v b c = false) → faS I w v m a = none
  | 0, _, _, _ => rfl
  | m + 1, a, hm, h => by
    unfold faS
    rw [fbS_none fun c _ _ => h a c (Nat.le_refl a) (by omega)]
    exact faS_none m (a + 1) (by omega) fun b c h1 h2 => h b c (by omega) h2
def cdP : Option (Nat × Nat) → Int32
  | none => -1
  | some q => nI (10 * q.1 + q.2)
theorem neS_ge {I : Nat} {w v : Nat → Int32} {a b : Nat} (h : I ≤ a ∨ I ≤ b) : neS I w v a b = false := by
  unfold neS
  rcases h with h | h
  · rw [show isH I v a = false by unfold isH; rw [decide_eq_false (show ¬ a < I by omega)]; rfl]; rfl
  · rw [show isH I v b = false by unfold isH; rw [decide_eq_false (show ¬ b < I by omega)]; rfl]
    cases isH I v a <;> rfl
theorem fm_npI {I T B : Nat} {w v : Nat → Int32} {s : S2} (hv : VS I v) (hI : s.1 60 0 28 = nI I) (hr : RS I T B v s) (hw : s.1 75 0 1 = w 1) (K : Int32 → S2 → Option Int32) {a : Nat} (ha : a < I) : ∀ (m b fu : Nat), b + m = I → m < fu → f_M_nearPair_L14 K fu (nI a) (nI b) s = (match fbS I w v a m b with
    | some c => some (nI (10 * a + c))
    | none => K (nI (a + 1)) s) := by
  intro m
  induction m with
  | zero =>
    intro b fu hb hf
    obtain ⟨f, rfl, hf'⟩ := suc_of hf
    have h6 := hv.1
    show b_M_nearPair_L14 _ _ _ _ _ = _
    unfold b_M_nearPair_L14
    rw [hI, if_pos (nI_le (by omega) (by omega)), of_1, nI_add]
    rfl
  | succ m ih =>
    intro b fu hb hf
    obtain ⟨f, rfl, hf'⟩ := suc_lt hf
    have h6 := hv.1
    have hrec := ih (b + 1) f (by omega) hf'
    show b_M_nearPair_L14 _ _ _ _ _ = _
    unfold b_M_nearPair_L14 f_M_nearPair_L60
    rw [hI, if_neg (nI_ge (by omega) (by omega)), fm_isHead hI hv hr (by omega), Option.bind_some, fm_isHead hI hv hr (by omega), Option.bind_some, of_1, nI_add, fm_farOf hv hr ha (by omega), Option.bind_some, hw, of_10, mul_nI, nI_add]
    cases h1 : isH I v a with
    | false =>
      have hn : neS I w v a b = false := by unfold neS; rw [h1]; rfl
      rw [fbS_f hn, if_pos (by decide)]
      exact hrec
    | true =>
      rw [if_neg (by decide)]
      cases h2 : isH I v b with
      | false =>
        have hn : neS I w v a b = false := by unfold neS; rw [h1, h2]; rfl
        rw [fbS_f hn, if_pos (by decide)]
        exact hrec
      | true =>
        rw [if_neg (by decide)]
        by_cases c : apS v a b ≤ w 1
        · have hn : neS I w v a b = true := by unfold neS; rw [h1, h2, decide_eq_true c]; rfl
          rw [fbS_t hn, if_neg (Int32.not_lt.mpr c)]
        · have hn : neS I w v a b = false := by unfold neS; rw [h1, h2, decide_eq_false c]; rfl
          rw [fbS_f hn, if_pos (Int32.not_le.mp c)]
          exact hrec
theorem fbS_cut {I : Nat} {w v : Nat → Int32} {a : Nat} : ∀ (m b : Nat), b + m = I → ∀ n, fbS I w v a (m + n) b = fbS I w v a m b
  | 0, b, hb, n => by
    rw [Nat.zero_add]
    exact fbS_none fun c h1 _ => neS_ge (Or.inr (by omega))
  | m + 1, b, hb, n => by
    rw [show m + 1 + n = (m + n) + 1 by omega]
    cases h : neS I w v a b with
    | true => rw [fbS_t h, fbS_t h]
    | false => rw [fbS_f h, fbS_f h]; exact fbS_cut m (b + 1) (by omega) n
theorem fm_npO {I T B : Nat} {w v : Nat → Int32} {s : S2} (hv : VS I v) (hI : s.1 60 0 28 = nI I) (hr : RS I T B v s) (hw : s.1 75 0 1 = w 1) : ∀ (m a fu : Nat), a + m = I → m < fu → f_M_nearPair_L2 fu (nI a) s = some (cdP (faS I w v (6 - a) a)) := by
  intro m
  induction m with
  | zero =>
    intro a fu ha hf
    obtain ⟨f, rfl, hf'⟩ := suc_of hf
    have h6 := hv.1
    show b_M_nearPair_L2 _ _ _ = _
    unfold b_M_nearPair_L2
    rw [hI, if_pos (nI_le (by omega) (by omega)), faS_none (6 - a) a (by omega) fun b c h1 _ => neS_ge (Or.inl (by omega)), of_m1]
    rfl
  | succ m ih =>
    intro a fu ha hf
    obtain ⟨f, rfl, hf'⟩ := suc_lt hf
    have h6 := hv.1
    have hrec := ih (a + 1) f (by omega) hf'
    show b_M_nearPair_L2 _ _ _ = _
    unfold b_M_nearPair_L2
    rw [hI, if_neg (nI_ge (by omega) (by omega)), of_1, nI_add, fm_npI hv hI hr hw (f_M_nearPair_L2 f) (show a < I by omega) (I - (a + 1)) (a + 1) FU (by omega) (lt_FU (by omega)), show 6 - a = (6 - (a + 1)) + 1 by omega]
    unfold faS
    have hc := fbS_cut (I := I) (w := w) (v := v) (a := a) (I - (a + 1)) (a + 1) (by omega) (6 - I)
    rw [show I - (a + 1) + (6 - I) = 5 - a by omega] at hc
    rw [hc]
    cases fbS I w v a (I - (a + 1)) (a + 1) with
    | some c => rfl
    | none => exact hrec
theorem fm_nearPair {I T B : Nat} {w v : Nat → Int32} {s : S2} (hv : VS I v) (hI : s.1 60 0 28 = nI I) (hr : RS I T B v s) (hw : s.1 75 0 1 = w 1) : f_M_nearPair s = some (cdP (npS I w v)) := by
  unfold f_M_nearPair npS
  rw [of_0, ← nI_0]
  exact fm_npO hv hI hr hw I 0 FU (by omega) (lt_FU (by have := hv.1; omega))
/-- heads as they are written one by one -/
theorem fm_jL {I T B a b : Nat} {v : Nat → Int32} (h6 : I ≤ 6) (hv : ∀ j, j < I → ∃ h : Nat, h < 6 ∧ v (18 + j) = nI h) (hb : b < 6) : ∀ (m k fu : Nat) (s : S2), k + m = I → m < fu → s.1 60 0 28 = nI I → RS I T B (h1S v a b k) s → ∃ s', f_M_join_L99 fu (nI a) (nI b) (nI k) s = some (pkS s' 60 0 50 (s'.1 60 0 50 + nI 1)) ∧ RS I T B (h1S v a b I) s' ∧ Fr (fun c _ _ => c == 82) s s' := by
  intro m
  induction m with
  | zero =>
    intro k fu s hk hf hI hr
    obtain ⟨f, rfl, hf'⟩ := suc_of hf
    have e : k = I := by omega
    subst e
    refine ⟨s, ?_, hr, Fr.refl _ _⟩
    show b_M_join_L99 _ _ _ _ _ = _
    unfold b_M_join_L99
    rw [hI, if_pos (nI_le (by omega) (by omega)), Option.bind_some, of_1]
  | succ m ih =>
    intro k fu s hk hf hI hr
    obtain ⟨f, rfl, hf'⟩ := suc_lt hf
    have hvk : s.1 82 0 k = v (18 + k) := by rw [← (hr.1 k (by omega)).2.2.2.1, h1S_k k (by omega), if_neg (by omega)]
    obtain ⟨hq, hq1, hq2⟩ := hv k (by omega)
    have go : ∀ y : Int32, h1S v a b (k + 1) = upd (h1S v a b k) (18 + k) y → ∃ s', f_M_join_L136 (f_M_join_L99 f) (nI a) (nI b) (nI k) (nI k) y s = some (pkS s' 60 0 50 (s'.1 60 0 50 + nI 1)) ∧ RS I T B (h1S v a b I) s' ∧ Fr (fun c _ _ => c == 82) s s' := by
      intro y hy
      unfold f_M_join_L136
      rw [ix_nI (by omega) (by omega), Option.bind_some, Option.bind_some, of_1, nI_add]
      have F : Fr (fun c _ _ => c == 82) s (pkS s 82 0 k y) := Fr.pk rfl s _
      have hr' : RS I T B (h1S v a b (k + 1)) (pkS s 82 0 k y) := by
        rw [hy]
        obtain ⟨r1, r2, r3, r4⟩ := hr
        refine ⟨fun j hj => ?_, fun t ht => ?_, ?_, ?_⟩
        · obtain ⟨g1, g2, g3, g4, g5, g6⟩ := r1 j hj
          simp only [pkS_v, Nat.reduceEqDiff, false_and, if_false, true_and]
          refine ⟨?_, ?_, ?_, ?_, ?_, ?_⟩
          · rw [upd_ne _ _ (by omega)]; exact g1
          · rw [upd_ne _ _ (by omega)]; exact g2
          · rw [upd_ne _ _ (by omega)]; exact g3
          · by_cases c : j = k
            · rw [c, upd_eq, if_pos rfl]
            · rw [upd_ne _ _ (by omega), if_neg c]; exact g4
          · rw [upd_ne _ _ (by omega)]; exact g5
          · rw [upd_ne _ _ (by omega)]; exact g6
        · rw [upd_ne _ _ (by omega), pkS_v, if_neg (by omega)]; exact r2 t ht
        · obtain ⟨m, m1, m2, m3⟩ := r3
          refine ⟨m, m1, by rw [pkS_v, if_neg (by omega)]; exact m2, fun b hb => by rw [upd_ne _ _ (by omega)]; exact m3 b hb⟩
        · rw [upd_ne _ _ (by omega), pkS_v, if_neg (by omega)]; exact r4
      obtain ⟨s', g1, g2, g3⟩ := ih (k + 1) f (pkS s 82 0 k y) (by omega) hf' ((F.1 _ _ _ rfl).trans hI) hr'
      exact ⟨s', g1, g2, F.trans g3⟩
    show ∃ s', b_M_join_L99 _ _ _ _ _ = _ ∧ _
    unfold b_M_join_L99
    rw [hI, if_neg (nI_ge (by omega) (by omega)), ix_nI (by omega) (by omega), Option.bind_some, Option.bind_some, hvk]
    by_cases c : v (18 + k) = nI b
    · rw [if_pos c]
      exact go (nI a) (by
        show (if v (18 + k) = nI b then _ else _) = _
        rw [if_pos c])
    · rw [if_neg c]
      exact go (v (18 + k)) (by
        show (if v (18 + k) = nI b then _ else h1S v a b k) = _
        rw [if_neg c]
        have := upd_self (h1S v a b k) (18 + k)
        rw [h1S_k k (by omega), if_neg (by omega)] at this
        exact this.symm)
theorem h1S_I {I a b : Nat} {v : Nat → Int32} (hn : ∀ j, I ≤ j → j < 6 → ¬ v (18 + j) = nI b) : ∀ m, I + m ≤ 6 → h1S v a b (I + m) = h1S v a b I
  | 0, _ => rfl
  | m + 1, h => by
    show (if v (18 + (I + m)) = nI b then _ else h1S v a b (I + m)) = _
    rw [if_neg (hn (I + m) (by omega) (by omega))]
    exact h1S_I hn m (by omega)
def KJ (c i k : Nat) : Bool := c == 81 || (c == 82 || (c == 83 || (c == 60 && k == 50)))
theorem fm_join {I T B a b : Nat} {W : Option WF6} {on : Nat → Bool} {x : XT} {e : Nat} {w u v : Nat → Int32} {s : S2} (hv : VS I v) (hX : MX I T B W on x e w s) (hr : RS I T B v s) (hab : a < b) (hb : b < I) (hW : WM9 u I s) : ∃ s', f_M_join (nI a) (nI b) s = some s' ∧ RS I T B (jnS w u v a b) s' ∧ s'.1 60 0 50 = s.1 60 0 50 + nI 1 ∧ Fr KJ s s' := by
  have h6 := hv.1
  have hI := hX.2.1.1
  obtain ⟨w1, w2⟩ := hW a (by omega)
  obtain ⟨w3, w4⟩ := hW b (by omega)
  obtain ⟨ra1, ra2, ra3, ra4, ra5, ra6⟩ := hr.1 a (by omega)
  obtain ⟨rb1, rb2, rb3, rb4, rb5, rb6⟩ := hr.1 b hb
  have key : ∀ sc : Int32, ∃ s', f_M_join_L69 (nI a) (nI b) (nI a) (v (24 + a)) (v (24 + b)) sc s = some s' ∧ RS I T B (h1S (upd (upd v (12 + a) (jmin (nI 99) (v (12 + a) + v (12 + b)))) (24 + a) (v (24 + a) + (v (24 + b) + sc))) a b 6) s' ∧ s'.1 60 0 50 = s.1 60 0 50 + nI 1 ∧ Fr KJ s s' := by
    intro sc
    have F : Fr KJ s (pkS (pkS s 83 0 a (v (24 + a) + (v (24 + b) + sc))) 81 0 a (jmin (nI 99) (v (12 + a) + v (12 + b)))) := ((Fr.refl _ _).pk' _ rfl).pk' _ rfl
    have hr' : RS I T B (upd (upd v (12 + a) (jmin (nI 99) (v (12 + a) + v (12 + b)))) (24 + a) (v (24 + a) + (v (24 + b) + sc))) (pkS (pkS s 83 0 a (v (24 + a) + (v (24 + b) + sc))) 81 0 a (jmin (nI 99) (v (12 + a) + v (12 + b)))) := by
      obtain ⟨r1, r2, r3, r4⟩ := hr
      refine ⟨fun j hj => ?_, fun t ht => ?_, ?_, ?_⟩
      · obtain ⟨g1, g2, g3, g4, g5, g6⟩ := r1 j hj
        simp only [pkS_v, Nat.reduceEqDiff, false_and, if_false, true_and]
        refine ⟨?_, ?_, ?_, ?_, ?_, ?_⟩
        · rw [upd_ne _ _ (by omega), upd_ne _ _ (by omega)]; exact g1
        · rw [upd_ne _ _ (by omega), upd_ne _ _ (by omega)]; exact g2
        · rw [upd_ne _ _ (by omega)]
          unfold upd
          by_cases c : j = a
          · rw [if_pos (by omega), if_pos c]
          · rw [if_neg (by omega), if_neg c]; exact g3
        · rw [upd_ne _ _ (by omega), upd_ne _ _ (by omega)]; exact g4
        · by_cases c : j = a
          · subst c; rw [upd_eq, if_pos rfl]
          · rw [upd_ne _ _ (by omega), upd_ne _ _ (by omega), if_neg c]; exact g5
        · rw [upd_ne _ _ (by omega), upd_ne _ _ (by omega)]; exact g6
      · rw [upd_ne _ _ (by omega), upd_ne _ _ (by omega), pkS_v, if_neg (by omega), pkS_v, if_neg (by omega)]; exact r2 t ht
      · obtain ⟨m, m1, m2, m3⟩ := r3
        exact ⟨m, m1, by rw [pkS_v, if_neg (by omega), pkS_v, if_neg (by omega)]; exact m2, fun b hb => by rw [upd_ne _ _ (by omega), upd_ne _ _ (by omega)]; exact m3 b hb⟩
      · rw [upd_ne _ _ (by omega), upd_ne _ _ (by omega), pkS_v, if_neg (by omega), pkS_v, if_neg (by omega)]; exact r4
    obtain ⟨s', g1, g2, g3⟩ := fm_jL (a := a) (b := b) h6 (fun j hj => by
      obtain ⟨p1, p2, -⟩ := hv.2.1 j hj
      refine ⟨hdS v j, by omega, ?_⟩
      show upd (upd v (12 + a) _) (24 + a) _ (18 + j) = _
      rw [upd_ne _ _ (by omega), upd_ne _ _ (by omega)]; exact p1) (by omega) I 0 FU _ (by omega) (lt_FU (by omega)) ((F.1 _ _ _ rfl).trans hI) hr'
    have e6 : I + (6 - I) = 6 := by omega
    have hh := h1S_I (I := I) (a := a) (b := b) (v := upd (upd v (12 + a) (jmin (nI 99) (v (12 + a) + v (12 + b)))) (24 + a) (v (24 + a) + (v (24 + b) + sc))) (fun j h1 h2 => by
      rw [upd_ne _ _ (by omega), upd_ne _ _ (by omega), hv.2.2.1 j h1 h2]
      intro z
      have e := nI_nm1 (n := b) (by omega)
      rw [← z] at e
      exact cast e rfl) (6 - I) (by omega)
    rw [e6] at hh
    refine ⟨pkS s' 60 0 50 (s'.1 60 0 50 + nI 1), ?_, ?_, ?_, ?_⟩
    · unfold f_M_join_L69
      rw [ix_nI (n := 6) (k := a) (by omega) (by omega), Option.bind_some, Option.bind_some, Option.bind_some, ix_nI (n := 6) (k := b) (by omega) (by omega), Option.bind_some, Option.bind_some, Option.bind_some, of_99, of_0, pkS_v, if_neg (by omega), pkS_v, if_neg (by omega), ← ra3, ← rb3, ← nI_0]
      exact g1
    · rw [hh]
      exact RS_52 g2 (by omega) (by omega) _
    · rw [pkS_v, if_pos ⟨rfl, rfl, rfl⟩, g3.1 _ _ _ rfl, pkS_v, if_neg (by omega), pkS_v, if_neg (by omega)]
    · refine (F.trans (g3.mono fun c i k h => ?_)).pk' _ rfl
      unfold KJ at h
      simp only [Bool.or_eq_false_iff] at h
      exact h.2.1
  unfold f_M_join
  rw [ix_nI (n := 6) (k := a) (by omega) (by omega), Option.bind_some, ix_nI (n := 6) (k := b) (by omega) (by omega), Option.bind_some, Option.bind_some, Option.bind_some, Option.bind_some, Option.bind_some, fm_farOf hv hr (show a < I by omega) hb, Option.bind_some, w1, w2, w3, w4, hX.2.2.1.2.2.1 3 (by omega), of_0, of_1, ← ra5, ← rb5]
  unfold jnS scS
  by_cases c : (jabs (u a - u b) + jabs (u (6 + a) - u (6 + b))) - apS v a b ≤ w 3
  · rw [if_pos c, if_pos c]
    exact key 0
  · rw [if_neg c, if_neg c]
    exact key (nI 1)
