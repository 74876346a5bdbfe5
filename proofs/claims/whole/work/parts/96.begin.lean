/-! ===== a sea begins: the class ===== -/
section
variable {s s0 s' t : S2} {I T : Nat} {w : Nat → Int32}
def BG (I T : Nat) (w : Nat → Int32) (a b : Nat) (v : Nat → Int32) : Prop := (∀ j, j < a → j < I → v j = w ((1 + j) * 8) ∧ v (6 + j) = w ((1 + j) * 8 + 1) ∧ v (12 + j) = w ((1 + j) * 8 + 2) ∧ v (18 + j) = nI j ∧ v (43 + j) = w ((1 + j) * 8 + 7)) ∧ (∀ j, j < a → I ≤ j → v (18 + j) = -1) ∧ (∀ j, j < 6 → v (24 + j) = 0) ∧ v 42 = 0 ∧ ∀ j, j < b → v (30 + j) = w ((7 + j) * 8 + 2)
theorem bg_head {a : Nat} {v : Nat → Int32} (h : BG I T w a 0 v) (ha : a < 6) (hI : a < I) : BG I T w (a + 1) 0 (upd (upd (upd (upd (upd v (18 + a) (nI a)) (0 + a) (w ((1 + a) * 8 + 0))) (6 + a) (w ((1 + a) * 8 + 1))) (12 + a) (w ((1 + a) * 8 + 2))) (43 + a) (w ((1 + a) * 8 + 7))) := by
  obtain ⟨h1, h2, h3, h4, -⟩ := h
  have far : ∀ j, ¬ j = 18 + a → ¬ j = a → ¬ j = 6 + a → ¬ j = 12 + a → ¬ j = 43 + a → upd (upd (upd (upd (upd v (18 + a) (nI a)) (0 + a) (w ((1 + a) * 8 + 0))) (6 + a) (w ((1 + a) * 8 + 1))) (12 + a) (w ((1 + a) * 8 + 2))) (43 + a) (w ((1 + a) * 8 + 7)) j = v j := fun j q1 q2 q3 q4 q5 => by
    rw [upd_ne _ _ q5, upd_ne _ _ q4, upd_ne _ _ q3, upd_ne _ _ (by omega), upd_ne _ _ q1]
  refine ⟨fun j hj hjI => ?_, fun j hj hjI => ?_, fun j hj => ?_, ?_, fun j hj => absurd hj (by omega)⟩
  · by_cases e : j = a
    · subst e
      refine ⟨?_, ?_, ?_, ?_, ?_⟩
      · rw [upd_ne _ _ (by omega), upd_ne _ _ (by omega), upd_ne _ _ (by omega), show upd (upd v (18 + j) (nI j)) (0 + j) (w ((1 + j) * 8 + 0)) j = w ((1 + j) * 8 + 0) by rw [Nat.zero_add]; exact upd_eq _ _ _]
        rfl
      · rw [upd_ne _ _ (by omega), upd_ne _ _ (by omega), upd_eq]
      · rw [upd_ne _ _ (by omega), upd_eq]
      · rw [upd_ne _ _ (by omega), upd_ne _ _ (by omega), upd_ne _ _ (by omega), upd_ne _ _ (by omega), upd_eq]
      · rw [upd_eq]
    · obtain ⟨g1, g2, g3, g4, g5⟩ := h1 j (by omega) hjI
      rw [far j (by omega) (by omega) (by omega) (by omega) (by omega), far (6 + j) (by omega) (by omega) (by omega) (by omega) (by omega), far (12 + j) (by omega) (by omega) (by omega) (by omega) (by omega), far (18 + j) (by omega) (by omega) (by omega) (by omega) (by omega), far (43 + j) (by omega) (by omega) (by omega) (by omega) (by omega)]
      exact ⟨g1, g2, g3, g4, g5⟩
  · rw [far (18 + j) (by omega) (by omega) (by omega) (by omega) (by omega)]
    exact h2 j (by omega) hjI
  · rw [far (24 + j) (by omega) (by omega) (by omega) (by omega) (by omega)]
    exact h3 j hj
  · rw [far 42 (by omega) (by omega) (by omega) (by omega) (by omega)]
    exact h4
theorem bg_none {a : Nat} {v : Nat → Int32} (h : BG I T w a 0 v) (ha : a < 6) (hI : I ≤ a) : BG I T w (a + 1) 0 (upd v (18 + a) (-1)) := by
  obtain ⟨h1, h2, h3, h4, -⟩ := h
  refine ⟨fun j hj hjI => ?_, fun j hj hjI => ?_, fun j hj => ?_, ?_, fun j hj => absurd hj (by omega)⟩
  · rw [upd_ne _ _ (by omega), upd_ne _ _ (by omega), upd_ne _ _ (by omega), upd_ne _ _ (by omega), upd_ne _ _ (by omega)]
    exact h1 j (by omega) hjI
  · by_cases e : j = a
    · rw [e, upd_eq]
    · rw [upd_ne _ _ (by omega)]
      exact h2 j (by omega) hjI
  · rw [upd_ne _ _ (by omega)]
    exact h3 j hj
  · rw [upd_ne _ _ (by omega)]
    exact h4
theorem bg_tie {a b : Nat} {v : Nat → Int32} (h : BG I T w a b v) (ha : a ≤ 6) (hb : b < 8) (x : Int32) (hx : x = w ((7 + b) * 8 + 2)) : BG I T w a (b + 1) (upd v (30 + b) x) := by
  obtain ⟨h1, h2, h3, h4, h5⟩ := h
  refine ⟨fun j hj hjI => ?_, fun j hj hjI => ?_, fun j hj => ?_, ?_, fun j hj => ?_⟩
  · rw [upd_ne _ _ (by omega), upd_ne _ _ (by omega), upd_ne _ _ (by omega), upd_ne _ _ (by omega), upd_ne _ _ (by omega)]
    exact h1 j hj hjI
  · rw [upd_ne _ _ (by omega)]
    exact h2 j hj hjI
  · rw [upd_ne _ _ (by omega)]
    exact h3 j hj
  · rw [upd_ne _ _ (by omega)]
    exact h4
  · by_cases e : j = b
    · rw [e, upd_eq, hx]
    · rw [upd_ne _ _ (by omega)]
      exact h5 j (by omega)
/-- ones from a place on -/
theorem fc_fill2L {c i N : Nat} {x : Int32} {e : Nat} (hN : N < 10000) (he : e ≤ N) : ∀ (m k fu : Nat) (s : S2), k + m = e → m < fu → ∃ s', f_Arrays_fill2_L10 c i N fu (nI e) x (nI k) s = some s' ∧ (∀ j, k ≤ j → j < e → s'.1 c i j = x) ∧ (∀ j, (j < k ∨ e ≤ j) → s'.1 c i j = s.1 c i j) ∧ Fr (Kar c i) s s' := by
  intro m
  induction m with
  | zero =>
    intro k fu s hk hf
    obtain ⟨g, rfl, -⟩ := suc_of hf
    refine ⟨s, ?_, fun j h1 h2 => absurd h2 (by omega), fun _ _ => rfl, Fr.refl _ _⟩
    show b_Arrays_fill2_L10 c i N _ _ _ _ _ = _
    unfold b_Arrays_fill2_L10
    rw [if_pos (nI_le (by omega) (by omega))]
  | succ m ih =>
    intro k fu s hk hf
    obtain ⟨g, rfl, hg⟩ := suc_lt hf
    obtain ⟨s', h1, h2, h3, h4⟩ := ih (k + 1) g (pkS s c i k x) (by omega) hg
    refine ⟨s', ?_, fun j q1 q2 => ?_, fun j q => ?_, (Fr.pk (Kar_self c i k) s x).trans h4⟩
    · show b_Arrays_fill2_L10 c i N _ _ _ _ _ = _
      unfold b_Arrays_fill2_L10
      rw [if_neg (nI_ge (by omega) (by omega)), ix_nI (n := N) (k := k) (by omega) (by omega), Option.bind_some, Option.bind_some, of_1, nI_add]
      exact h1
    · by_cases e1 : j = k
      · rw [e1, h3 k (Or.inl (by omega)), pkS_v, if_pos ⟨rfl, rfl, rfl⟩]
      · exact h2 j (by omega) q2
    · rw [h3 j (by omega), pkS_v, if_neg (by omega)]
theorem fc_beginT (hw : s0.1 14 0 = w) (h8 : T ≤ 8) (hcT : s0.1 15 0 2 = nI T) : ∀ (m b fu : Nat) (t : S2), b + m = T → m < fu → Fr (Kar 21 0) s0 t → BG I T w 6 b (t.1 21 0) → ∃ t', f_State_begin_L120 0 0 fu (nI b) t = some t' ∧ Fr (Kar 21 0) s0 t' ∧ BG I T w 6 T (t'.1 21 0) ∧ ∀ j, j < 4 → t'.1 21 0 (38 + j) = nI 1 := by
  intro m
  induction m with
  | zero =>
    intro b fu t hb hf hF h
    obtain ⟨g, rfl, -⟩ := suc_of hf
    obtain ⟨t', a1, a2, a3, a4⟩ := fc_fill2L (c := 21) (i := 0) (N := 49) (x := nI 1) (e := 42) (by omega) (by omega) 4 38 FU t (by omega) (lt_FU (by omega))
    refine ⟨t', ?_, hF.trans a4, ?_, fun j hj => a2 (38 + j) (by omega) (by omega)⟩
    · show b_State_begin_L120 0 0 _ _ _ = _
      unfold b_State_begin_L120 f_Arrays_fill2 f_Arrays_rangeCheck
      rw [show g_Sea_ties 0 t = nI T from (hF.1 15 0 2 rfl).trans hcT, if_pos (nI_le (by omega) (by omega)), of_38, of_42, of_1, if_pos (show nI 38 ≤ nI 42 from nI_le (by omega) (by omega)), if_pos (show (0 : Int32) ≤ nI 38 from nI_pos' (by omega)), if_pos (show nI 42 ≤ nI 49 from nI_le (by omega) (by omega)), Option.bind_some, a1, Option.bind_some]
    · obtain ⟨h1, h2, h3, h4, h5⟩ := h
      refine ⟨fun j hj hjI => ?_, fun j hj hjI => ?_, fun j hj => ?_, ?_, fun j hj => ?_⟩
      · rw [a3 j (by omega), a3 (6 + j) (by omega), a3 (12 + j) (by omega), a3 (18 + j) (by omega), a3 (43 + j) (by omega)]
        exact h1 j hj hjI
      · rw [a3 (18 + j) (by omega)]; exact h2 j hj hjI
      · rw [a3 (24 + j) (by omega)]; exact h3 j hj
      · rw [a3 42 (by omega)]; exact h4
      · rw [a3 (30 + j) (by omega)]; exact h5 j (by omega)
  | succ m ih =>
    intro b fu t hb hf hF h
    obtain ⟨g, rfl, hg⟩ := suc_lt hf
    obtain ⟨t', a1, a2⟩ := ih (b + 1) g (pkS t 21 0 (30 + b) (t.1 14 0 ((7 + b) * 8 + 2))) (by omega) hg (hF.pk' _ rfl) (by rw [pkS_same]; exact bg_tie h (by omega) (by omega) _ (by rw [hF.arr (c := 14) (i := 0) fun _ => rfl, hw]))
    refine ⟨t', ?_, a2⟩
    show b_State_begin_L120 0 0 _ _ _ = _
    unfold b_State_begin_L120
    rw [show g_Sea_ties 0 t = nI T from (hF.1 15 0 2 rfl).trans hcT, if_neg (nI_ge (by omega) (by omega)), of_2, fc_ofTie (by omega) (by omega), Option.bind_some, of_30, nI_add, ix_nI (n := 49) (k := 30 + b) (by omega) (by omega), Option.bind_some, Option.bind_some, of_1, nI_add]
    exact a1
theorem fc_beginI (hw : s0.1 14 0 = w) (h6 : I ≤ 6) (h8 : T ≤ 8) (hcI : s0.1 15 0 1 = nI I) (hcT : s0.1 15 0 2 = nI T) : ∀ (m a fu : Nat) (t : S2), a + m = 6 → m < fu → Fr (Kar 21 0) s0 t → BG I T w a 0 (t.1 21 0) → ∃ t', f_State_begin_L10 0 0 fu (nI a) t = some t' ∧ Fr (Kar 21 0) s0 t' ∧ BG I T w 6 T (t'.1 21 0) ∧ ∀ j, j < 4 → t'.1 21 0 (38 + j) = nI 1 := by
  intro m
  induction m with
  | zero =>
    intro a fu t ha hf hF h
    obtain ⟨g, rfl, -⟩ := suc_of hf
    show ∃ t', b_State_begin_L10 0 0 _ _ _ = _ ∧ _
    unfold b_State_begin_L10
    rw [of_6, if_pos (nI_le (by omega) (by omega)), show Int32.ofInt 0 = nI 0 from of_0]
    exact fc_beginT hw h8 hcT T 0 FU t (by omega) (lt_FU (by omega)) hF (by rw [show a = 6 by omega] at h; exact h)
  | succ m ih =>
    intro a fu t ha hf hF h
    obtain ⟨g, rfl, hg⟩ := suc_lt hf
    show ∃ t', b_State_begin_L10 0 0 _ _ _ = _ ∧ _
    unfold b_State_begin_L10
    rw [of_6, if_neg (nI_ge (by omega) (by omega)), show g_Sea_isles 0 t = nI I from (hF.1 15 0 1 rfl).trans hcI]
    have e14 : t.1 14 0 = w := (hF.arr (c := 14) (i := 0) fun _ => rfl).trans hw
    by_cases c : a < I
    · rw [if_neg (nI_ge c (by omega))]
      unfold f_State_begin_L29 f_State_begin_L47 f_State_begin_L112
      have n1 : ¬ Int32.ofInt 1 = 0 := by decide
      rw [if_neg n1, of_18, nI_add, ix_nI (n := 49) (k := 18 + a) (by omega) (by omega), Option.bind_some, Option.bind_some, if_neg n1, show Int32.ofInt 0 = nI 0 from of_0, fc_ofIsle (by omega) (by omega), Option.bind_some, nI_add, ix_nI (n := 49) (k := 0 + a) (by omega) (by omega), Option.bind_some, Option.bind_some, of_1, fc_ofIsle (by omega) (by omega), Option.bind_some, of_6, nI_add, ix_nI (n := 49) (k := 6 + a) (by omega) (by omega), Option.bind_some, Option.bind_some, of_2, fc_ofIsle (by omega) (by omega), Option.bind_some, of_12, nI_add, ix_nI (n := 49) (k := 12 + a) (by omega) (by omega), Option.bind_some, Option.bind_some, of_7, fc_ofIsle (by omega) (by omega), Option.bind_some, of_43, nI_add, ix_nI (n := 49) (k := 43 + a) (by omega) (by omega), Option.bind_some, Option.bind_some, nI_add]
      refine ih (a + 1) g _ (by omega) hg (((((hF.pk' _ rfl).pk' _ rfl).pk' _ rfl).pk' _ rfl).pk' _ rfl) ?_
      have o14 : ∀ (u : S2) (k : Nat) (x : Int32), (pkS u 21 0 k x).1 14 0 = u.1 14 0 := fun u k x => by rw [pkS_1, if_neg (by omega)]
      rw [pkS_same, pkS_same, pkS_same, pkS_same, pkS_same]
      simp only [o14]
      rw [e14]
      exact bg_head h (by omega) c
    · rw [if_pos (nI_le (by omega) (by omega))]
      unfold f_State_begin_L29 f_State_begin_L47 f_State_begin_L112
      have n0 : Int32.ofInt 0 = 0 := of_0
      rw [if_pos n0, of_18, nI_add, ix_nI (n := 49) (k := 18 + a) (by omega) (by omega), Option.bind_some, Option.bind_some, if_pos n0, of_1, nI_add, of_m1]
      exact ih (a + 1) g _ (by omega) hg (hF.pk' _ rfl) (by rw [pkS_same]; exact bg_none h (by omega) (by omega))
theorem fc_stBegin (h6 : I ≤ 6) (h8 : T ≤ 8) (hcI : s.1 15 0 1 = nI I) (hcT : s.1 15 0 2 = nI T) : ∃ t', f_State_begin 0 0 s = some t' ∧ Fr (Kar 21 0) s t' ∧ BG I T (s.1 14 0) 6 T (t'.1 21 0) ∧ ∀ j, j < 4 → t'.1 21 0 (38 + j) = nI 1 := by
  obtain ⟨t1, a1, a2, a3⟩ := fc_fill (c := 21) (i := 0) (n := 49) (x := 0) (s := s) (by omega)
  unfold f_State_begin
  rw [show Int32.ofInt 0 = 0 from of_0, a1, Option.bind_some, show (0 : Int32) = nI 0 from nI_0.symm]
  refine fc_beginI rfl h6 h8 hcI hcT 6 0 FU t1 (by omega) (lt_FU (by omega)) a3 ⟨fun j hj => absurd hj (by omega), fun j hj => absurd hj (by omega), fun j hj => a2 _ (by omega), a2 _ (by omega), fun j hj => absurd hj (by omega)⟩
end
