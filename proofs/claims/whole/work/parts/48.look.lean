/-! ===== calls that look, and calls by hand ===== -/
theorem ne_inS {x : Int32} {lo hi k : Nat} (h : inS x (nI lo) (nI hi) = false) (h1 : lo ≤ k) (h2 : k ≤ hi) (h3 : hi < 2 ^ 31) : ¬ x = nI k := by
  intro e
  rw [e, inS_of h1 h2 h3] at h
  cases h
theorem bI_f {b : Bool} (h : b = false) : bI b = 0 := by rw [h]; rfl
theorem bI_t {b : Bool} (h : b = true) : ¬ bI b = 0 := by rw [h]; decide
theorem ifT {α : Type} {a b : α} : (if bI true = 0 then a else b) = b := if_neg (by decide)
theorem ifF {α : Type} {a b : α} : (if bI false = 0 then a else b) = a := if_pos rfl
section
variable {I T B R : Nat} {W : Option WF6} {s : S2}
theorem v_isle (h : INV I T B R W s) (x : Int32) : g_D_isIsle x s = inS x 0 (nI I - nI 1) ∧ g_M_isIsle x s = inS x 0 (nI I - nI 1) := by
  unfold g_D_isIsle g_M_isIsle
  rw [g_D_isWithin_eq, g_M_in_eq, show g_Sea_isles 0 s = nI I from h.1.2.2.2.1.1, h.1.2.2.2.2.2.1.1, of_0, of_1]
  exact ⟨rfl, rfl⟩
theorem v_tie (h : INV I T B R W s) (x : Int32) : g_D_isTie x s = inS x 0 (nI T - nI 1) ∧ g_M_isTie x s = inS x 0 (nI T - nI 1) := by
  unfold g_D_isTie g_M_isTie
  rw [g_D_isWithin_eq, g_M_in_eq, show g_Sea_ties 0 s = nI T from h.1.2.2.2.1.2.1, h.1.2.2.2.2.2.1.2.1, of_0, of_1]
  exact ⟨rfl, rfl⟩
theorem v_bridge (h : INV I T B R W s) (x : Int32) : g_D_isBridge x s = inS x 0 (nI B - nI 1) ∧ g_M_in x (Int32.ofInt 0) ((s.1 60 0 30) - (Int32.ofInt 1)) s = inS x 0 (nI B - nI 1) := by
  unfold g_D_isBridge
  rw [g_D_isWithin_eq, g_M_in_eq, show g_Sea_bridges 0 s = nI B from h.1.2.2.2.1.2.2, h.1.2.2.2.2.2.1.2.2, of_0, of_1]
  exact ⟨rfl, rfl⟩
theorem v_areTwo (h : INV I T B R W s) (x y : Int32) : g_M_areTwo x y s = g_D_areTwo x y s ∧ (g_D_areTwo x y s = true → ∃ a b : Nat, a < I ∧ b < I ∧ ¬ a = b ∧ x = nI a ∧ y = nI b) := by
  have h6 := h.1.2.2.1.1.1
  unfold g_M_areTwo g_D_areTwo
  rw [(v_isle h x).1, (v_isle h x).2, (v_isle h y).1, (v_isle h y).2]
  refine ⟨rfl, fun hh => ?_⟩
  cases c1 : inS x 0 (nI I - nI 1) with
  | false => rw [c1, ifF] at hh; cases hh
  | true =>
    cases c2 : inS y 0 (nI I - nI 1) with
    | false => rw [c1, ifT, c2, ifF] at hh; cases hh
    | true =>
      obtain ⟨a, a1, a2⟩ := inS_nI c1 (by omega)
      obtain ⟨b, b1, b2⟩ := inS_nI c2 (by omega)
      refine ⟨a, b, a1, b1, fun e => ?_, a2, b2⟩
      rw [c1, ifT, c2, ifT, a2, b2, e, if_pos rfl] at hh
      cases hh
theorem v_hasSea (h : INV I T B R W s) : g_D_hasSea s = decide (¬ I = 0) := by
  have h6 := h.1.2.2.1.1.1
  unfold g_D_hasSea
  rw [show g_Sea_isles 0 s = nI I from h.1.2.2.2.1.1]
  by_cases c : I = 0
  · rw [c, nI_0, if_pos (by decide)]; rfl
  · rw [if_neg (nI_nle (by omega) (by omega))]; simp [c]
theorem q_far (h : INV I T B R W s) (x y : Int32) : ∃ r, f_D_far x y s = some r ∧ f_M_far x y s = some r := by
  have h6 := h.1.2.2.1.1.1
  unfold f_D_far f_M_far
  rw [(v_isle h x).1, (v_isle h x).2, (v_isle h y).1, (v_isle h y).2]
  cases c1 : inS x 0 (nI I - nI 1) with
  | false => exact ⟨_, by rw [ifF], by rw [ifF]⟩
  | true =>
    cases c2 : inS y 0 (nI I - nI 1) with
    | false => exact ⟨_, by rw [ifT, ifF], by rw [ifT, ifF]⟩
    | true =>
      obtain ⟨a, a1, rfl⟩ := inS_nI c1 (by omega)
      obtain ⟨b, b1, rfl⟩ := inS_nI c2 (by omega)
      rw [ifT, ifT, ifT, ifT, fc_apart h.1.2.2.2.2.1 a1 b1, fm_farOf h.1.2.2.2.2.1 h.1.2.2.2.2.2.2.2.2 a1 b1]
      exact ⟨_, rfl, rfl⟩
theorem q_bridge (h : INV I T B R W s) (x y : Int32) : ∃ r, f_D_bridge x y s = some r ∧ f_M_bridge x y s = some r := by
  have h4 := h.1.2.2.1.1.2.2
  unfold f_D_bridge f_M_bridge
  rw [(v_bridge h x).1, (v_bridge h x).2, g_M_in_eq]
  cases c1 : inS x 0 (nI B - nI 1) with
  | false => exact ⟨_, by rw [ifF], by rw [ifF]⟩
  | true =>
    obtain ⟨b, b1, rfl⟩ := inS_nI c1 (by omega)
    rw [ifT, ifT]
    have hbr := h.1.2.2.2.2.2.2.1.2.2.2.2 b b1
    obtain ⟨m, m1, m2, m3⟩ := h.1.2.2.2.2.2.2.2.2.2.2.1
    cases c2 : inS y (nI 0) (nI 3) with
    | false =>
      rw [show Int32.ofInt 0 = nI 0 from of_0, of_3, c2, ifF, of_1, of_2, if_neg (ne_inS c2 (by omega) (by omega) (by omega)), if_neg (ne_inS c2 (by omega) (by omega) (by omega)), if_neg (ne_inS c2 (by omega) (by omega) (by omega)), if_neg (ne_inS c2 (by omega) (by omega) (by omega))]
      exact ⟨_, rfl, rfl⟩
    | true =>
      obtain ⟨k, k1, k2, rfl⟩ := inS_lit c2 (by omega) (by omega)
      rw [show Int32.ofInt 0 = nI 0 from of_0, of_3, c2, ifT, of_1, of_2, m2, g_M_has_nI (by omega) (by omega), fc_stands (by omega), Option.bind_some, mul_nI, nI_add, fc_ofBridge (a := b) (k := 0) (by omega) (by omega), fc_ofBridge (a := b) (k := 1) (by omega) (by omega), fc_ofBridge (a := b) (k := 2) (by omega) (by omega)]
      match k, k2 with
      | 0, _ => exact ⟨_, by rw [if_pos rfl]; rfl, by rw [if_neg (by decide), ix_nI (by omega) (by omega), Option.bind_some, hbr 0 (by omega)]⟩
      | 1, _ => exact ⟨_, by rw [if_neg (by decide), if_pos rfl]; rfl, by rw [if_neg (by decide), ix_nI (by omega) (by omega), Option.bind_some, hbr 1 (by omega)]⟩
      | 2, _ => exact ⟨_, by rw [if_neg (by decide), if_neg (by decide), if_pos rfl]; rfl, by rw [if_neg (by decide), ix_nI (by omega) (by omega), Option.bind_some, hbr 2 (by omega)]⟩
      | 3, _ =>
        rcases m3 b b1 with ⟨q1, q2⟩ | ⟨q1, q2⟩
        · rw [q1, q2]
          exact ⟨nI 1, by rw [if_neg (by decide), if_neg (by decide), if_neg (by decide), if_pos rfl]; rfl, by rw [if_pos (by decide)]; rfl⟩
        · rw [q1, q2]
          exact ⟨nI 0, by rw [if_neg (by decide), if_neg (by decide), if_neg (by decide), if_pos rfl]; rfl, by rw [if_pos (by decide)]; rfl⟩
theorem q_tie (h : INV I T B R W s) (x y : Int32) : ∃ s1 r s2, f_D_tie x y s = some (s1, r) ∧ f_M_tie x y s1 = some (s2, r) ∧ INV I T B R W s2 := by
  have h8 := h.1.2.2.1.1.2.1
  by_cases hc : inS x 0 (nI T - nI 1) = true ∧ inS y (nI 0) (nI 4) = true
  · obtain ⟨c1, c2⟩ := hc
    obtain ⟨t, t1, rfl⟩ := inS_nI c1 (by omega)
    obtain ⟨k, k1, k2, rfl⟩ := inS_lit c2 (by omega) (by omega)
    obtain ⟨u1, u2, u3⟩ := h.1.2.2.2.2.2.2.1.1 t t1
    obtain ⟨e1, e2, e3, e4⟩ := h.1.2.2.1.2.1 t t1
    have eK := h.1.2.2.2.2.2.2.2.2.2.1 t t1
    unfold f_D_tie f_M_tie
    rw [(v_tie h (nI t)).1, c1, ifT, show Int32.ofInt 0 = nI 0 from of_0, of_1, of_2, of_3, of_4, fc_ofTie (a := t) (k := 0) (by omega) (by omega), fc_ofTie (a := t) (k := 1) (by omega) (by omega), fc_ofTie (a := t) (k := 3) (by omega) (by omega), fc_kindOf (by omega)]
    match k, k2 with
    | 0, _ => exact ⟨s, _, s, by rw [if_pos rfl]; rfl, by rw [(v_tie h (nI t)).2, c1, ifT, g_M_in_eq, c2, ifT, if_neg (by decide), mul_nI, nI_add, ix_nI (by omega) (by omega), Option.bind_some, Nat.add_zero, u1, Nat.add_zero], h⟩
    | 1, _ => exact ⟨s, _, s, by rw [if_neg (by decide), if_pos rfl]; rfl, by rw [(v_tie h (nI t)).2, c1, ifT, g_M_in_eq, c2, ifT, if_neg (by decide), mul_nI, nI_add, ix_nI (by omega) (by omega), Option.bind_some, u2], h⟩
    | 2, _ => exact ⟨s, _, s, by rw [if_neg (by decide), if_neg (by decide), if_pos rfl]; rfl, by rw [(v_tie h (nI t)).2, c1, ifT, g_M_in_eq, c2, ifT, if_neg (by decide), mul_nI, nI_add, ix_nI (by omega) (by omega), Option.bind_some, eK], h⟩
    | 3, _ => exact ⟨s, _, s, by rw [if_neg (by decide), if_neg (by decide), if_neg (by decide), if_pos rfl]; rfl, by rw [(v_tie h (nI t)).2, c1, ifT, g_M_in_eq, c2, ifT, if_neg (by decide), mul_nI, nI_add, ix_nI (by omega) (by omega), Option.bind_some, u3], h⟩
    | 4, _ =>
      obtain ⟨s1, a1, a2⟩ := fc_pullOf (i := 0) (a := ta (s.1 14 0) t) (b := tb (s.1 14 0) t) (k := s.1 21 0 (30 + t)) (st := s.1 14 0 ((7 + t) * 8 + 3)) (W := W) h.1.2.2.2.2.1 e2 e4 (HLD_HC h.2.1)
      have F1 : Fr KS s s1 := a2.mono fun c i k hk => by
        unfold KS at hk
        unfold KLt
        simp only [Bool.or_eq_false_iff, Bool.and_eq_false_iff] at hk ⊢
        refine ⟨hk.1, ?_⟩
        cases hq : c == 32 with
        | false => rfl
        | true =>
          have := eq_of_beq hq
          subst this
          rcases hk.2.2.2.1 with z | z <;> cases z
      have h1 := INV_KS h F1
      have e14 : s1.1 14 0 = s.1 14 0 := F1.arr fun _ => rfl
      have e21 : s1.1 21 0 = s.1 21 0 := F1.arr fun _ => rfl
      obtain ⟨v1, v2, v3⟩ := h1.1.2.2.2.2.2.2.1.1 t t1
      rw [e14] at v1 v2 v3
      have eK1 := h1.1.2.2.2.2.2.2.2.2.2.1 t t1
      rw [e21] at eK1
      obtain ⟨s2, b1, b2⟩ := fm_pullOf (W := W) h1.1.2.2.2.2.1 h1.1.2.2.2.2.2.2.2.2 (show t < 11 by omega) e2 e4 (v1.trans e1) (v2.trans e3) (HLD_HM h1.2.2.2.1.1 h1.2.1)
      rw [e21, ← eK1, v3] at b1
      refine ⟨s1, plS W (s.1 21 0) (ta (s.1 14 0) t) (tb (s.1 14 0) t) (s.1 21 0 (30 + t)) (s.1 14 0 ((7 + t) * 8 + 3)), s2, ?_, ?_, ?_⟩
      · rw [if_neg (by decide), if_neg (by decide), if_neg (by decide), if_neg (by decide), if_pos rfl]
        unfold f_Course_pullOfTold
        rw [show Int32.ofInt 0 = nI 0 from of_0, of_1, of_3, fc_ofTie (a := t) (k := 0) (by omega) (by omega), Option.bind_some, fc_ofTie (a := t) (k := 1) (by omega) (by omega), Option.bind_some, fc_kindOf (by omega), Option.bind_some, fc_ofTie (a := t) (k := 3) (by omega) (by omega), Option.bind_some, Nat.add_zero, e1, e3, a1]
        rfl
      · rw [(v_tie h1 (nI t)).2, c1, ifT, g_M_in_eq, c2, ifT, if_pos (by decide), b1]
        rfl
      · refine INV_MS h1 (b2.mono fun c i k hk => ?_) (RS_MD h1.1.2.2.2.2.2.2.2.2 (b2.mono fun _ _ _ => MD_MLt)) ((b2.1 _ _ _ rfl).trans h1.1.2.2.2.2.2.2.2.1.1) ((b2.1 _ _ _ rfl).trans h1.1.2.2.2.2.2.2.2.1.2)
        unfold MS at hk
        unfold MLt
        simp only [Bool.or_eq_false_iff] at hk ⊢
        exact ⟨hk.2.1.1, hk.2.1.2.1⟩
  · have key : f_D_tie x y s = some (s, Int32.ofInt (-1000000)) ∧ f_M_tie x y s = some (s, Int32.ofInt (-1000000)) := by
      unfold f_D_tie f_M_tie
      rw [(v_tie h x).1, (v_tie h x).2, g_M_in_eq]
      cases c1 : inS x 0 (nI T - nI 1) with
      | false => exact ⟨by rw [ifF], by rw [ifF]⟩
      | true =>
        have c2 : inS y (nI 0) (nI 4) = false := by
          cases q : inS y (nI 0) (nI 4) with
          | false => rfl
          | true => exact absurd ⟨c1, q⟩ hc
        rw [ifT, ifT, show Int32.ofInt 0 = nI 0 from of_0, of_4, c2, of_1, of_2, of_3, if_neg (ne_inS c2 (by omega) (by omega) (by omega)), if_neg (ne_inS c2 (by omega) (by omega) (by omega)), if_neg (ne_inS c2 (by omega) (by omega) (by omega)), if_neg (ne_inS c2 (by omega) (by omega) (by omega)), if_neg (ne_inS c2 (by omega) (by omega) (by omega)), ifF]
        exact ⟨rfl, rfl⟩
    exact ⟨s, _, s, key.1, key.2, h⟩
end
