/-! ===== the state now changes on both sides ===== -/
def KN (T c i k : Nat) : Bool := MS T c i k || (KS c i k || (c == 21 && i == 0))
theorem INV_now {I T B R : Nat} {W : Option WF6} {s s' : S2} (h : INV I T B R W s) (hF : Fr (KN T) s s') (hv : VS I (s'.1 21 0)) (hr : RS I T B (s'.1 21 0) s') (h41 : s'.1 60 0 41 = 0) (h42 : s'.1 60 0 42 = 0) (hpr : PR I (s'.1 21 0)) : INV I T B R W s' := by
  obtain ⟨h1, h2, h3, h4, h5, h6, h7, h8⟩ := h
  have e : ∀ c i, (∀ k, KN T c i k = false) → s'.1 c i = s.1 c i := fun c i hk => hF.arr hk
  have e21 : ∀ i, ¬ i = 0 → ¬ i = 2 → ¬ i = 3 → ¬ i = 4 → s'.1 21 i = s.1 21 i := fun i z a b c => e _ _ fun k => by
    unfold KN MS KS
    rw [KR_f (by omega)]
    simp [a, b, c, z]
  have hm : ∀ n, n < R → mruleN n s s' := fun n _ => mruleN_of ⟨e _ _ fun _ => rfl, e _ _ fun _ => rfl, e _ _ fun _ => rfl, e _ _ fun _ => rfl, e _ _ fun _ => rfl, e _ _ fun _ => rfl⟩
  have h8T := h1.2.2.1.1.2.1
  have eK : ∀ c k, ¬ c = 79 ∧ ¬ c = 80 ∧ ¬ c = 81 ∧ ¬ c = 82 ∧ ¬ c = 83 ∧ ¬ (c = 76 ∧ k % 8 = 7) ∧ ¬ (c = 77 ∧ k % 4 = 2) ∧ ¬ c = 60 → ¬ (c = 77 ∧ 4 * T ≤ k) → (c = 75 ∨ c = 76 ∨ c = 77 ∨ c = 78) → s'.1 c 0 k = s.1 c 0 k := fun c k a b d => hF.1 _ _ _ (by
    unfold KN MS
    rw [KR_f (by omega)]
    rcases d with rfl | rfl | rfl | rfl
    · rfl
    · rfl
    · have : Nat.ble (4 * T) k = false := by
        cases hq : Nat.ble (4 * T) k with
        | false => rfl
        | true => exact absurd ⟨rfl, Nat.le_of_ble_eq_true hq⟩ b
      rw [this]; rfl
    · rfl)
  refine ⟨?_, HLD_fr h2 (hF.1 _ _ _ rfl) (hF.1 _ _ _ rfl) (fun n _ => e _ _ fun _ => rfl) (fun n _ => e _ _ fun _ => rfl) hm, ?_, iRule_fr h4 (hF.1 _ _ _ rfl) (hF.1 _ _ _ rfl) (hF.1 _ _ _ rfl) (hF.1 _ _ _ rfl) (fun n _ => e _ _ fun _ => rfl) (fun n _ => e _ _ fun _ => rfl) hm, ?_, ?_, ?_, ?_⟩
  · obtain ⟨g1, g2, g3, g4, g5, g6, g7, -, -⟩ := h1
    have e14 : s'.1 14 0 = s.1 14 0 := e 14 0 fun _ => rfl
    refine ⟨⟨g1.1, hpr⟩, fun hI => ?_, by rw [e14]; exact g3, ?_, hv, ?_, ?_, ⟨h41, h42⟩, hr⟩
    · obtain ⟨q1, q2, q3⟩ := g2 hI
      exact ⟨q1, q2, fun k hk => (eK 75 k (by omega) (by omega) (by omega)).trans (q3 k hk)⟩
    · unfold CN at g4 ⊢
      rw [e 15 0 fun _ => rfl]; exact g4
    · rw [hF.1 60 0 28 rfl, hF.1 60 0 29 rfl, hF.1 60 0 30 rfl]; exact g6
    · obtain ⟨k1, k2, k3, k4, k5⟩ := g7
      rw [e14]
      refine ⟨fun t ht => ?_, fun j hj => by omega, fun k hk => ?_, fun a ha k h1 h2 => ?_, fun b hb k hk => ?_⟩
      · rw [eK 77 (4 * t) (by omega) (by omega) (by omega), eK 77 (4 * t + 1) (by omega) (by omega) (by omega), eK 77 (4 * t + 3) (by omega) (by omega) (by omega)]
        exact k1 t ht
      · rw [eK 75 k (by omega) (by omega) (by omega)]; exact k3 k hk
      · rw [eK 76 (8 * a + k) (by omega) (by omega) (by omega)]; exact k4 a ha k h1 h2
      · rw [eK 78 (3 * b + k) (by omega) (by omega) (by omega)]; exact k5 b hb k hk
  · unfold iTape at h3 ⊢
    rw [e 11 0 fun _ => rfl, e 12 0 fun _ => rfl, hF.1 60 0 2 rfl, e 61 0 fun _ => rfl]
    exact h3
  · obtain ⟨a, p, l, q, g1, g2, g3, g4, g5, g6, g7, g8, g9, g10, g11, g12, g13⟩ := h5
    refine ⟨a, p, l, q, g1, g2, g3, g4, g5, ?_⟩
    rw [e 22 0 fun _ => rfl, hF.1 60 0 55 rfl, hF.1 60 0 57 rfl, e 24 0 fun _ => rfl, e 93 0 fun _ => rfl]
    refine ⟨g6, g7, g8, g9, g10, g11, fun j hj => ?_, g13⟩
    unfold SV
    rw [e21 _ (by omega) (by omega) (by omega) (by omega), e 92 0 fun _ => rfl]
    exact g12 j hj
  · unfold iWea at h6 ⊢
    rw [e 25 0 fun _ => rfl, hF.1 60 0 38 rfl, hF.1 60 0 39 rfl]
    exact h6
  · unfold iImg SV at h7 ⊢
    rw [e 10 0 fun _ => rfl, hF.1 60 0 78 rfl, e21 1 (by omega) (by omega) (by omega) (by omega), e 101 0 fun _ => rfl]
    exact h7
  · unfold iCha at h8 ⊢
    rw [e 49 0 fun _ => rfl, hF.1 60 0 76 rfl, e 50 0 fun _ => rfl, e 51 0 fun _ => rfl, e 52 0 fun _ => rfl, e 53 0 fun _ => rfl, e 97 0 fun _ => rfl, e 98 0 fun _ => rfl, e 99 0 fun _ => rfl, e 100 0 fun _ => rfl]
    exact h8
theorem KN_MS {T c i k : Nat} (h : KN T c i k = false) : MS T c i k = false := (Bool.or_eq_false_iff.mp h).1
theorem KN_KS {T c i k : Nat} (h : KN T c i k = false) : KS c i k = false := (Bool.or_eq_false_iff.mp (Bool.or_eq_false_iff.mp h).2).1
theorem KN_210 (T k : Nat) : KN T 21 0 k = true := by
  unfold KN MS KS
  rw [KR_f (by omega)]
  rfl
theorem KN_77 (T t : Nat) : KN T 77 0 (4 * t + 2) = true := by
  unfold KN MS
  rw [KR_77]
  rfl
theorem KN_76 (T a : Nat) : KN T 76 0 (8 * a + 7) = true := by
  unfold KN MS
  rw [KR_76]
  rfl
section
variable {I T B R : Nat} {W : Option WF6} {s : S2}
theorem q_turn (h : INV I T B R W s) (x : Int32) : ∃ s1 r s2, f_D_turn x s = some (s1, r) ∧ f_M_turn x s1 = some (s2, r) ∧ INV I T B R W s2 := by
  have h8 := h.1.2.2.1.1.2.1
  unfold f_D_turn f_M_turn
  rw [(v_tie h x).1]
  cases c1 : inS x 0 (nI T - nI 1) with
  | false => exact ⟨s, false, s, by rw [ifF], by rw [(v_tie h x).2, c1, ifF], h⟩
  | true =>
    obtain ⟨t, t1, rfl⟩ := inS_nI c1 (by omega)
    have hr := h.1.2.2.2.2.2.2.2.2
    have eK := hr.2.1 t t1
    have hc : g_M_isTie (nI t) (pkS s 21 0 (30 + t) (nI 1 - s.1 21 0 (30 + t))) = true := by
      unfold g_M_isTie
      rw [g_M_in_eq, pkS_v, if_neg (by omega), h.1.2.2.2.2.2.1.2.1, of_0, of_1]
      exact c1
    refine ⟨pkS s 21 0 (30 + t) (nI 1 - s.1 21 0 (30 + t)), true, pkS (pkS s 21 0 (30 + t) (nI 1 - s.1 21 0 (30 + t))) 77 0 (4 * t + 2) (nI 1 - s.1 77 0 (4 * t + 2)), ?_, ?_, ?_⟩
    · rw [ifT]
      unfold f_State_turnKind
      rw [of_30, nI_add, ix_nI (by omega) (by omega), Option.bind_some, Option.bind_some, Option.bind_some, Option.bind_some, of_1]
    · rw [hc, ifT, of_4, mul_nI, of_2, nI_add, ix_nI (n := 44) (k := 4 * t + 2) (by omega) (by omega), Option.bind_some, Option.bind_some, Option.bind_some, of_1, pkS_v, if_neg (by omega)]
    · have e21 : (pkS (pkS s 21 0 (30 + t) (nI 1 - s.1 21 0 (30 + t))) 77 0 (4 * t + 2) (nI 1 - s.1 77 0 (4 * t + 2))).1 21 0 = upd (s.1 21 0) (30 + t) (nI 1 - s.1 21 0 (30 + t)) := by rw [pkS_1, if_neg (by omega), pkS_same]
      refine INV_now h (((Fr.refl _ _).pk' _ (KN_210 T _)).pk' _ (KN_77 T t)) ?_ ?_ ?_ ?_ ?_
      · rw [e21]
        exact VS_of h.1.2.2.2.2.1 fun j h1 h2 => upd_ne _ _ (by omega)
      · rw [e21]
        obtain ⟨r1, r2, ⟨m, m1, m2, m3⟩, r4⟩ := hr
        have h6 := h.1.2.2.1.1.1
        have h4 := h.1.2.2.1.1.2.2
        refine ⟨fun j hj => ?_, fun u hu => ?_, ⟨m, m1, ?_, fun j hj => ?_⟩, ?_⟩
        · obtain ⟨g1, g2, g3, g4, g5, g6⟩ := r1 j hj
          simp only [pkS_v, Nat.reduceEqDiff, false_and, if_false]
          refine ⟨?_, ?_, ?_, ?_, ?_, ?_⟩
          · rw [upd_ne _ _ (by omega)]; exact g1
          · rw [upd_ne _ _ (by omega)]; exact g2
          · rw [upd_ne _ _ (by omega)]; exact g3
          · rw [upd_ne _ _ (by omega)]; exact g4
          · rw [upd_ne _ _ (by omega)]; exact g5
          · rw [upd_ne _ _ (by omega)]; exact g6
        · rw [pkS_v]
          by_cases e : u = t
          · rw [if_pos ⟨rfl, rfl, by omega⟩, e, upd_eq, eK]
          · rw [if_neg (by omega), pkS_v, if_neg (by omega), upd_ne _ _ (by omega)]
            exact r2 u hu
        · rw [pkS_v, if_neg (by omega), pkS_v, if_neg (by omega)]; exact m2
        · rw [upd_ne _ _ (by omega)]; exact m3 j hj
        · rw [upd_ne _ _ (by omega), pkS_v, if_neg (by omega), pkS_v, if_neg (by omega)]; exact r4
      · rw [pkS_v, if_neg (by omega), pkS_v, if_neg (by omega)]; exact h.1.2.2.2.2.2.2.2.1.1
      · rw [pkS_v, if_neg (by omega), pkS_v, if_neg (by omega)]; exact h.1.2.2.2.2.2.2.2.1.2
      · rw [e21]
        intro b hb
        rw [upd_ne _ _ (by omega)]
        exact h.1.1.2 b hb
theorem q_price (h : INV I T B R W s) (x y : Int32) : ∃ s1 r s2, f_D_price x y s = some (s1, r) ∧ f_M_price x y s1 = some (s2, r) ∧ INV I T B R W s2 := by
  have h6 := h.1.2.2.1.1.1
  unfold f_D_price f_M_price
  rw [(v_isle h x).1, g_D_isWithin_eq]
  cases c1 : inS x 0 (nI I - nI 1) with
  | false => exact ⟨s, false, s, by rw [ifF], by rw [(v_isle h x).2, c1, ifF], h⟩
  | true =>
    cases c2 : inS y (Int32.ofInt 0) (Int32.ofInt 99) with
    | false => exact ⟨s, false, s, by rw [ifT, ifF], by rw [(v_isle h x).2, c1, ifT, g_M_in_eq, c2, ifF], h⟩
    | true =>
      obtain ⟨a, a1, rfl⟩ := inS_nI c1 (by omega)
      have hr := h.1.2.2.2.2.2.2.2.2
      have eP := (hr.1 a a1).2.2.2.2.2
      rw [ifT, ifT, fc_priceOf (by omega), Option.bind_some]
      by_cases ce : s.1 21 0 (43 + a) = y
      · exact ⟨s, false, s, by rw [if_pos ce], by rw [(v_isle h (nI a)).2, c1, ifT, g_M_in_eq, c2, ifT, of_7, fm_of (by omega) (by omega), Option.bind_some, ← eP, if_pos ce], h⟩
      · have hc : g_M_isIsle (nI a) (pkS s 21 0 (43 + a) y) = true := by
          unfold g_M_isIsle
          rw [g_M_in_eq, pkS_v, if_neg (by omega), h.1.2.2.2.2.2.1.1, of_0, of_1]
          exact c1
        refine ⟨pkS s 21 0 (43 + a) y, true, pkS (pkS s 21 0 (43 + a) y) 76 0 (8 * a + 7) y, ?_, ?_, ?_⟩
        · rw [if_neg ce]
          unfold f_State_tellPrice
          rw [of_43, nI_add, ix_nI (by omega) (by omega), Option.bind_some, Option.bind_some, Option.bind_some]
        · have e76 : (pkS s 21 0 (43 + a) y).1 76 0 (8 * a + 7) = s.1 76 0 (8 * a + 7) := by rw [pkS_v, if_neg (by omega)]
          rw [hc, ifT, g_M_in_eq, c2, ifT, of_7, fm_of (by omega) (by omega), Option.bind_some, e76, ← eP, if_neg ce, of_8, mul_nI, nI_add, ix_nI (n := 48) (k := 8 * a + 7) (by omega) (by omega), Option.bind_some, Option.bind_some]
        · have e21 : (pkS (pkS s 21 0 (43 + a) y) 76 0 (8 * a + 7) y).1 21 0 = upd (s.1 21 0) (43 + a) y := by rw [pkS_1, if_neg (by omega), pkS_same]
          refine INV_now h (((Fr.refl _ _).pk' _ (KN_210 T _)).pk' _ (KN_76 T a)) ?_ ?_ ?_ ?_ ?_
          · rw [e21]
            exact VS_of h.1.2.2.2.2.1 fun j h1 h2 => upd_ne _ _ (by omega)
          · rw [e21]
            obtain ⟨r1, r2, ⟨m, m1, m2, m3⟩, r4⟩ := hr
            have h8 := h.1.2.2.1.1.2.1
            have h4 := h.1.2.2.1.1.2.2
            refine ⟨fun j hj => ?_, fun u hu => ?_, ⟨m, m1, ?_, fun j hj => ?_⟩, ?_⟩
            · obtain ⟨g1, g2, g3, g4, g5, g6⟩ := r1 j hj
              simp only [pkS_v, Nat.reduceEqDiff, false_and, if_false, true_and]
              refine ⟨?_, ?_, ?_, ?_, ?_, ?_⟩
              · rw [upd_ne _ _ (by omega)]; exact g1
              · rw [upd_ne _ _ (by omega)]; exact g2
              · rw [upd_ne _ _ (by omega)]; exact g3
              · rw [upd_ne _ _ (by omega)]; exact g4
              · rw [upd_ne _ _ (by omega)]; exact g5
              · by_cases e : j = a
                · rw [e, upd_eq, if_pos rfl]
                · rw [upd_ne _ _ (by omega), if_neg (by omega)]; exact g6
            · rw [pkS_v, if_neg (by omega), pkS_v, if_neg (by omega), upd_ne _ _ (by omega)]
              exact r2 u hu
            · rw [pkS_v, if_neg (by omega), pkS_v, if_neg (by omega)]; exact m2
            · rw [upd_ne _ _ (by omega)]; exact m3 j hj
            · rw [upd_ne _ _ (by omega), pkS_v, if_neg (by omega), pkS_v, if_neg (by omega)]; exact r4
          · rw [pkS_v, if_neg (by omega), pkS_v, if_neg (by omega)]; exact h.1.2.2.2.2.2.2.2.1.1
          · rw [pkS_v, if_neg (by omega), pkS_v, if_neg (by omega)]; exact h.1.2.2.2.2.2.2.2.1.2
          · rw [e21]
            intro b hb
            by_cases e : b = a
            · rw [show Int32.ofInt 0 = nI 0 from of_0, of_99] at c2
              obtain ⟨q, -, q2, hq⟩ := inS_lit c2 (by omega) (by omega)
              rw [e, upd_eq]
              exact ⟨q, q2, hq⟩
            · rw [upd_ne _ _ (by omega)]
              exact h.1.1.2 b hb
/-- trade on both sides -/
theorem INV_trade (h : INV I T B R W s) : ∃ s1, f_Trade_run 0 0 0 s = some s1 ∧ RT 0 I I (trS I (s.1 14 0) (s.1 21 0) I) s1 ∧ INV I T B R W s1 ∧ s1.1 14 0 = s.1 14 0 ∧ s1.1 21 0 = s.1 21 0 ∧ ∃ s2, f_M_trade s1 = some s2 ∧ MRT I (trS I (s.1 14 0) (s.1 21 0) I) s2 ∧ INV I T B R W s2 ∧ s2.1 14 0 = s.1 14 0 ∧ s2.1 21 0 = s.1 21 0 ∧ Fr MT s1 s2 := by
  obtain ⟨s1, a1, a2, a3⟩ := fc_trade (r := 0) (i := 0) (I := I) (T := T) (B := B) (w := s.1 14 0) h.1.2.2.2.2.1 ⟨h.1.2.2.1, rfl, h.1.2.2.2.1⟩
  have F1 : Fr KS s s1 := a3.mono fun c i k hk => by
    unfold KS at hk
    unfold KT
    simp only [Bool.or_eq_false_iff, Bool.and_eq_false_iff] at hk ⊢
    exact Or.inl hk.2.1
  have h1 := INV_KS h F1
  have e14 : s1.1 14 0 = s.1 14 0 := F1.arr fun _ => rfl
  have e21 : s1.1 21 0 = s.1 21 0 := F1.arr fun _ => rfl
  obtain ⟨s2, b1, b2, b3⟩ := fm_trade (I := I) (T := T) (B := B) (w := s1.1 14 0) (v := s1.1 21 0) (s := s1) ⟨h1.1.2.2.1, h1.1.2.2.2.2.1, h1.1.2.2.2.2.2.1.1, h1.1.2.2.2.2.2.2.1.2.2.1 0 (by omega), h1.1.2.2.2.2.2.2.1.2.2.2.1, h1.1.2.2.2.2.2.2.2.2⟩
  have F2 : Fr (MS T) s1 s2 := b3.mono fun c i k hk => by
    unfold MS at hk
    unfold MT
    simp only [Bool.or_eq_false_iff] at hk ⊢
    have := hk.2.1.2.2.1
    have key : ∀ x : Nat, 84 ≤ x → x ≤ 91 → (c == x) = false := fun x h1 h2 => by
      cases hq : c == x with
      | false => rfl
      | true =>
        have e := eq_of_beq hq
        rw [e, show Nat.ble 84 x = true from Nat.ble_eq_true_of_le h1, show Nat.ble x 91 = true from Nat.ble_eq_true_of_le h2] at this
        cases this
    exact ⟨key 84 (by omega) (by omega), key 85 (by omega) (by omega), key 86 (by omega) (by omega)⟩
  have h2 := INV_MS h1 F2 (RS_MD h1.1.2.2.2.2.2.2.2.2 (b3.mono fun _ _ _ => MT_MD)) ((b3.1 _ _ _ rfl).trans h1.1.2.2.2.2.2.2.2.1.1) ((b3.1 _ _ _ rfl).trans h1.1.2.2.2.2.2.2.2.1.2)
  rw [e14, e21] at b2
  exact ⟨s1, a1, a2, h1, e14, e21, s2, b1, b2, h2, (b3.arr fun _ => rfl).trans e14, (b3.arr fun _ => rfl).trans e21, b3⟩
theorem q_buys (h : INV I T B R W s) (x y : Int32) : ∃ s1 r s2, f_D_buys x y s = some (s1, r) ∧ f_M_buys x y s1 = some (s2, r) ∧ INV I T B R W s2 := by
  have h6 := h.1.2.2.1.1.1
  unfold f_D_buys f_M_buys
  cases c : g_D_areTwo x y s with
  | false => exact ⟨s, _, s, by rw [ifF], by rw [(v_areTwo h x y).1, c, ifF], h⟩
  | true =>
    obtain ⟨a, b, a1, b1, -, rfl, rfl⟩ := (v_areTwo h x y).2 c
    obtain ⟨s1, p1, p2, p3, -, -, s2, q1, q2, q3, -⟩ := INV_trade h
    refine ⟨s1, (trS I (s.1 14 0) (s.1 21 0) I).1 (a * 6 + b), s2, ?_, ?_, q3⟩
    · rw [ifT, p1, Option.bind_some, fc_bought (by omega) (by omega), Option.bind_some, p2.1 _ (by omega)]
    · have c' : g_M_areTwo (nI a) (nI b) s1 = true := by
        rw [(v_areTwo p3 (nI a) (nI b)).1]
        unfold g_D_areTwo at c ⊢
        rw [(v_isle p3 (nI a)).1, (v_isle p3 (nI b)).1]
        rw [(v_isle h (nI a)).1, (v_isle h (nI b)).1] at c
        exact c
      rw [c', ifT, q1, Option.bind_some, of_6, mul_nI, nI_add, show 6 * a + b = a * 6 + b by omega, ix_nI (by omega) (by omega), Option.bind_some, q2.1 _ (by omega)]
theorem q_lacks (h : INV I T B R W s) (x : Int32) : ∃ s1 r s2, f_D_lacks x s = some (s1, r) ∧ f_M_lacks x s1 = some (s2, r) ∧ INV I T B R W s2 := by
  have h6 := h.1.2.2.1.1.1
  unfold f_D_lacks f_M_lacks
  rw [(v_isle h x).1]
  cases c : inS x 0 (nI I - nI 1) with
  | false => exact ⟨s, _, s, by rw [ifF], by rw [(v_isle h x).2, c, ifF], h⟩
  | true =>
    obtain ⟨a, a1, rfl⟩ := inS_nI c (by omega)
    obtain ⟨s1, p1, p2, p3, -, -, s2, q1, q2, q3, -⟩ := INV_trade h
    refine ⟨s1, (trS I (s.1 14 0) (s.1 21 0) I).2.1 a, s2, ?_, ?_, q3⟩
    · unfold f_Trade_lackOf
      rw [ifT, p1, Option.bind_some, ix_nI (by omega) (by omega), Option.bind_some, Option.bind_some, p2.2.1 a (by omega), if_pos a1]
    · rw [(v_isle p3 (nI a)).2, c, ifT, q1, Option.bind_some, ix_nI (by omega) (by omega), Option.bind_some, q2.2.1 a a1]
end
