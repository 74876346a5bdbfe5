/-! ===== image, back, undo, log ===== -/
section
variable {I T B R : Nat} {W : Option WF6} {s s' : S2}
theorem SV_ag {I T B c off : Nat} {v v' : Nat → Int32} {s : S2} (h6 : I ≤ 6) (h8 : T ≤ 8) (h4 : B ≤ 4) (hs : SV I T B v c off s) (h : AG v v') : SV I T B v' c off s := by
  obtain ⟨r1, r2, ⟨m, m1, m2, m3⟩, r4⟩ := hs
  refine ⟨fun a ha => ?_, fun t ht => ?_, ⟨m, m1, m2, fun b hb => ?_⟩, ?_⟩
  · rw [h a (by omega), h (6 + a) (by omega), h (12 + a) (by omega), h (18 + a) (by omega), h (24 + a) (by omega), h (43 + a) (by omega)]
    exact r1 a ha
  · rw [h (30 + t) (by omega)]; exact r2 t ht
  · rw [h (38 + b) (by omega)]; exact m3 b hb
  · rw [h 42 (by omega)]; exact r4
def Kgo (T c i k : Nat) : Bool := KN T c i k || (c == 22 || (c == 24 || (c == 92 || (c == 93 || ((c == 21 && Nat.ble 5 i) || (c == 60 && (k == 55 || k == 57)))))))
theorem INV_go (h : INV I T B R W s) (hF : Fr (Kgo T) s s') (hv : VS I (s'.1 21 0)) (hr : RS I T B (s'.1 21 0) s') (h41 : s'.1 60 0 41 = 0) (h42 : s'.1 60 0 42 = 0) (hp : iPast I T B s') (hpr : PR I (s'.1 21 0)) : INV I T B R W s' := by
  obtain ⟨h1, h2, h3, h4, h5, h6, h7, h8⟩ := h
  have e : ∀ c i, (∀ k, Kgo T c i k = false) → s'.1 c i = s.1 c i := fun c i hk => hF.arr hk
  have hm : ∀ n, n < R → mruleN n s s' := fun n _ => mruleN_of ⟨e _ _ fun _ => rfl, e _ _ fun _ => rfl, e _ _ fun _ => rfl, e _ _ fun _ => rfl, e _ _ fun _ => rfl, e _ _ fun _ => rfl⟩
  have h8T := h1.2.2.1.1.2.1
  have eK : ∀ c k, ¬ c = 79 ∧ ¬ c = 80 ∧ ¬ c = 81 ∧ ¬ c = 82 ∧ ¬ c = 83 ∧ ¬ (c = 76 ∧ k % 8 = 7) ∧ ¬ (c = 77 ∧ k % 4 = 2) ∧ ¬ c = 60 → ¬ (c = 77 ∧ 4 * T ≤ k) → (c = 75 ∨ c = 76 ∨ c = 77 ∨ c = 78) → s'.1 c 0 k = s.1 c 0 k := fun c k a b d => hF.1 _ _ _ (by
    unfold Kgo KN MS
    rw [KR_f (by omega)]
    rcases d with rfl | rfl | rfl | rfl
    · rfl
    · rfl
    · have : Nat.ble (4 * T) k = false := by
        cases hq : Nat.ble (4 * T) k with
        | false => rfl
        | true => exact absurd ⟨rfl, Nat.le_of_ble_eq_true hq⟩ b
      rw [this]; rfl
    · rfl)
  refine ⟨?_, HLD_fr h2 (hF.1 _ _ _ rfl) (hF.1 _ _ _ rfl) (fun n _ => e _ _ fun _ => rfl) (fun n _ => e _ _ fun _ => rfl) hm, ?_, iRule_fr h4 (hF.1 _ _ _ rfl) (hF.1 _ _ _ rfl) (hF.1 _ _ _ rfl) (hF.1 _ _ _ rfl) (fun n _ => e _ _ fun _ => rfl) (fun n _ => e _ _ fun _ => rfl) hm, hp, ?_, ?_, ?_⟩
  · obtain ⟨g1, g2, g3, g4, g5, g6, g7, -, -⟩ := h1
    have e14 : s'.1 14 0 = s.1 14 0 := e 14 0 fun _ => rfl
    refine ⟨⟨g1.1, hpr⟩, fun hI => ?_, by rw [e14]; exact g3, ?_, hv, ?_, ?_, ⟨h41, h42⟩, hr⟩
    · obtain ⟨q1, q2, q3⟩ := g2 hI
      exact ⟨q1, q2, fun k hk => (eK 75 k (by omega) (by omega) (by omega)).trans (q3 k hk)⟩
    · unfold CN at g4 ⊢
      rw [e 15 0 fun _ => rfl]; exact g4
    · rw [hF.1 60 0 28 rfl, hF.1 60 0 29 rfl, hF.1 60 0 30 rfl]; exact g6
    · obtain ⟨k1, k2, k3, k4, k5⟩ := g7
      rw [e14]
      refine ⟨fun t ht => ?_, fun j hj => by omega, fun k hk => ?_, fun a ha k h1 h2 => ?_, fun b hb k hk => ?_⟩
      · rw [eK 77 (4 * t) (by omega) (by omega) (by omega), eK 77 (4 * t + 1) (by omega) (by omega) (by omega), eK 77 (4 * t + 3) (by omega) (by omega) (by omega)]
        exact k1 t ht
      · rw [eK 75 k (by omega) (by omega) (by omega)]; exact k3 k hk
      · rw [eK 76 (8 * a + k) (by omega) (by omega) (by omega)]; exact k4 a ha k h1 h2
      · rw [eK 78 (3 * b + k) (by omega) (by omega) (by omega)]; exact k5 b hb k hk
  · unfold iTape at h3 ⊢
    rw [e 11 0 fun _ => rfl, e 12 0 fun _ => rfl, hF.1 60 0 2 rfl, e 61 0 fun _ => rfl]
    exact h3
  · unfold iWea at h6 ⊢
    rw [e 25 0 fun _ => rfl, hF.1 60 0 38 rfl, hF.1 60 0 39 rfl]
    exact h6
  · unfold iImg SV at h7 ⊢
    rw [e 10 0 fun _ => rfl, hF.1 60 0 78 rfl, e 21 1 fun _ => rfl, e 101 0 fun _ => rfl]
    exact h7
  · unfold iCha at h8 ⊢
    rw [e 49 0 fun _ => rfl, hF.1 60 0 76 rfl, e 50 0 fun _ => rfl, e 51 0 fun _ => rfl, e 52 0 fun _ => rfl, e 53 0 fun _ => rfl, e 97 0 fun _ => rfl, e 98 0 fun _ => rfl, e 99 0 fun _ => rfl, e 100 0 fun _ => rfl]
    exact h8
theorem Kgo_KR {T c i k : Nat} (h : Kgo T c i k = false) : KR c i k = false := KR_MS (KN_MS (Bool.or_eq_false_iff.mp h).1)
theorem Kgo_KN {T c i k : Nat} (h : Kgo T c i k = false) : KN T c i k = false := (Bool.or_eq_false_iff.mp h).1
theorem Kgo_210 (T k : Nat) : Kgo T 21 0 k = true := by
  unfold Kgo
  rw [KN_210, Bool.true_or]
theorem Kgo_22 (T k : Nat) : Kgo T 22 0 k = true := by
  unfold Kgo
  simp
theorem Kgo_55 (T : Nat) : Kgo T 60 0 55 = true := by
  unfold Kgo
  simp
theorem Kgo_57 (T : Nat) : Kgo T 60 0 57 = true := by
  unfold Kgo
  simp
def Kim (c i k : Nat) : Bool := (c == 21 && i == 1) || ((c == 10 && k == 16) || (c == 101 || (c == 60 && k == 78)))
theorem q_image (h : INV I T B R W s) : ∃ s1 r s2, f_D_image s = some (s1, r) ∧ f_M_image s1 = some (s2, r) ∧ INV I T B R W s2 := by
  obtain ⟨h6, h8, h4⟩ := h.1.2.2.1.1
  unfold f_D_image
  rw [v_hasSea h]
  have hI := h.1.2.2.2.2.2.1.1
  by_cases c : I = 0
  · refine ⟨s, _, s, by rw [decide_eq_false (fun z => z c), ifF], ?_, h⟩
    unfold f_M_image
    rw [hI, if_pos (by rw [c]; exact nI_0)]
  · have hv := h.1.2.2.2.2.1
    have hr := h.1.2.2.2.2.2.2.2.2
    obtain ⟨s1, hs1⟩ : ∃ s1, pkS (cpS s 21 1 (s.1 21 0) 0 0 49) 10 0 16 (nI 1) = s1 := ⟨_, rfl⟩
    have F1 : Fr Kim s s1 := by
      rw [← hs1]
      exact (Fr_cp (fun _ => rfl) s _ 0 0 49).pk' _ rfl
    have e1 : AG (s.1 21 0) (s1.1 21 1) := by
      rw [← hs1, pkS_1, if_neg (by omega)]
      exact cpS_ag s 1 0
    have hr1 : RS I T B (s.1 21 0) s1 := RS_fr hr (F1.arr fun _ => rfl) (F1.arr fun _ => rfl) (F1.arr fun _ => rfl) (F1.arr fun _ => rfl) (F1.arr fun _ => rfl) (F1.arr fun _ => rfl) (F1.arr fun _ => rfl) (F1.1 _ _ _ rfl) (F1.1 _ _ _ rfl)
    obtain ⟨s2, a1, a2, a3⟩ := fm_write (c := 101) (n := 46) (off := 0) (Or.inr (Or.inr (Or.inr rfl))) (by omega) (by omega) h8 h6 hr1
    have F2 : Fr Kim s (pkS s2 60 0 78 (nI 1)) := (F1.trans (a3.mono fun c i k hk => Ksv_f fun z => by
      subst z
      unfold Kim at hk
      simp at hk)).pk' _ rfl
    have h37 : s2.1 60 0 37 = s.1 21 0 42 := by
      rw [a3.1 60 0 37 (Ksv_f (by omega))]
      exact hr1.2.2.2.symm
    refine ⟨s1, s.1 21 0 42, pkS s2 60 0 78 (nI 1), ?_, ?_, ?_⟩
    · rw [decide_eq_true c, ifT, fc_copy, Option.bind_some, Option.bind_some, of_1, hs1]
      unfold g_State_season
      rw [F1.1 21 0 42 rfl]
    · unfold f_M_image
      rw [F1.1 60 0 28 rfl, hI, if_neg (fun z => c ((nI_eq (by omega) (by omega)).mp (z.trans nI_0.symm))), show Int32.ofInt 0 = nI 0 from of_0, a1, Option.bind_some, of_1, Option.bind_some, pkS_v, if_neg (by omega), h37]
    · obtain ⟨h1, h2, h3, h4', h5, h6', h7, h8'⟩ := h
      refine ⟨iSea_fr h1 F2 (fun _ => ⟨rfl, rfl, rfl, rfl, rfl, rfl, rfl, rfl, rfl, rfl, rfl, rfl⟩) ⟨rfl, rfl, rfl, rfl, rfl, rfl, rfl⟩, HLD_fk h2 F2 (fun _ => ⟨rfl, rfl, rfl, rfl, rfl, rfl⟩) (fun _ _ => ⟨rfl, rfl⟩) ⟨rfl, rfl⟩, iTape_fk h3 F2 (fun _ => ⟨rfl, rfl⟩) ⟨rfl, rfl⟩, iRule_fk h4' F2 (fun _ => ⟨rfl, rfl, rfl, rfl, rfl, rfl⟩) (fun _ _ => ⟨rfl, rfl⟩) ⟨rfl, rfl, rfl, rfl⟩, iPast_fk h5 F2 (fun _ => ⟨rfl, rfl, rfl, rfl⟩) (fun i k => by
        unfold Kim
        rw [show (5 + i == 1) = false from by simp; omega]
        rfl) ⟨rfl, rfl⟩, iWea_fk h6' F2 ⟨rfl, rfl, rfl, rfl⟩, Or.inr ⟨?_, ?_, ?_, ?_⟩, iCha_fk h8' F2 (fun _ => ⟨rfl, rfl, rfl, rfl, rfl, rfl, rfl, rfl⟩) ⟨rfl, rfl⟩⟩
      · rw [pkS_v, if_neg (by omega), a3.1 10 0 16 (Ksv_f (by omega)), ← hs1, pkS_v, if_pos ⟨rfl, rfl, rfl⟩]
      · rw [pkS_v, if_pos ⟨rfl, rfl, rfl⟩]
      · rw [pkS_1, if_neg (by omega), a3.arr fun _ => Ksv_f (by omega)]
        exact ⟨VS_ag hv e1, fun b hb => by rw [e1 (43 + b) (by omega)]; exact h1.1.2 b hb⟩
      · refine SV_fr ?_ (show (pkS s2 60 0 78 (nI 1)).1 101 0 = s2.1 101 0 by rw [pkS_1, if_neg (by omega)])
        rw [pkS_1, if_neg (by omega), a3.arr fun _ => Ksv_f (by omega)]
        exact SV_ag h6 h8 h4 a2 e1
theorem q_back (h : INV I T B R W s) : ∃ s1 r s2, f_D_back s = some (s1, r) ∧ f_M_back s1 = some (s2, r) ∧ INV I T B R W s2 := by
  obtain ⟨h6, h8, h4⟩ := h.1.2.2.1.1
  have hv := h.1.2.2.2.2.1
  have hr := h.1.2.2.2.2.2.2.2.2
  unfold f_D_back
  rcases h.2.2.2.2.2.2.1 with ⟨c1, c2⟩ | ⟨c1, c2, c3, c4⟩
  · refine ⟨s, _, s, by rw [if_pos c1], ?_, h⟩
    unfold f_M_back
    rw [if_pos c2]
  · obtain ⟨s1, hs1⟩ : ∃ s1, pkS (cpS s 21 0 (s.1 21 1) 0 0 49) 22 0 2 (nI 0) = s1 := ⟨_, rfl⟩
    have F1 : Fr (Kgo T) s s1 := by
      rw [← hs1]
      exact (Fr_cp (Kgo_210 T) s _ 0 0 49).pk' _ (Kgo_22 T 2)
    have e1 : AG (s.1 21 1) (s1.1 21 0) := by
      rw [← hs1, pkS_1, if_neg (by omega)]
      exact cpS_ag s 0 1
    have S1 : SV I T B (s.1 21 1) 101 0 s1 := SV_fr c4 (F1.arr fun _ => rfl)
    obtain ⟨s2, a1, a2, a3⟩ := fm_read (s := s1) (c := 101) (n := 46) (off := 0) (u := fun j => s1.1 76 0 (8 * (j - 43) + 7)) (fl := true) (Or.inr (Or.inr (Or.inr rfl))) (by omega) (by omega) h6 h8 h4 S1 (fun a ha => by rw [show 43 + a - 43 = a by omega])
    rw [mxS_true] at a2
    have F2 : Fr (Kgo T) s (pkS s2 60 0 55 (nI 0)) := (F1.trans (a3.mono fun _ _ _ => Kgo_KR)).pk' _ (Kgo_55 T)
    have e21 : (pkS s2 60 0 55 (nI 0)).1 21 0 = s1.1 21 0 := by
      rw [pkS_1, if_neg (by omega)]
      exact a3.arr fun _ => rfl
    refine ⟨s1, s.1 21 1 42, pkS s2 60 0 55 (nI 0), ?_, ?_, INV_go h F2 ?_ ?_ ?_ ?_ ?_ ?_⟩
    · rw [c1, if_neg (by decide), fc_copy, Option.bind_some]
      unfold f_Past_forgetStates g_State_season
      rw [Option.bind_some, Option.bind_some, show Int32.ofInt 0 = nI 0 from of_0, hs1, e1 42 (by omega)]
    · unfold f_M_back
      rw [F1.1 60 0 78 rfl, c2, if_neg (by decide), show Int32.ofInt 0 = nI 0 from of_0, of_1, show f_M_read 101 0 46 (nI 0) (nI 1) s1 = some s2 from a1, Option.bind_some, Option.bind_some, pkS_v, if_neg (by omega), ← a2.2.2.2]
    · rw [e21]; exact VS_ag c3.1 e1
    · rw [e21]; exact RS_52 (RS_ag h6 h8 h4 a2 e1) (by omega) (by omega) _
    · rw [pkS_v, if_neg (by omega), a3.1 60 0 41 rfl, ← hs1, pkS_v, if_neg (by omega)]
      exact (cpS_1 s 21 0 _ 0 0 49 60 0 ▸ congrFun (if_neg (by omega)) 41).trans h.1.2.2.2.2.2.2.2.1.1
    · rw [pkS_v, if_neg (by omega), a3.1 60 0 42 rfl, ← hs1, pkS_v, if_neg (by omega)]
      exact (cpS_1 s 21 0 _ 0 0 49 60 0 ▸ congrFun (if_neg (by omega)) 42).trans h.1.2.2.2.2.2.2.2.1.2
    · obtain ⟨a, p, l, q, g1, g2, g3, g4, g5, g6, g7, g8, g9, g10, g11, g12, g13⟩ := h.2.2.2.2.1
      have e22 : ∀ k, ¬ k = 2 → (pkS s2 60 0 55 (nI 0)).1 22 0 k = s.1 22 0 k := fun k hk => by
        rw [pkS_v, if_neg (by omega), a3.1 22 0 k rfl, ← hs1, pkS_v, if_neg (by omega), cpS_1, if_neg (by omega)]
      have e24 : (pkS s2 60 0 55 (nI 0)).1 24 0 = s.1 24 0 := by
        rw [pkS_1, if_neg (by omega), a3.arr fun _ => rfl, ← hs1, pkS_1, if_neg (by omega), cpS_1, if_neg (by omega)]
      have e93 : (pkS s2 60 0 55 (nI 0)).1 93 0 = s.1 93 0 := by
        rw [pkS_1, if_neg (by omega), a3.arr fun _ => rfl, ← hs1, pkS_1, if_neg (by omega), cpS_1, if_neg (by omega)]
      refine ⟨0, p, l, q, by omega, g2, g3, g4, by omega, ?_, ?_, (e22 3 (by omega)).trans g8, (e22 4 (by omega)).trans g9, ?_, (e22 5 (by omega)).trans g11, fun j hj => by omega, ?_⟩
      · rw [pkS_v, if_neg (by omega), a3.1 22 0 2 rfl, ← hs1, pkS_v, if_pos ⟨rfl, rfl, rfl⟩]
      · rw [pkS_v, if_pos ⟨rfl, rfl, rfl⟩]
      · rw [pkS_v, if_neg (by omega), a3.1 60 0 57 rfl, ← hs1, pkS_v, if_neg (by omega), cpS_1, if_neg (by omega)]
        exact g10
      · rw [e24, e93]
        exact g13
    · rw [e21]
      exact fun b hb => by rw [e1 (43 + b) (by omega)]; exact c3.2 b hb
theorem q_log (h : INV I T B R W s) (x y : Int32) : ∃ r, f_D_log x y s = some r ∧ f_M_log x y s = some r := by
  obtain ⟨a, p, l, q, g1, g2, g3, g4, g5, g6, g7, g8, g9, g10, g11, g12, g13⟩ := h.2.2.2.2.1
  unfold f_D_log f_M_log f_Past_read
  rw [g_D_isWithin_eq, g_M_in_eq, g_D_isWithin_eq, g_M_in_eq, g9, g10, g11, of_1, of_2, show Int32.ofInt 0 = nI 0 from of_0]
  cases c1 : inS x (nI 0) (nI l - nI 1) with
  | false => exact ⟨_, by rw [ifF]; rfl, by rw [ifF]⟩
  | true =>
    cases c2 : inS y (nI 0) (nI 2) with
    | false => exact ⟨_, by rw [ifT, ifF]; rfl, by rw [ifT, ifF]⟩
    | true =>
      rw [nI_0] at c1
      obtain ⟨j, j1, rfl⟩ := inS_nI c1 (by omega)
      obtain ⟨k, -, k2, rfl⟩ := inS_lit c2 (by omega) (by omega)
      refine ⟨s.1 93 0 (3 * (l - 1 - j) + k), ?_, ?_⟩
      · rw [ifT, ifT, of_60, of_3, nI_add, sub_nI (by omega), sub_nI (by omega), jrem_nI (by omega) (by omega) (by omega), mul_nI, nI_add, ix_nI (n := 180) (k := (q + 60 - 1 - j) % 60 * 3 + k) (by omega) (by omega), Option.bind_some, Option.bind_some]
        rw [← g13 (l - 1 - j) (by omega) k (by omega), show (q + 60 - l + (l - 1 - j)) % 60 = (q + 60 - 1 - j) % 60 by omega]
      · rw [ifT, ifT, of_3, sub_nI (by omega), sub_nI (by omega), mul_nI, nI_add, ix_nI (n := 180) (k := 3 * (l - 1 - j) + k) (by omega) (by omega), Option.bind_some]
end
