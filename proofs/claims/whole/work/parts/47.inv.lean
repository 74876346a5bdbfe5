/-! ===== what holds of both sides between calls ===== -/
def onA (_ : Nat) : Bool := true
def xN (_ : Nat) : Nat × Nat × Int32 × Int32 := (0, 0, 0, 0)
/-- the pull that holds, both sides -/
def HLD (R : Nat) (W : Option WF6) (s : S2) : Prop := match W with
  | none => s.1 60 0 40 = -1 ∧ rl (s.1 31 0 11) = none
  | some w => ∃ n : Nat, n < R ∧ s.1 60 0 40 = nI n ∧ rl (s.1 31 0 11) = some n ∧ WC n w s ∧ WM n w s
def iTape (s : S2) : Prop := ∃ n : Nat, n ≤ 240 ∧ s.1 11 0 1 = nI n ∧ s.1 60 0 2 = nI n ∧ ∀ k, k < n → s.1 12 0 k = s.1 61 0 k ∧ ∃ b : Nat, 0 < b ∧ b < 256 ∧ s.1 61 0 k = nI b
def iRule (R : Nat) (s : S2) : Prop := R ≤ 4 ∧ s.1 10 0 14 = nI R ∧ s.1 60 0 13 = nI R ∧ s.1 10 0 15 = s.1 60 0 40 ∧ ∀ n, n < R → ∃ w, WC n w s ∧ WM n w s
/-- prices are within 0 .. 99 -/
def PR (I : Nat) (v : Nat → Int32) : Prop := ∀ a, a < I → ∃ q : Nat, q ≤ 99 ∧ v (43 + a) = nI q
/-- the sea told and the state now -/
def iSea (I T B : Nat) (s : S2) : Prop := ((I = 0 ∨ 2 ≤ I) ∧ PR I (s.1 21 0)) ∧ (I = 0 → T = 0 ∧ B = 0 ∧ ∀ k, k < 4 → s.1 75 0 k = 0) ∧ SE I T B (s.1 14 0) ∧ CN I T B s ∧ VS I (s.1 21 0) ∧ (s.1 60 0 28 = nI I ∧ s.1 60 0 29 = nI T ∧ s.1 60 0 30 = nI B) ∧ MR I T B xN 0 (s.1 14 0) s ∧ (s.1 60 0 41 = 0 ∧ s.1 60 0 42 = 0) ∧ RS I T B (s.1 21 0) s
def iPast (I T B : Nat) (s : S2) : Prop := ∃ a p l q : Nat, a ≤ 30 ∧ p < 30 ∧ l ≤ 60 ∧ q < 60 ∧ a ≤ l ∧ s.1 22 0 2 = nI a ∧ s.1 60 0 55 = nI a ∧ s.1 22 0 3 = nI p ∧ s.1 22 0 4 = nI l ∧ s.1 60 0 57 = nI l ∧ s.1 22 0 5 = nI q ∧
  (∀ j, j < a → VS I (s.1 21 (5 + (p + 30 - a + j) % 30)) ∧ SV I T B (s.1 21 (5 + (p + 30 - a + j) % 30)) 92 (46 * j) s) ∧
  (∀ j, j < l → ∀ k, k < 3 → s.1 24 0 ((q + 60 - l + j) % 60 * 3 + k) = s.1 93 0 (3 * j + k))
def iWea (s : S2) : Prop := s.1 25 0 0 = s.1 60 0 38 ∧ s.1 25 0 1 = s.1 60 0 39
def iImg (I T B : Nat) (s : S2) : Prop := (s.1 10 0 16 = 0 ∧ s.1 60 0 78 = 0) ∨ (s.1 10 0 16 = nI 1 ∧ s.1 60 0 78 = nI 1 ∧ (VS I (s.1 21 1) ∧ PR I (s.1 21 1)) ∧ SV I T B (s.1 21 1) 101 0 s)
def iCha (I : Nat) (s : S2) : Prop := ∃ c : Nat, c ≤ 20 ∧ s.1 49 0 8 = nI c ∧ s.1 60 0 76 = nI c ∧ ∀ k, k < c → (s.1 50 0 k = s.1 97 0 k ∧ s.1 51 0 k = s.1 98 0 k ∧ s.1 52 0 k = s.1 99 0 k ∧ s.1 53 0 k = s.1 100 0 k) ∧ (∃ n : Nat, 1 ≤ n ∧ n ≤ 20 ∧ s.1 97 0 k = nI n) ∧ ∃ a : Nat, a < I ∧ s.1 98 0 k = nI a
def INV (I T B R : Nat) (W : Option WF6) (s : S2) : Prop := iSea I T B s ∧ HLD R W s ∧ iTape s ∧ iRule R s ∧ iPast I T B s ∧ iWea s ∧ iImg I T B s ∧ iCha I s
theorem HLD_HC {R : Nat} {W : Option WF6} {s : S2} (h : HLD R W s) : HC W s := by
  cases W with
  | none => exact h.2
  | some w =>
    obtain ⟨n, -, -, h3, h4, -⟩ := h
    exact ⟨n, h3, h4⟩
theorem HLD_HM {R : Nat} {W : Option WF6} {s : S2} (hR : R ≤ 4) (h : HLD R W s) : HM W s := by
  cases W with
  | none => exact h.1
  | some w =>
    obtain ⟨n, h1, h2, -, -, h5⟩ := h
    exact ⟨n, by omega, h2, h5⟩
theorem INV_MX {I T B R : Nat} {W : Option WF6} {s : S2} (h : INV I T B R W s) : MX I T B W onA xN 0 (s.1 14 0) s := by
  obtain ⟨⟨-, -, h1, -, -, h2, h3, ⟨h4, h5⟩, -⟩, h6, -, h7, -⟩ := h
  exact ⟨h1, h2, h3, ⟨⟨0, by omega, by rw [h4, nI_0], fun t _ => by simp [onA]⟩, by rw [h5, nI_0], by omega⟩, HLD_HM h7.1 h6⟩
/-- the class's scratch: what a call that only looks may write -/
def KS (c i k : Nat) : Bool := c == 19 || ((c == 26 || (c == 27 || (c == 28 || (c == 29 || c == 30)))) || ((c == 31 && !(k == 11)) || ((Nat.ble 32 c && Nat.ble c 48) || (c == 21 && (i == 2 || (i == 3 || i == 4))))))
theorem HLD_fr {R : Nat} {W : Option WF6} {s s' : S2} (h : HLD R W s) (h40 : s'.1 60 0 40 = s.1 60 0 40) (h11 : s'.1 31 0 11 = s.1 31 0 11) (h17 : ∀ n, n < R → s'.1 17 n = s.1 17 n) (h18 : ∀ n, n < R → s'.1 18 n = s.1 18 n) (hm : ∀ n, n < R → mruleN n s s') : HLD R W s' := by
  cases W with
  | none => exact ⟨h40.trans h.1, (congrArg rl h11).trans h.2⟩
  | some w =>
    obtain ⟨n, h1, h2, h3, h4, h5⟩ := h
    exact ⟨n, h1, h40.trans h2, (congrArg rl h11).trans h3, fun s'' k1 k2 => h4 s'' (k1.trans (h17 n h1)) (k2.trans (h18 n h1)), fun s'' k => h5 s'' (mruleN_tr (hm n h1) k)⟩
theorem iRule_fr {R : Nat} {s s' : S2} (h : iRule R s) (h14 : s'.1 10 0 14 = s.1 10 0 14) (h13 : s'.1 60 0 13 = s.1 60 0 13) (h15 : s'.1 10 0 15 = s.1 10 0 15) (h40 : s'.1 60 0 40 = s.1 60 0 40) (h17 : ∀ n, n < R → s'.1 17 n = s.1 17 n) (h18 : ∀ n, n < R → s'.1 18 n = s.1 18 n) (hm : ∀ n, n < R → mruleN n s s') : iRule R s' := by
  obtain ⟨g1, g2, g3, g4, g5⟩ := h
  refine ⟨g1, h14.trans g2, h13.trans g3, by rw [h15, h40]; exact g4, fun n hn => ?_⟩
  obtain ⟨w, k1, k2⟩ := g5 n hn
  exact ⟨w, fun s'' q1 q2 => k1 s'' (q1.trans (h17 n hn)) (q2.trans (h18 n hn)), fun s'' q => k2 s'' (mruleN_tr (hm n hn) q)⟩
theorem INV_KS {I T B R : Nat} {W : Option WF6} {s s' : S2} (h : INV I T B R W s) (hF : Fr KS s s') : INV I T B R W s' := by
  obtain ⟨h1, h2, h3, h4, h5, h6, h7, h8⟩ := h
  have e : ∀ c i, (∀ k, KS c i k = false) → s'.1 c i = s.1 c i := fun c i hk => hF.arr hk
  have hm : ∀ n, n < R → mruleN n s s' := fun n _ => mruleN_of ⟨e _ _ fun _ => rfl, e _ _ fun _ => rfl, e _ _ fun _ => rfl, e _ _ fun _ => rfl, e _ _ fun _ => rfl, e _ _ fun _ => rfl⟩
  have e60 : s'.1 60 0 = s.1 60 0 := e _ _ fun _ => rfl
  have e21 : ∀ i, ¬ i = 2 → ¬ i = 3 → ¬ i = 4 → s'.1 21 i = s.1 21 i := fun i a b c => e _ _ fun k => by
    unfold KS
    simp [a, b, c]
  refine ⟨?_, HLD_fr h2 (congrFun e60 40) (hF.1 _ _ _ rfl) (fun n _ => e _ _ fun _ => rfl) (fun n _ => e _ _ fun _ => rfl) hm, ?_, iRule_fr h4 (hF.1 _ _ _ rfl) (congrFun e60 13) (hF.1 _ _ _ rfl) (congrFun e60 40) (fun n _ => e _ _ fun _ => rfl) (fun n _ => e _ _ fun _ => rfl) hm, ?_, ?_, ?_, ?_⟩
  · unfold iSea CN MR RS at h1 ⊢
    rw [e 14 0 fun _ => rfl, e 15 0 fun _ => rfl, e21 0 (by omega) (by omega) (by omega), e60, e 75 0 fun _ => rfl, e 76 0 fun _ => rfl, e 77 0 fun _ => rfl, e 78 0 fun _ => rfl, e 79 0 fun _ => rfl, e 80 0 fun _ => rfl, e 81 0 fun _ => rfl, e 82 0 fun _ => rfl, e 83 0 fun _ => rfl]
    exact h1
  · unfold iTape at h3 ⊢
    rw [e 11 0 fun _ => rfl, e 12 0 fun _ => rfl, e60, e 61 0 fun _ => rfl]
    exact h3
  · obtain ⟨a, p, l, q, g1, g2, g3, g4, g5, g6, g7, g8, g9, g10, g11, g12, g13⟩ := h5
    refine ⟨a, p, l, q, g1, g2, g3, g4, g5, ?_⟩
    rw [e 22 0 fun _ => rfl, e60, e 24 0 fun _ => rfl, e 93 0 fun _ => rfl]
    refine ⟨g6, g7, g8, g9, g10, g11, fun j hj => ?_, g13⟩
    unfold SV
    rw [e21 _ (by omega) (by omega) (by omega), e 92 0 fun _ => rfl]
    exact g12 j hj
  · unfold iWea at h6 ⊢
    rw [e 25 0 fun _ => rfl, e60]
    exact h6
  · unfold iImg SV at h7 ⊢
    rw [e 10 0 fun _ => rfl, e60, e21 1 (by omega) (by omega) (by omega), e 101 0 fun _ => rfl]
    exact h7
  · unfold iCha at h8 ⊢
    rw [e 49 0 fun _ => rfl, e60, e 50 0 fun _ => rfl, e 51 0 fun _ => rfl, e 52 0 fun _ => rfl, e 53 0 fun _ => rfl, e 97 0 fun _ => rfl, e 98 0 fun _ => rfl, e 99 0 fun _ => rfl, e 100 0 fun _ => rfl]
    exact h8
/-- the reference's scratch, and its state, that is taken back -/
def MS (T c i k : Nat) : Bool := KR c i k || ((c == 69 || (c == 70 || ((Nat.ble 84 c && Nat.ble c 91) || (c == 94 || (c == 95 || c == 96))))) || ((c == 77 && Nat.ble (4 * T) k) || (c == 60 && (k == 0 || (k == 41 || (k == 42 || (k == 50 || (k == 51 || (k == 52 || (k == 60 || (k == 61 || (k == 62 || (Nat.ble 65 k && Nat.ble k 71)))))))))))))
theorem INV_MS {I T B R : Nat} {W : Option WF6} {s s' : S2} (h : INV I T B R W s) (hF : Fr (MS T) s s') (hr : RS I T B (s.1 21 0) s') (h41 : s'.1 60 0 41 = 0) (h42 : s'.1 60 0 42 = 0) : INV I T B R W s' := by
  obtain ⟨h1, h2, h3, h4, h5, h6, h7, h8⟩ := h
  have e : ∀ c i, (∀ k, MS T c i k = false) → s'.1 c i = s.1 c i := fun c i hk => hF.arr hk
  have hm : ∀ n, n < R → mruleN n s s' := fun n _ => mruleN_of ⟨e _ _ fun _ => rfl, e _ _ fun _ => rfl, e _ _ fun _ => rfl, e _ _ fun _ => rfl, e _ _ fun _ => rfl, e _ _ fun _ => rfl⟩
  have h8T := h1.2.2.1.1.2.1
  have eK : ∀ c k, ¬ c = 79 ∧ ¬ c = 80 ∧ ¬ c = 81 ∧ ¬ c = 82 ∧ ¬ c = 83 ∧ ¬ (c = 76 ∧ k % 8 = 7) ∧ ¬ (c = 77 ∧ k % 4 = 2) ∧ ¬ c = 60 → ¬ (c = 77 ∧ 4 * T ≤ k) → (c = 75 ∨ c = 76 ∨ c = 77 ∨ c = 78) → s'.1 c 0 k = s.1 c 0 k := fun c k a b d => hF.1 _ _ _ (by
    unfold MS
    rw [KR_f (by omega)]
    rcases d with rfl | rfl | rfl | rfl
    · rfl
    · rfl
    · have : Nat.ble (4 * T) k = false := by
        cases hq : Nat.ble (4 * T) k with
        | false => rfl
        | true => exact absurd ⟨rfl, Nat.le_of_ble_eq_true hq⟩ b
      rw [this]; rfl
    · rfl)
  refine ⟨?_, HLD_fr h2 (hF.1 _ _ _ rfl) (hF.1 _ _ _ rfl) (fun n _ => e _ _ fun _ => rfl) (fun n _ => e _ _ fun _ => rfl) hm, ?_, iRule_fr h4 (hF.1 _ _ _ rfl) (hF.1 _ _ _ rfl) (hF.1 _ _ _ rfl) (hF.1 _ _ _ rfl) (fun n _ => e _ _ fun _ => rfl) (fun n _ => e _ _ fun _ => rfl) hm, ?_, ?_, ?_, ?_⟩
  · obtain ⟨g1, g2, g3, g4, g5, g6, g7, -, -⟩ := h1
    have e14 : s'.1 14 0 = s.1 14 0 := e 14 0 fun _ => rfl
    have e21 : s'.1 21 0 = s.1 21 0 := e 21 0 fun _ => rfl
    refine ⟨⟨g1.1, by rw [e21]; exact g1.2⟩, fun hI => ?_, by rw [e14]; exact g3, ?_, by rw [e21]; exact g5, ?_, ?_, ⟨h41, h42⟩, by rw [e21]; exact hr⟩
    · obtain ⟨q1, q2, q3⟩ := g2 hI
      exact ⟨q1, q2, fun k hk => (eK 75 k (by omega) (by omega) (by omega)).trans (q3 k hk)⟩
    · unfold CN at g4 ⊢
      rw [e 15 0 fun _ => rfl]; exact g4
    · rw [hF.1 60 0 28 rfl, hF.1 60 0 29 rfl, hF.1 60 0 30 rfl]; exact g6
    · obtain ⟨k1, k2, k3, k4, k5⟩ := g7
      rw [e14]
      refine ⟨fun t ht => ?_, fun j hj => by omega, fun k hk => ?_, fun a ha k h1 h2 => ?_, fun b hb k hk => ?_⟩
      · rw [eK 77 (4 * t) (by omega) (by omega) (by omega), eK 77 (4 * t + 1) (by omega) (by omega) (by omega), eK 77 (4 * t + 3) (by omega) (by omega) (by omega)]
        exact k1 t ht
      · rw [eK 75 k (by omega) (by omega) (by omega)]; exact k3 k hk
      · rw [eK 76 (8 * a + k) (by omega) (by omega) (by omega)]; exact k4 a ha k h1 h2
      · rw [eK 78 (3 * b + k) (by omega) (by omega) (by omega)]; exact k5 b hb k hk
  · unfold iTape at h3 ⊢
    rw [e 11 0 fun _ => rfl, e 12 0 fun _ => rfl, hF.1 60 0 2 rfl, e 61 0 fun _ => rfl]
    exact h3
  · obtain ⟨a, p, l, q, g1, g2, g3, g4, g5, g6, g7, g8, g9, g10, g11, g12, g13⟩ := h5
    refine ⟨a, p, l, q, g1, g2, g3, g4, g5, ?_⟩
    rw [e 22 0 fun _ => rfl, hF.1 60 0 55 rfl, hF.1 60 0 57 rfl, e 24 0 fun _ => rfl, e 93 0 fun _ => rfl]
    refine ⟨g6, g7, g8, g9, g10, g11, fun j hj => ?_, g13⟩
    unfold SV
    rw [e 21 _ fun _ => rfl, e 92 0 fun _ => rfl]
    exact g12 j hj
  · unfold iWea at h6 ⊢
    rw [e 25 0 fun _ => rfl, hF.1 60 0 38 rfl, hF.1 60 0 39 rfl]
    exact h6
  · unfold iImg SV at h7 ⊢
    rw [e 10 0 fun _ => rfl, hF.1 60 0 78 rfl, e 21 1 fun _ => rfl, e 101 0 fun _ => rfl]
    exact h7
  · unfold iCha at h8 ⊢
    rw [e 49 0 fun _ => rfl, hF.1 60 0 76 rfl, e 50 0 fun _ => rfl, e 51 0 fun _ => rfl, e 52 0 fun _ => rfl, e 53 0 fun _ => rfl, e 97 0 fun _ => rfl, e 98 0 fun _ => rfl, e 99 0 fun _ => rfl, e 100 0 fun _ => rfl]
    exact h8
