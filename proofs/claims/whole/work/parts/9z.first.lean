/-! ===== the first state keeps the invariant ===== -/
section
variable {s : S2}
/-- what the two constructors must leave -/
def FST (s : S2) : Prop := (∀ a, a < 6 → s.1 21 0 (18 + a) = -1) ∧ (s.1 15 0 1 = 0 ∧ s.1 15 0 2 = 0 ∧ s.1 15 0 3 = 0) ∧ (∀ k, k < 4 → s.1 14 0 k = 0 ∧ s.1 75 0 k = 0) ∧ (∀ k, k = 2 ∨ k = 13 ∨ k = 28 ∨ k = 29 ∨ k = 30 ∨ k = 36 ∨ k = 41 ∨ k = 42 ∨ k = 55 ∨ k = 57 ∨ k = 76 ∨ k = 78 → s.1 60 0 k = 0) ∧ s.1 21 0 42 = s.1 60 0 37 ∧ (s.1 60 0 40 = -1 ∧ s.1 10 0 15 = -1 ∧ rl (s.1 31 0 11) = none) ∧ (s.1 11 0 1 = 0 ∧ s.1 10 0 14 = 0 ∧ s.1 10 0 16 = 0 ∧ s.1 49 0 8 = 0) ∧ (∀ k, 2 ≤ k → k < 6 → s.1 22 0 k = 0) ∧ (s.1 25 0 0 = s.1 60 0 38 ∧ s.1 25 0 1 = s.1 60 0 39)
theorem INV_0 (h : FST s) : INV 0 0 0 0 none s := by
  obtain ⟨g1, ⟨g2, g3, g4⟩, g5, g6, g7, ⟨g8, g9, g10⟩, ⟨g11, g12, g13, g14⟩, g15, g16⟩ := h
  refine ⟨⟨⟨Or.inl rfl, fun a ha => absurd ha (Nat.not_lt_zero _)⟩, fun _ => ⟨rfl, rfl, fun k hk => (g5 k hk).2⟩, ?_, ?_, ?_, ?_, ?_, ⟨g6 41 (by omega), g6 42 (by omega)⟩, ?_⟩, ⟨g8, g10⟩, ?_, ?_, ?_, g16, Or.inl ⟨g13, g6 78 (by omega)⟩, ?_⟩
  · exact ⟨⟨by omega, by omega, by omega⟩, fun t ht => absurd ht (Nat.not_lt_zero _), fun t ht => absurd ht (Nat.not_lt_zero _), fun a ha => absurd ha (Nat.not_lt_zero _)⟩
  · exact ⟨by rw [g2, nI_0], by rw [g3, nI_0], by rw [g4, nI_0]⟩
  · exact ⟨by omega, fun a ha => absurd ha (Nat.not_lt_zero _), fun a _ ha => g1 a ha, fun a ha => absurd ha (Nat.not_lt_zero _)⟩
  · exact ⟨by rw [g6 28 (by omega), nI_0], by rw [g6 29 (by omega), nI_0], by rw [g6 30 (by omega), nI_0]⟩
  · exact ⟨fun t ht => absurd ht (Nat.not_lt_zero _), fun t ht => absurd ht (Nat.not_lt_zero _), fun k hk => by rw [(g5 k hk).2, (g5 k hk).1], fun a ha => absurd ha (Nat.not_lt_zero _), fun a ha => absurd ha (Nat.not_lt_zero _)⟩
  · exact ⟨fun a ha => absurd ha (Nat.not_lt_zero _), fun a ha => absurd ha (Nat.not_lt_zero _), ⟨0, by omega, by rw [g6 36 (by omega), nI_0], fun b hb => absurd hb (Nat.not_lt_zero _)⟩, g7⟩
  · exact ⟨0, by omega, by rw [g11, nI_0], by rw [g6 2 (by omega), nI_0], fun k hk => absurd hk (Nat.not_lt_zero _)⟩
  · exact ⟨by omega, by rw [g12, nI_0], by rw [g6 13 (by omega), nI_0], by rw [g9, g8], fun n hn => absurd hn (Nat.not_lt_zero _)⟩
  · exact ⟨0, 0, 0, 0, by omega, by omega, by omega, by omega, by omega, by rw [g15 2 (by omega) (by omega), nI_0], by rw [g6 55 (by omega), nI_0], by rw [g15 3 (by omega) (by omega), nI_0], by rw [g15 4 (by omega) (by omega), nI_0], by rw [g6 57 (by omega), nI_0], by rw [g15 5 (by omega) (by omega), nI_0], fun j hj => absurd hj (Nat.not_lt_zero _), fun j hj => absurd hj (Nat.not_lt_zero _)⟩
  · exact ⟨0, by omega, by rw [g14, nI_0], by rw [g6 76 (by omega), nI_0], fun k hk => absurd hk (Nat.not_lt_zero _)⟩
end
