/-! ===== the store's laws: references, lengths, statics, classes ===== -/
section
variable {cT : Nat → ClassId} {ad : Nat × Nat → Nat} {xv : Value} {xs : Nat → Int32} {L : Nat} {tys : List (ClassId × FieldType)}
theorem o_ab (r : Nat × Nat) (n : Nat) (f : Nat → Int32) (hr : kvok (.inr (.inr r))) (h : k2ab r = some (n, f)) : ∃ i, i < 3 ∧ r = (3, i) ∧ n = (kbyt i).length ∧ f = lgD (kbyt i) := by
  obtain ⟨c, i⟩ := r
  have hi : i < kcn c := hr
  by_cases c3 : c = 3
  · subst c3
    cases h
    exact ⟨i, hi, rfl, rfl, rfl⟩
  · have : k2ab (c, i) = none := by
      rcases c with _ | _ | _ | _ | c
      · rfl
      · rfl
      · rfl
      · exact absurd rfl c3
      · rfl
    rw [this] at h
    cases h
theorem o_gs (i : Nat) (v : MV) (h : k2gs i = some v) : k2gs i = some v ∧ kvok v := by
  refine ⟨h, ?_⟩
  by_cases c5 : i = 5
  · subst c5; cases h; trivial
  · by_cases c6 : i = 6
    · subst c6; cases h; show 0 < kcn 1; decide
    · have e : k2gs i = cond (Nat.blt i 5) (some (mR 4 i)) none := by
        rcases i with _ | _ | _ | _ | _ | _ | _ | i
        · rfl
        · rfl
        · rfl
        · rfl
        · rfl
        · exact absurd rfl c5
        · exact absurd rfl c6
        · rfl
      rw [e] at h
      cases hb : Nat.blt i 5 with
      | false => rw [hb] at h; cases h
      | true =>
        rw [hb] at h
        cases h
        exact Nat.le_of_ble_eq_true hb
theorem o_co (σ : S2) (r : Nat × Nat) (ci : Nat) (hr : kvok (.inr (.inr r))) (h : k2co r = some ci) : 2 ≤ r.1 ∧ ((∃ (q0 : Nat) (fs : List Value), cellAt (krep cT ad xv) σ q0 (ad r) (.inr (ci, fs))) ∨ (ci = 13 ∧ ∃ i, i < 3 ∧ r = (2, i))) := by
  obtain ⟨c, i⟩ := r
  have hi : i < kcn c := hr
  by_cases c2 : c = 2
  · subst c2
    cases h
    exact ⟨Nat.le_refl _, Or.inr ⟨rfl, i, hi, rfl⟩⟩
  · cases hq : kobj c with
    | none =>
      have : k2co (c, i) = none := by
        rcases c with _ | _ | _ | c
        · rfl
        · rfl
        · exact absurd rfl c2
        · show (match kobj (c + 3) with | none => _ | some q => _) = _
          rw [hq]
      rw [this] at h
      cases h
    | some q =>
      have hc := kobj_lt hq
      have : k2co (c, i) = some q.1 := by
        rcases c with _ | _ | _ | c
        · cases hq
        · cases hq
        · exact absurd rfl c2
        · show (match kobj (c + 3) with | none => _ | some q => _) = _
          rw [hq]
      rw [this] at h
      cases h
      refine ⟨by show 2 ≤ c; omega, Or.inl ⟨kix kcx (c, i), kfs ad xv σ c i q.2, ?_⟩⟩
      show (krep cT ad xv σ)[kix kcx (c, i)]? = _
      rw [krep_at (r := (c, i)) hc.1 hi, kce_obj (r := (c, i)) hq]
theorem o_ar {C2 C3 : String} (h2 : tys[2]? = some (cT 2, .object C2)) (h3 : tys[3]? = some (cT 3, .object C3)) (σ : S2) (r : Nat × Nat) (n : Nat) (f : Nat → Nat × Nat) (hr : kvok (.inr (.inr r))) (h : k2ar r = some (n, f)) : 2 ≤ r.1 ∧ n < 2 ^ 31 ∧ (∀ j, j < n → kvok (.inr (.inr (f j)))) ∧ ∃ (q0 t0 : Nat) (C : String) (g : Nat → Option Nat), cellAt (krep cT ad xv) σ q0 (ad r) (.inl (cT t0, n, .inr (.inr (.inr (.inr g))))) ∧ tys[t0]? = some (cT t0, .object C) ∧ ∀ j, j < n → va_rf (g j) = er ad xv (f j) := by
  obtain ⟨c, i⟩ := r
  have hi : i < kcn c := hr
  by_cases c16 : c = 16
  · subst c16
    cases h
    refine ⟨by show 2 ≤ 16; omega, by omega, fun j hj => ?_, kix kcx (16, i), 2, C2, fun j => some (ad (17, j)), ?_, h2, fun j hj => rfl⟩
    · show j < kcn 17
      have : kcn 17 = 5 := by decide +kernel
      omega
    · show (krep cT ad xv σ)[kix kcx (16, i)]? = _
      rw [krep_at (r := (16, i)) (by show 10 ≤ 16; omega) hi]
      rfl
  · by_cases c23 : c = 23
    · subst c23
      cases h
      refine ⟨by show 2 ≤ 23; omega, by omega, fun j hj => ?_, kix kcx (23, i), 3, C3, fun j => some (ad (20, 5 + j)), ?_, h3, fun j hj => rfl⟩
      · show 5 + j < kcn 20
        have : kcn 20 = 35 := by decide +kernel
        omega
      · show (krep cT ad xv σ)[kix kcx (23, i)]? = _
        rw [krep_at (r := (23, i)) (by show 10 ≤ 23; omega) hi]
        rfl
    · have : k2ar (c, i) = none := by
        unfold k2ar
        split
        · rename_i z; cases z; exact absurd rfl c16
        · rename_i z; cases z; exact absurd rfl c23
        · rfl
      rw [this] at h
      cases h
end
