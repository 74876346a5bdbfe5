/-! ===== the store's laws: lengths; sizes ===== -/
section
variable {cT : Nat → ClassId} {ad : Nat × Nat → Nat} {xv : Value} {xs : Nat → Int32} {L : Nat} {tys : List (ClassId × FieldType)}
theorem o_ln {T0 T1 T2 T3 : FieldType} (h0 : tys[0]? = some (cT 0, T0)) (h1 : tys[1]? = some (cT 1, T1)) (h2 : tys[2]? = some (cT 2, T2)) (h3 : tys[3]? = some (cT 3, T3)) (σ : S2) (r : Nat × Nat) (n : Nat) (hr : kvok (.inr (.inr r))) (h : k2ln L r = some n) : 2 ≤ r.1 ∧ ((∃ (q0 t0 : Nat) (x : vp_A) (cA : ClassId) (ty : FieldType), cellAt (krep cT ad xv) σ q0 (ad r) (.inl (cA, x)) ∧ x.1 = n ∧ tys[t0]? = some (cA, ty)) ∨ (∃ i, i < 5 ∧ r = (4, i) ∧ n = (kstat i).length) ∨ (∃ i, i < 3 ∧ r = (3, i) ∧ n = (kbyt i).length) ∨ (r = (5, 0) ∧ n = L)) := by
  obtain ⟨c, i⟩ := r
  have hi : i < kcn c := hr
  by_cases c3 : c = 3
  · subst c3
    cases h
    exact ⟨by show 2 ≤ 3; omega, Or.inr (Or.inr (Or.inl ⟨i, hi, rfl, rfl⟩))⟩
  by_cases c4 : c = 4
  · subst c4
    cases h
    exact ⟨by show 2 ≤ 4; omega, Or.inr (Or.inl ⟨i, hi, rfl, rfl⟩)⟩
  by_cases c5 : c = 5
  · subst c5
    have hi : i < 1 := hi
    cases h
    exact ⟨by show 2 ≤ 5; omega, Or.inr (Or.inr (Or.inr ⟨by rw [show i = 0 by omega], rfl⟩))⟩
  by_cases c16 : c = 16
  · subst c16
    cases h
    refine ⟨by show 2 ≤ 16; omega, Or.inl ⟨kix kcx (16, i), 2, (4, .inr (.inr (.inr (.inr (fun j => some (ad (17, j))))))), cT 2, T2, ?_, rfl, h2⟩⟩
    show (krep cT ad xv σ)[kix kcx (16, i)]? = _
    rw [krep_at (r := (16, i)) (by show 10 ≤ 16; omega) hi]
    rfl
  by_cases c23 : c = 23
  · subst c23
    cases h
    refine ⟨by show 2 ≤ 23; omega, Or.inl ⟨kix kcx (23, i), 3, (30, .inr (.inr (.inr (.inr (fun j => some (ad (20, 5 + j))))))), cT 3, T3, ?_, rfl, h3⟩⟩
    show (krep cT ad xv σ)[kix kcx (23, i)]? = _
    rw [krep_at (r := (23, i)) (by show 10 ≤ 23; omega) hi]
    rfl
  by_cases c55 : c = 55
  · subst c55
    cases h
    refine ⟨by show 2 ≤ 55; omega, Or.inl ⟨kix kcx (55, i), 1, (1, .inr (.inl (fun _ => σ.2 55))), cT 1, T1, ?_, rfl, h1⟩⟩
    show (krep cT ad xv σ)[kix kcx (55, i)]? = _
    rw [krep_at (r := (55, i)) (by show 10 ≤ 55; omega) hi]
    rfl
  have e : k2ln L (c, i) = karr c := by
    unfold k2ln
    dsimp only
    split <;> first | rfl | omega
  rw [e] at h
  have hc := karr_lt h
  refine ⟨by show 2 ≤ c; omega, Or.inl ⟨kix kcx (c, i), 0, (n, .inl (σ.1 c i)), cT 0, T0, ?_, rfl, h0⟩⟩
  show (krep cT ad xv σ)[kix kcx (c, i)]? = _
  rw [krep_at (r := (c, i)) hc.1 hi, kce_arr (r := (c, i)) h]
/-- nothing is made by what the typed store does -/
def szT (_ : S2) (_ : Nat) : Prop := True
theorem szT_law {D : va_G} {A : Nat → Prop} : SzLaw D A (krep cT ad xv) szT := fun _ _ _ _ _ _ => ⟨trivial, fun _ _ _ => trivial⟩
end
