/-! ===== the store's laws, together ===== -/
section
variable {cT : Nat → ClassId} {ad : Nat × Nat → Nat} {xv : Value} {xs : Nat → Int32} {L : Nat} {tys : List (ClassId × FieldType)} {D : va_G} {A : Nat → Prop}
theorem o_al (σ : S2) (r : Nat × Nat) (n : Nat) (f : Nat → Int64) (hr : kvok (.inr (.inr r))) (h : k2al σ r = some (n, f)) : 2 ≤ r.1 ∧ n < 2 ^ 31 ∧ ∃ q0 : Nat, cellAt (krep cT ad xv) σ q0 (ad r) (.inl (cT 1, n, .inr (.inl f))) := by
  obtain ⟨c, i⟩ := r
  have hi : i < kcn c := hr
  unfold k2al at h
  split at h
  · rename_i e
    cases e
    cases h
    refine ⟨by show 2 ≤ 55; omega, by omega, kix kcx (55, i), ?_⟩
    show (krep cT ad xv σ)[kix kcx (55, i)]? = _
    rw [krep_at (r := (55, i)) (by show 10 ≤ 55; omega) hi]
    rfl
  · cases h
theorem o5_law {T0 T1 : FieldType} {C2 C3 : String} (hL : L < 2 ^ 31) (h0 : tys[0]? = some (cT 0, T0)) (h1 : tys[1]? = some (cT 1, T1)) (h2 : tys[2]? = some (cT 2, .object C2)) (h3 : tys[3]? = some (cT 3, .object C3)) : OLaw (O3 xs L) D A (krep cT ad xv) szT ad xv kvok cT tys xs L := by
  refine ⟨fun a k σ r v hr h => o_gf a k σ r v hr h, fun a k C T N σ r v σ' hC hr hv h => o_pf a k (C, T, N) σ r v σ' hC hr hv h, fun σ r n f hr h => o_ai hL σ r n f hr h, fun σ r n f f' σ' hr h h' => ?_, fun σ r n f hr h => o_al σ r n f hr h, fun σ r n f f' σ' _ _ h => (by cases h), fun σ r n f hr h => o_ar h2 h3 σ r n f hr h, fun σ r n f j x σ' _ _ _ _ h => (by cases h), fun σ r n hr h => o_ln h0 h1 h2 h3 σ r n hr h, fun σ r n f hr h => o_ab r n f hr h, fun i v h => o_gs i v h, fun σ r ci hr h => o_co σ r ci hr h, fun a C T N ty0 σ r n σ' _ _ h => (by cases h), fun σ n r σ' h => (by cases h), fun σ n r σ' h => (by cases h), fun a σ n r σ' _ h => (by cases h), fun _ => trivial, fun _ => trivial, ?_, fun i hi => hi⟩
  · obtain ⟨a1, a2, a3⟩ := o_wi σ r n f f' σ' hr h h'
    exact ⟨a1, a2, fun _ _ => trivial, a3⟩
  · show 0 < kcn 0
    decide
end
