/-! ===== the store's laws: fields are read ===== -/
section
variable {cT : Nat → ClassId} {ad : Nat × Nat → Nat} {xv : Value} {xs : Nat → Int32} {L : Nat}
theorem krep_at {σ : S2} {r : Nat × Nat} (h : 10 ≤ r.1) (hv : r.2 < kcn r.1) : (krep cT ad xv σ)[kix kcx r]? = some (ad r, kce cT ad xv σ r) := by
  unfold krep
  rw [List.getElem?_map, kcell_of h hv]
  rfl
theorem kobj_lt {c : Nat} {q : Nat × List KF} (h : kobj c = some q) : 10 ≤ c ∧ c < 102 := by
  unfold kobj at h
  split at h <;> first | omega | cases h
theorem karr_lt {c n : Nat} (h : karr c = some n) : 10 ≤ c ∧ c < 102 ∧ n < 2 ^ 31 := by
  unfold karr at h
  split at h <;> first | (cases h; omega) | cases h
theorem kf_ok : ∀ c, c < 102 → ((kobj c).all fun q => q.2.all fun fd => (!(fd.1 == 3) || decide (kcn c ≤ kcn fd.2.1)) && (!(fd.1 == 4) || decide (fd.2.2 < kcn fd.2.1))) = true := by decide +kernel
theorem krl_ok (x : Int32) : (krl x).2 < kcn (krl x).1 := by
  unfold krl
  split <;> decide
theorem kfv_ok {σ : S2} {c i k : Nat} {q : Nat × List KF} {fd : KF} {v : MV} (hq : kobj c = some q) (hi : i < kcn c) (hk : q.2[k]? = some fd) (hv : kfv σ c i k fd = some v) : kvok v := by
  have hc := kobj_lt hq
  have h1 := kf_ok c hc.2
  rw [hq] at h1
  have h1 : (q.2.all fun fd => (!(fd.1 == 3) || decide (kcn c ≤ kcn fd.2.1)) && (!(fd.1 == 4) || decide (fd.2.2 < kcn fd.2.1))) = true := h1
  have h2 := List.all_eq_true.mp h1 fd (List.mem_of_getElem? hk)
  obtain ⟨h3, h4⟩ := Bool.and_eq_true_iff.mp h2
  obtain ⟨a, c', i'⟩ := fd
  unfold kfv at hv
  split at hv
  · cases hv; trivial
  · cases hv; trivial
  · cases hv; trivial
  · rename_i e
    cases e
    cases hv
    have h3 : decide (kcn c ≤ kcn c') = true := h3
    have h3 := of_decide_eq_true h3
    show i < kcn c'
    omega
  · rename_i e
    cases e
    cases hv
    have h4 : decide (i' < kcn c') = true := h4
    show i' < kcn c'
    exact of_decide_eq_true h4
  · cases hv
    exact krl_ok _
  · cases hv
theorem kfs_at {σ : S2} {c i k : Nat} {fds : List KF} {fd : KF} {v : MV} (hk : fds[k]? = some fd) (hv : kfv σ c i k fd = some v) : (kfs ad xv σ c i fds)[k]? = some (em ad xv v) := by
  have hlt : k < fds.length := (List.getElem?_eq_some_iff.mp hk).1
  unfold kfs
  rw [List.getElem?_map, List.getElem?_range hlt]
  show some (match fds[k]? with
    | some fd => (match kfv σ c i k fd with
      | some v => em ad xv v
      | none => .null)
    | none => .null) = _
  rw [hk]
  show some (match kfv σ c i k fd with
      | some v => em ad xv v
      | none => .null) = _
  rw [hv]
theorem kce_obj {σ : S2} {r : Nat × Nat} {q : Nat × List KF} (h : kobj r.1 = some q) : kce cT ad xv σ r = .inr (q.1, kfs ad xv σ r.1 r.2 q.2) := by
  unfold kce
  rw [h]
theorem o_gf (a k : Nat) (σ : S2) (r : Nat × Nat) (v : MV) (hr : kvok (.inr (.inr r))) (h : k3gf σ r a k = some v) : kvok v ∧ 2 ≤ r.1 ∧ ((∃ (q0 : Nat) (fs : List Value), cellAt (krep cT ad xv) σ q0 (ad r) (.inr (a, fs)) ∧ fs[k]? = some (em ad xv v)) ∨ (a = 13 ∧ strK k r v)) := by
  obtain ⟨c, i⟩ := r
  have hi : i < kcn c := hr
  by_cases c2 : c = 2
  · subst c2
    have h : cond (Nat.beq a 13) (match k with
      | 0 => some (mI 0)
      | 1 => some (mR 3 i)
      | _ => none) none = some v := h
    cases ha : Nat.beq a 13 with
    | false => rw [ha] at h; cases h
    | true =>
      rw [ha] at h
      have ha := Nat.eq_of_beq_eq_true ha
      rcases k with _ | _ | k
      · cases h
        exact ⟨trivial, Nat.le_refl _, Or.inr ⟨ha, i, hi, rfl, Or.inl ⟨rfl, rfl⟩⟩⟩
      · cases h
        exact ⟨hi, Nat.le_refl _, Or.inr ⟨ha, i, hi, rfl, Or.inr ⟨rfl, rfl⟩⟩⟩
      · cases h
  · have e : k3gf σ (c, i) a k = (match kobj c with
      | none => none
      | some q => cond (Nat.beq q.1 a) (match q.2[k]? with
        | some fd => kfv σ c i k fd
        | none => none) none) := by
      rcases c with _ | _ | _ | c
      · rfl
      · rfl
      · exact absurd rfl c2
      · rfl
    rw [e] at h
    cases hq : kobj c with
    | none => rw [hq] at h; cases h
    | some q =>
      rw [hq] at h
      have h : cond (Nat.beq q.1 a) (match q.2[k]? with
        | some fd => kfv σ c i k fd
        | none => none) none = some v := h
      cases ha : Nat.beq q.1 a with
      | false => rw [ha] at h; cases h
      | true =>
        rw [ha] at h
        have ha := Nat.eq_of_beq_eq_true ha
        cases hk : q.2[k]? with
        | none => rw [hk] at h; cases h
        | some fd =>
          rw [hk] at h
          have h : kfv σ c i k fd = some v := h
          have hc := kobj_lt hq
          refine ⟨kfv_ok hq hi hk h, by show 2 ≤ c; omega, Or.inl ⟨kix kcx (c, i), kfs ad xv σ c i q.2, ?_, kfs_at hk h⟩⟩
          show (krep cT ad xv σ)[kix kcx (c, i)]? = some (ad (c, i), .inr (a, kfs ad xv σ c i q.2))
          rw [krep_at (r := (c, i)) hc.1 hi, kce_obj (r := (c, i)) hq, ha]
end
