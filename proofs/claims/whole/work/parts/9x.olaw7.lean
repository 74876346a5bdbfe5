/-! ===== the store's law: a field is written ===== -/
section
variable {cT : Nat → ClassId} {ad : Nat × Nat → Nat} {xv : Value}
theorem pf_par : parseFieldDescriptor "I" = some .int ∧ parseFieldDescriptor "Z" = some .boolean ∧ parseFieldDescriptor "J" = some .long ∧ parseFieldDescriptor "LDriftSea$Rule;" = some (.object "DriftSea$Rule") := by decide +kernel
theorem kj_uq : ∀ c, c < 102 → ((kobj c).all fun q => (List.range q.2.length).all fun j => (List.range q.2.length).all fun k => decide (j = k) || !(((q.2[j]?.getD (0, 0, 0)).1 == 2) && ((q.2[k]?.getD (0, 0, 0)).1 == 2))) = true := by decide +kernel
theorem kj_uq' {c j k : Nat} {q : Nat × List KF} {fd fd' : KF} (hq : kobj c = some q) (hk : q.2[k]? = some fd) (h2 : fd.1 = 2) (hne : j ≠ k) (hj : q.2[j]? = some fd') : ¬ fd'.1 = 2 := by
  intro h2'
  have hc := kobj_lt hq
  have h1 := kj_uq c hc.2
  rw [hq] at h1
  have h1 : ((List.range q.2.length).all fun j => (List.range q.2.length).all fun k => decide (j = k) || !(((q.2[j]?.getD (0, 0, 0)).1 == 2) && ((q.2[k]?.getD (0, 0, 0)).1 == 2))) = true := h1
  have h3 := List.all_eq_true.mp (List.all_eq_true.mp h1 j (List.mem_range.mpr (List.getElem?_eq_some_iff.mp hj).1)) k (List.mem_range.mpr (List.getElem?_eq_some_iff.mp hk).1)
  rw [hj, hk, decide_eq_false hne] at h3
  have h3 : (false || !((fd'.1 == 2) && (fd.1 == 2))) = true := h3
  rw [h2, h2'] at h3
  cases h3
theorem pf_ty {c a k : Nat} {q : Nat × List KF} {fd : KF} {C : vw_C} (hq : kobj c = some q) (hC : vwCl[q.1]? = some C) (hk : q.2[k]? = some fd) (h34 : ¬ fd.1 = 3 ∧ ¬ fd.1 = 4) : (C.2.1 k).2.2.1 = fdD fd.1 := by
  have hc := kobj_lt hq
  have h1 := pf_tab c hc.2
  unfold pfT at h1
  rw [hq] at h1
  dsimp only at h1
  rw [hC] at h1
  dsimp only at h1
  have h2 := List.all_eq_true.mp h1 k (List.mem_range.mpr (List.getElem?_eq_some_iff.mp hk).1)
  rw [hk] at h2
  obtain ⟨x, y, z⟩ := fd
  have e : (Nat.beq x 3 || Nat.beq x 4) = false := by
    cases w : (Nat.beq x 3 || Nat.beq x 4) with
    | false => rfl
    | true =>
      rcases Bool.or_eq_true_iff.mp w with w | w
      · exact absurd (Nat.eq_of_beq_eq_true w) h34.1
      · exact absurd (Nat.eq_of_beq_eq_true w) h34.2
  dsimp only at h2
  rw [e] at h2
  exact of_decide_eq_true h2
theorem o_pf (a k : Nat) (C : vw_C) (σ : S2) (r : Nat × Nat) (v : MV) (σ' : S2) (hC : vwCl[a]? = some C) (hr : kvok (.inr (.inr r))) (hv : kvok v) (h : k2pf σ r a k v = some σ') : 2 ≤ r.1 ∧ (∀ n, szT σ n → szT σ' n) ∧ (∃ (q0 : Nat) (fs : List Value), cellAt (krep cT ad xv) σ q0 (ad r) (.inr (a, fs)) ∧ k < fs.length ∧ krep cT ad xv σ' = (krep cT ad xv σ).set q0 (ad r, .inr (a, fs.set k (em ad xv v)))) ∧ ∃ ty, parseFieldDescriptor (C.2.1 k).2.2.1 = some ty ∧ narrow ty (em ad xv v) = em ad xv v ∧ fits ty (em ad xv v) = true := by
  obtain ⟨c, i⟩ := r
  have hi : i < kcn c := hr
  obtain ⟨p1, p2, p3, p4⟩ := pf_par
  unfold k2pf at h
  dsimp only at h
  cases hq : kobj c with
  | none => rw [hq] at h; cases h
  | some q =>
    have hc := kobj_lt hq
    rw [hq] at h
    dsimp only at h
    cases ha : Nat.beq q.1 a with
    | false => rw [ha] at h; cases h
    | true =>
      rw [ha] at h
      have ha := Nat.eq_of_beq_eq_true ha
      subst ha
      dsimp only [cond] at h
      refine ⟨by show 2 ≤ c; omega, fun _ _ => trivial, ?_⟩
      split at h
      · rename_i b1 b2 x hk
        cases h
        refine ⟨pf_int hq hi hk (by unfold kfv; dsimp only; rw [u3_eq, upd_eq]; rfl), .int, ?_, rfl, rfl⟩
        rw [pf_ty (a := 0) hq hC hk ⟨show ¬ (0 : Nat) = 3 by decide, show ¬ (0 : Nat) = 4 by decide⟩]
        exact p1
      · rename_i b1 b2 x hk
        cases hx : (decide (x = 0) || decide (x = 1)) with
        | false => rw [hx] at h; cases h
        | true =>
          rw [hx] at h
          cases h
          refine ⟨pf_int hq hi hk (by unfold kfv; dsimp only; rw [u3_eq, upd_eq]; rfl), .boolean, ?_, ?_, ?_⟩
          · rw [pf_ty (a := 0) hq hC hk ⟨show ¬ (1 : Nat) = 3 by decide, show ¬ (1 : Nat) = 4 by decide⟩]
            exact p2
          · rcases Bool.or_eq_true_iff.mp hx with w | w <;> rw [of_decide_eq_true w] <;> rfl
          · rcases Bool.or_eq_true_iff.mp hx with w | w <;> rw [of_decide_eq_true w] <;> rfl
      · rename_i b1 b2 x hk
        cases h
        refine ⟨pf_long hq hi hk rfl (fun j fd' hj hg => kj_uq' hq hk rfl hj hg), .long, ?_, rfl, rfl⟩
        rw [pf_ty (a := 0) hq hC hk ⟨show ¬ (2 : Nat) = 3 by decide, show ¬ (2 : Nat) = 4 by decide⟩]
        exact p3
      · rename_i b1 b2 x hk
        cases h
        refine ⟨pf_int (v := .inr (.inr (0, 0))) hq hi hk (by unfold kfv; dsimp only; rw [u3_eq, upd_eq]; rfl), .object "DriftSea$Rule", ?_, rfl, rfl⟩
        rw [pf_ty (a := 0) hq hC hk ⟨show ¬ (5 : Nat) = 3 by decide, show ¬ (5 : Nat) = 4 by decide⟩]
        exact p4
      · rename_i b1 b2 n hk
        cases h
        have hn : n < 5 := by
          have hn : n < kcn 17 := hv
          have : kcn 17 = 5 := by decide +kernel
          omega
        refine ⟨pf_int hq hi hk (by unfold kfv; dsimp only; rw [u3_eq, upd_eq, krl_nI hn]; rfl), .object "DriftSea$Rule", ?_, rfl, rfl⟩
        rw [pf_ty (a := 0) hq hC hk ⟨show ¬ (5 : Nat) = 3 by decide, show ¬ (5 : Nat) = 4 by decide⟩]
        exact p4
      · cases h
end
