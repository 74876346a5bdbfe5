/-! ===== the store's laws: arrays ===== -/
section
variable {cT : Nat → ClassId} {ad : Nat × Nat → Nat} {xv : Value} {xs : Nat → Int32} {L : Nat}
theorem ka_no : ∀ c, c < 102 → (karr c).isSome = true → kobj c = none ∧ ¬ c = 16 ∧ ¬ c = 23 ∧ ¬ c = 55 := by
  have : ∀ c, c < 102 → (karr c).isSome = true → (kobj c).isNone = true ∧ ¬ c = 16 ∧ ¬ c = 23 ∧ ¬ c = 55 := by decide +kernel
  intro c h1 h2
  obtain ⟨a, b⟩ := this c h1 h2
  exact ⟨Option.isNone_iff_eq_none.mp a, b⟩
theorem kce_arr {σ : S2} {r : Nat × Nat} {n : Nat} (h : karr r.1 = some n) : kce cT ad xv σ r = .inl (cT 0, n, .inl (σ.1 r.1 r.2)) := by
  have hc := karr_lt h
  have hn := (ka_no r.1 hc.2.1 (by rw [h]; rfl)).1
  unfold kce
  rw [hn, h]
theorem o_ai (hL : L < 2 ^ 31) (σ : S2) (r : Nat × Nat) (n : Nat) (f : Nat → Int32) (hr : kvok (.inr (.inr r))) (h : k2ai xs L σ r = some (n, f)) : 2 ≤ r.1 ∧ n < 2 ^ 31 ∧ ((∃ q0 : Nat, cellAt (krep cT ad xv) σ q0 (ad r) (.inl (cT 0, n, .inl f))) ∨ (∃ i, i < 5 ∧ r = (4, i) ∧ n = (kstat i).length ∧ f = lgD (kstat i)) ∨ (r = (5, 0) ∧ n = L ∧ f = xs)) := by
  obtain ⟨c, i⟩ := r
  have hi : i < kcn c := hr
  by_cases c4 : c = 4
  · subst c4
    have hi : i < 5 := hi
    cases h
    refine ⟨by show 2 ≤ 4; omega, ?_, Or.inr (Or.inl ⟨i, hi, rfl, rfl, rfl⟩)⟩
    have : ∀ i, i < 5 → (kstat i).length < 2 ^ 31 := by decide
    exact this i hi
  · by_cases c5 : c = 5
    · subst c5
      have hi : i < 1 := hi
      cases h
      exact ⟨by show 2 ≤ 5; omega, hL, Or.inr (Or.inr ⟨by rw [show i = 0 by omega], rfl, rfl⟩)⟩
    · have e : k2ai xs L σ (c, i) = (match karr c with
        | none => none
        | some n => some (n, σ.1 c i)) := by
        rcases c with _ | _ | _ | _ | _ | _ | c
        · rfl
        · rfl
        · rfl
        · rfl
        · exact absurd rfl c4
        · exact absurd rfl c5
        · rfl
      rw [e] at h
      cases hk : karr c with
      | none => rw [hk] at h; cases h
      | some m =>
        rw [hk] at h
        cases h
        have hc := karr_lt hk
        refine ⟨by show 2 ≤ c; omega, hc.2.2, Or.inl ⟨kix kcx (c, i), ?_⟩⟩
        show (krep cT ad xv σ)[kix kcx (c, i)]? = _
        rw [krep_at (r := (c, i)) hc.1 hi, kce_arr (r := (c, i)) hk]
theorem map_upd {α β : Type} (l : List α) (f g : α → β) (q : Nat) (r : α) (hq : l[q]? = some r) (hn : ∀ j : Nat, l[j]? = some r → j = q) (hfg : ∀ x, x ≠ r → g x = f x) : l.map g = (l.map f).set q (g r) := by
  apply List.ext_getElem?
  intro j
  rw [List.getElem?_map, List.getElem?_set]
  have hlt : q < l.length := (List.getElem?_eq_some_iff.mp hq).1
  by_cases c : q = j
  · subst c
    rw [if_pos rfl, hq, List.length_map, if_pos hlt]
    rfl
  · rw [if_neg c, List.getElem?_map]
    cases hj : l[j]? with
    | none => rfl
    | some x =>
      have : x ≠ r := fun z => c (hn j (by rw [hj, z])).symm
      show some (g x) = some (f x)
      rw [hfg x this]
theorem kix_in : ∀ j, j < kcx.length → kix kcx (kcx[j]?.getD (0, 0)) = j := by decide +kernel
theorem kix_uq {r : Nat × Nat} {j : Nat} (h : kcx[j]? = some r) : j = kix kcx r := by
  have hlt : j < kcx.length := (List.getElem?_eq_some_iff.mp h).1
  have := kix_in j hlt
  rw [h] at this
  exact this.symm
theorem kce_congr {σ σ' : S2} {r : Nat × Nat} (h1 : σ'.1 r.1 r.2 = σ.1 r.1 r.2) (h2 : σ'.2 = σ.2) : kce cT ad xv σ' r = kce cT ad xv σ r := by
  unfold kce kfs kfv
  rw [h1, h2]
theorem u3_ne {I : SI} {c i : Nat} {f : Nat → Int32} {r : Nat × Nat} (h : r ≠ (c, i)) : u3 I c i f r.1 r.2 = I r.1 r.2 := by
  unfold u3
  cases e : (Nat.beq r.1 c && Nat.beq r.2 i) with
  | false => rfl
  | true =>
    obtain ⟨e1, e2⟩ := Bool.and_eq_true_iff.mp e
    exact absurd (Prod.ext (Nat.eq_of_beq_eq_true e1) (Nat.eq_of_beq_eq_true e2)) h
theorem u3_eq {I : SI} {c i : Nat} {f : Nat → Int32} : u3 I c i f c i = f := by
  unfold u3
  rw [Nat.beq_refl, Nat.beq_refl]
  rfl
theorem krep_u3 {σ : S2} {r : Nat × Nat} {f : Nat → Int32} (h : 10 ≤ r.1) (hv : r.2 < kcn r.1) : krep cT ad xv (u3 σ.1 r.1 r.2 f, σ.2) = (krep cT ad xv σ).set (kix kcx r) (ad r, kce cT ad xv (u3 σ.1 r.1 r.2 f, σ.2) r) := by
  unfold krep
  exact map_upd kcx _ _ (kix kcx r) r (kcell_of h hv) (fun j hj => kix_uq hj) fun x hx => by
    rw [kce_congr (σ := σ) (σ' := (u3 σ.1 r.1 r.2 f, σ.2)) (u3_ne hx) rfl]
theorem o_wi (σ : S2) (r : Nat × Nat) (n : Nat) (f f' : Nat → Int32) (σ' : S2) (hr : kvok (.inr (.inr r))) (h : k2ai xs L σ r = some (n, f)) (h' : k2wi σ r f' = some σ') : 2 ≤ r.1 ∧ n < 2 ^ 31 ∧ ∃ q0 : Nat, cellAt (krep cT ad xv) σ q0 (ad r) (.inl (cT 0, n, .inl f)) ∧ krep cT ad xv σ' = (krep cT ad xv σ).set q0 (ad r, .inl (cT 0, n, .inl f')) := by
  obtain ⟨c, i⟩ := r
  have hi : i < kcn c := hr
  unfold k2wi at h'
  cases hk : karr c with
  | none => rw [show karr (c, i).1 = none from hk] at h'; cases h'
  | some m =>
    rw [show karr (c, i).1 = some m from hk] at h'
    have hc := karr_lt hk
    cases h'
    have e : k2ai xs L σ (c, i) = (match karr c with
      | none => none
      | some n => some (n, σ.1 c i)) := by
      rcases c with _ | _ | _ | _ | _ | _ | c
      · rfl
      · rfl
      · rfl
      · rfl
      · exact absurd hc.1 (by omega)
      · exact absurd hc.1 (by omega)
      · rfl
    rw [e, hk] at h
    cases h
    refine ⟨by show 2 ≤ c; omega, hc.2.2, kix kcx (c, i), ?_, ?_⟩
    · show (krep cT ad xv σ)[kix kcx (c, i)]? = _
      rw [krep_at (r := (c, i)) hc.1 hi, kce_arr (r := (c, i)) hk]
    · have := krep_u3 (cT := cT) (ad := ad) (xv := xv) (σ := σ) (r := (c, i)) (f := f') hc.1 hi
      rw [kce_arr (r := (c, i)) hk] at this
      rw [show (u3 σ.1 c i f', σ.2).1 c i = f' from u3_eq] at this
      exact this
end
