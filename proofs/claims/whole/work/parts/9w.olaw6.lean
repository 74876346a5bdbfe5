/-! ===== the store's laws: fields are written, one by one ===== -/
section
variable {cT : Nat → ClassId} {ad : Nat × Nat → Nat} {xv : Value}
theorem kfv_ne {σ σ' : S2} {c i j : Nat} {fd : KF} (h1 : σ'.1 c i j = σ.1 c i j) (h2 : σ'.2 c = σ.2 c) : kfv σ' c i j fd = kfv σ c i j fd := by
  unfold kfv
  rw [h1, h2]
theorem kfs_len {σ : S2} {c i : Nat} {fds : List KF} : (kfs ad xv σ c i fds).length = fds.length := by
  unfold kfs
  rw [List.length_map, List.length_range]
theorem kfs_nul {σ : S2} {c i k : Nat} {fds : List KF} {fd : KF} (hk : fds[k]? = some fd) (hv : kfv σ c i k fd = none) : (kfs ad xv σ c i fds)[k]? = some .null := by
  have hlt : k < fds.length := (List.getElem?_eq_some_iff.mp hk).1
  unfold kfs
  rw [List.getElem?_map, List.getElem?_range hlt, Option.map_some, hk]
  dsimp only
  rw [hv]
theorem kfs_set {σ σ' : S2} {c i k : Nat} {fds : List KF} {fd : KF} {v : MV} (hk : fds[k]? = some fd) (hv : kfv σ' c i k fd = some v) (hne : ∀ j fd', j ≠ k → fds[j]? = some fd' → kfv σ' c i j fd' = kfv σ c i j fd') : kfs ad xv σ' c i fds = (kfs ad xv σ c i fds).set k (em ad xv v) := by
  have hlt : k < fds.length := (List.getElem?_eq_some_iff.mp hk).1
  apply List.ext_getElem?
  intro j
  rw [List.getElem?_set]
  by_cases c1 : k = j
  · subst c1
    rw [if_pos rfl, kfs_at hk hv, kfs_len, if_pos hlt]
  · rw [if_neg c1]
    by_cases hj : j < fds.length
    · have hg : fds[j]? = some fds[j] := List.getElem?_eq_getElem hj
      have hn := hne j fds[j] (fun z => c1 z.symm) hg
      cases e : kfv σ c i j fds[j] with
      | none => rw [kfs_nul hg (hn.trans e), kfs_nul hg e]
      | some w => rw [kfs_at hg (hn.trans e), kfs_at hg e]
    · rw [List.getElem?_eq_none (by rw [kfs_len]; omega), List.getElem?_eq_none (by rw [kfs_len]; omega)]
theorem em_0 (x : Nat) : em ad xv (.inr (.inr (0, x))) = em ad xv (.inr (.inr (0, 0))) := rfl
/-- an int's field anew -/
theorem pf_int {σ : S2} {c i k : Nat} {q : Nat × List KF} {fd : KF} {v : MV} {y : Int32} (hq : kobj c = some q) (hi : i < kcn c) (hk : q.2[k]? = some fd) (hv : kfv (u3 σ.1 c i (upd (σ.1 c i) k y), σ.2) c i k fd = some v) : ∃ (q0 : Nat) (fs : List Value), cellAt (krep cT ad xv) σ q0 (ad (c, i)) (.inr (q.1, fs)) ∧ k < fs.length ∧ krep cT ad xv (u3 σ.1 c i (upd (σ.1 c i) k y), σ.2) = (krep cT ad xv σ).set q0 (ad (c, i), .inr (q.1, fs.set k (em ad xv v))) := by
  have hc := kobj_lt hq
  have hlt : k < q.2.length := (List.getElem?_eq_some_iff.mp hk).1
  refine ⟨kix kcx (c, i), kfs ad xv σ c i q.2, ?_, by unfold kfs; rw [List.length_map, List.length_range]; exact hlt, ?_⟩
  · show (krep cT ad xv σ)[kix kcx (c, i)]? = _
    rw [krep_at (r := (c, i)) hc.1 hi, kce_obj (r := (c, i)) hq]
  · have := krep_u3 (cT := cT) (ad := ad) (xv := xv) (σ := σ) (r := (c, i)) (f := upd (σ.1 c i) k y) hc.1 hi
    rw [kce_obj (r := (c, i)) hq] at this
    have hs := kfs_set (ad := ad) (xv := xv) (σ := σ) (σ' := (u3 σ.1 c i (upd (σ.1 c i) k y), σ.2)) hk hv (fun j fd' hj _ => kfv_ne (by show u3 σ.1 c i (upd (σ.1 c i) k y) c i j = _; rw [u3_eq, upd_ne _ _ hj]) rfl)
    rw [this]
    show _ = (krep cT ad xv σ).set (kix kcx (c, i)) (ad (c, i), .inr (q.1, (kfs ad xv σ c i q.2).set k (em ad xv v)))
    rw [← hs]
theorem kcx_ok : (kcx.all fun r => Nat.blt r.2 (kcn r.1)) = true := by decide +kernel
theorem kj_one : ∀ c, c < 102 → ((kobj c).all fun q => q.2.all fun fd => !(fd.1 == 2) || (decide (kcn c = 1) && !decide (c = 55))) = true := by decide +kernel
theorem map_updM {α β : Type} (l : List α) (f g : α → β) (q : Nat) (r : α) (hq : l[q]? = some r) (hn : ∀ j : Nat, l[j]? = some r → j = q) (hfg : ∀ x, x ∈ l → x ≠ r → g x = f x) : l.map g = (l.map f).set q (g r) := by
  apply List.ext_getElem?
  intro j
  rw [List.getElem?_map, List.getElem?_set]
  have hlt : q < l.length := (List.getElem?_eq_some_iff.mp hq).1
  by_cases c : q = j
  · subst c
    rw [if_pos rfl, hq, List.length_map, if_pos hlt]
    rfl
  · rw [if_neg c, List.getElem?_map]
    cases hj : l[j]? with
    | none => rfl
    | some x =>
      have : x ≠ r := fun z => c (hn j (by rw [hj, z])).symm
      show some (g x) = some (f x)
      rw [hfg x (List.mem_of_getElem? hj) this]
theorem uJ_ne {J : Nat → Int64} {c c' : Nat} {x : Int64} (h : c' ≠ c) : uJ J c x c' = J c' := by
  unfold uJ
  cases e : Nat.beq c' c with
  | false => rfl
  | true => exact absurd (Nat.eq_of_beq_eq_true e) h
/-- a long's field anew -/
theorem pf_long {σ : S2} {c i k : Nat} {q : Nat × List KF} {fd : KF} {x : Int64} (hq : kobj c = some q) (hi : i < kcn c) (hk : q.2[k]? = some fd) (h2 : fd.1 = 2) (hu : ∀ j fd', j ≠ k → q.2[j]? = some fd' → ¬ fd'.1 = 2) : ∃ (q0 : Nat) (fs : List Value), cellAt (krep cT ad xv) σ q0 (ad (c, i)) (.inr (q.1, fs)) ∧ k < fs.length ∧ krep cT ad xv (σ.1, uJ σ.2 c x) = (krep cT ad xv σ).set q0 (ad (c, i), .inr (q.1, fs.set k (em ad xv (mL x)))) := by
  have hc := kobj_lt hq
  have hlt : k < q.2.length := (List.getElem?_eq_some_iff.mp hk).1
  have h1 := kj_one c hc.2
  rw [hq] at h1
  have h1 : (q.2.all fun fd => !(fd.1 == 2) || (decide (kcn c = 1) && !decide (c = 55))) = true := h1
  have h3 := List.all_eq_true.mp h1 fd (List.mem_of_getElem? hk)
  rw [h2] at h3
  have h3 : (decide (kcn c = 1) && !decide (c = 55)) = true := h3
  obtain ⟨h4, h5⟩ := Bool.and_eq_true_iff.mp h3
  have h4 := of_decide_eq_true h4
  have h5 : ¬ c = 55 := fun z => by rw [decide_eq_true z] at h5; cases h5
  obtain ⟨a, b1, b2⟩ := fd
  have h2 : a = 2 := h2
  subst h2
  have hs := kfs_set (ad := ad) (xv := xv) (σ := σ) (σ' := (σ.1, uJ σ.2 c x)) (i := i) (v := mL x) hk (by show some (mL (uJ σ.2 c x c)) = _; rw [uJ_eq]) (fun j fd' hj hg => by
    have := hu j fd' hj hg
    obtain ⟨a', b', c'⟩ := fd'
    unfold kfv
    split <;> first | rfl | (rename_i z; cases z; exact absurd rfl this))
  refine ⟨kix kcx (c, i), kfs ad xv σ c i q.2, ?_, by unfold kfs; rw [List.length_map, List.length_range]; exact hlt, ?_⟩
  · show (krep cT ad xv σ)[kix kcx (c, i)]? = _
    rw [krep_at (r := (c, i)) hc.1 hi, kce_obj (r := (c, i)) hq]
  · rw [← hs]
    have hm := map_updM kcx (fun r => (ad r, kce cT ad xv σ r)) (fun r => (ad r, kce cT ad xv (σ.1, uJ σ.2 c x) r)) (kix kcx (c, i)) (c, i) (kcell_of hc.1 hi) (fun j hj => kix_uq hj) (fun r hr hne => by
      have hr1 : r.1 ≠ c := fun z => by
        have hb := List.all_eq_true.mp kcx_ok r hr
        have hb := Nat.le_of_ble_eq_true hb
        rw [z, h4] at hb
        exact hne (Prod.ext z (by show r.2 = i; omega))
      have e : kce cT ad xv (σ.1, uJ σ.2 c x) r = kce cT ad xv σ r := by
        unfold kce kfs kfv
        rw [show (σ.1, uJ σ.2 c x).2 r.1 = σ.2 r.1 from uJ_ne hr1, show (σ.1, uJ σ.2 c x).2 55 = σ.2 55 from uJ_ne (fun z => h5 z.symm)]
      rw [e])
    have hk2 : kce cT ad xv (σ.1, uJ σ.2 c x) (c, i) = .inr (q.1, kfs ad xv (σ.1, uJ σ.2 c x) c i q.2) := kce_obj (r := (c, i)) hq
    unfold krep
    rw [hm, hk2]
end
