/-! ===== how the small machine's values, locals and heaps stand for the machine's ===== -/
def er (ad : Nat × Nat → Nat) (xv : Value) (r : Nat × Nat) : Value := match r.1 with
  | 0 => .null
  | 1 => xv
  | _ => .ref (ad r)
def em (ad : Nat × Nat → Nat) (xv : Value) : MV → Value
  | .inl x => .int x
  | .inr (.inl x) => .long x
  | .inr (.inr r) => er ad xv r
abbrev xvOk (xv : Value) : Prop := xv = .null ∨ ∃ t : Nat, xv = .ref t
theorem er_or {ad : Nat × Nat → Nat} {xv : Value} (hxv : xvOk xv) (r : Nat × Nat) : er ad xv r = .null ∨ ∃ t : Nat, er ad xv r = .ref t := by
  obtain ⟨c, i⟩ := r
  match c with
  | 0 => exact Or.inl rfl
  | 1 => exact hxv
  | c + 2 => exact Or.inr ⟨_, rfl⟩
theorem er_ref {ad : Nat × Nat → Nat} {xv : Value} {r : Nat × Nat} (h : 2 ≤ r.1) : er ad xv r = .ref (ad r) := by
  obtain ⟨c, i⟩ := r
  match c, h with
  | c + 2, _ => rfl
theorem em_cat {ad : Nat × Nat → Nat} {xv : Value} (hxv : xvOk xv) (v : MV) : (em ad xv v).category = mcat v := by
  rcases v with x | x | r
  · rfl
  · rfl
  · show (er ad xv r).category = 1
    rcases er_or (ad := ad) hxv r with h | ⟨t, h⟩ <;> rw [h] <;> rfl
theorem em_wt {ad : Nat × Nat → Nat} {xv : Value} (hxv : xvOk xv) : ∀ st : List MV, ((st.map (em ad xv)).map fun v => v.category).sum = mwt st
  | [] => rfl
  | v :: r => by
    show (em ad xv v).category + ((r.map (em ad xv)).map fun v => v.category).sum = mcat v + mwt r
    rw [em_cat hxv v, em_wt hxv r]
theorem mlg_lt : ∀ {lv : ML} {k : Nat} {v : MV}, mlg lv k = some v → k < lv.length
  | [], _, _, h => by simp [mlg] at h
  | _ :: _, 0, _, _ => Nat.succ_pos _
  | _ :: r, k + 1, _, h => Nat.succ_lt_succ (mlg_lt (lv := r) h)
theorem mls_len : ∀ (lv : ML) (k : Nat) (v : Option MV), (mls lv k v).length = lv.length
  | [], _, _ => rfl
  | _ :: _, 0, _ => rfl
  | _ :: r, k + 1, v => congrArg Nat.succ (mls_len r k v)
theorem mlg_mls : ∀ (lv : ML) (i k : Nat) (v : Option MV), mlg (mls lv i v) k = if k = i ∧ i < lv.length then v else mlg lv k
  | [], i, k, v => by simp [mls, mlg]
  | o :: r, 0, 0, v => by simp [mls, mlg]
  | o :: r, 0, k + 1, v => by simp [mls, mlg]
  | o :: r, i + 1, 0, v => by simp [mls, mlg]
  | o :: r, i + 1, k + 1, v => by simp [mls, mlg, mlg_mls r i k v]
/-- the machine's locals hold what the small machine's do -/
def LVl (ad : Nat × Nat → Nat) (xv : Value) (nL : Nat) (lv : ML) : List (Nat × Value) := (List.range nL).filterMap (fun k => (mlg lv k).map (fun v => (k, em ad xv v)))
theorem LVl_mem {ad : Nat × Nat → Nat} {xv : Value} {nL : Nat} {lv : ML} {q : Nat × Value} : q ∈ LVl ad xv nL lv ↔ q.1 < nL ∧ ∃ v, mlg lv q.1 = some v ∧ q.2 = em ad xv v := by
  unfold LVl
  rw [List.mem_filterMap]
  constructor
  · rintro ⟨k, hk, h⟩
    obtain ⟨v, h1, h2⟩ := Option.map_eq_some_iff.mp h
    subst h2
    exact ⟨List.mem_range.mp hk, v, h1, rfl⟩
  · rintro ⟨h1, v, h2, h3⟩
    exact ⟨q.1, List.mem_range.mpr h1, by rw [h2]; exact congrArg some (Prod.ext rfl h3.symm)⟩
def LVr (ad : Nat × Nat → Nat) (xv : Value) (vok : MV → Prop) (nL : Nat) (ls : Array Slot) (lv : ML) : Prop := lv_has ls nL (LVl ad xv nL lv) ∧ lv.length = nL ∧ ∀ k v, mlg lv k = some v → vok v
theorem LVr.get {ad : Nat × Nat → Nat} {xv : Value} {vok : MV → Prop} {nL : Nat} {ls : Array Slot} {lv : ML} (h : LVr ad xv vok nL ls lv) {k : Nat} {v : MV} (hk : mlg lv k = some v) : ls[k]? = some (.val (em ad xv v)) :=
  h.1.2.2 (k, em ad xv v) (LVl_mem.mpr ⟨by have := mlg_lt hk; have := h.2.1; omega, v, hk, rfl⟩)
theorem mfree_not {lv : ML} {i k : Nat} {x : Int64} (h : mfree lv i = true) (hk : k + 1 = i) : mlg lv k ≠ some (.inr (.inl x)) := by
  subst hk
  intro e
  simp [mfree, e] at h
theorem LVr.set1 {ad : Nat × Nat → Nat} {xv : Value} {vok : MV → Prop} {nL : Nat} {ls ls' : Array Slot} {lv : ML} (hxv : xvOk xv) (h : LVr ad xv vok nL ls lv) {i : Nat} {v : MV} (hf : mfree lv i = true) (hv : vok v)
    (h' : lv_has ls' nL ((i, em ad xv v) :: (LVl ad xv nL lv).filter (fun q => !(q.1 == i) && !(q.1 + 1 == i && q.2.category == 2)))) : LVr ad xv vok nL ls' (mls lv i (some v)) := by
  refine ⟨⟨h'.1, h'.2.1, fun q hq => h'.2.2 q ?_⟩, (mls_len _ _ _).trans h.2.1, fun k w hk => ?_⟩
  · obtain ⟨h1, w, h2, h3⟩ := LVl_mem.mp hq
    rw [mlg_mls] at h2
    split at h2
    · rename_i hc
      cases h2
      exact List.mem_cons.mpr (Or.inl (Prod.ext hc.1 h3))
    · rename_i hc
      have hlt := mlg_lt h2
      by_cases hi : q.1 = i
      · exact absurd ⟨hi, by rw [← hi]; exact hlt⟩ hc
      · refine List.mem_cons_of_mem _ (List.mem_filter.mpr ⟨LVl_mem.mpr ⟨h1, w, h2, h3⟩, ?_⟩)
        by_cases hj : q.1 + 1 = i
        · have hne : q.2.category ≠ 2 := by
            rw [h3, em_cat hxv]
            rcases w with x | x | r
            · simp [mcat]
            · exact absurd h2 (mfree_not hf hj)
            · simp [mcat]
          simp [hi, hne]
        · simp [hi, hj]
  · rw [mlg_mls] at hk
    split at hk
    · cases hk; exact hv
    · exact h.2.2 k w hk
theorem LVr.set2 {ad : Nat × Nat → Nat} {xv : Value} {vok : MV → Prop} {nL : Nat} {ls ls' : Array Slot} {lv : ML} (hxv : xvOk xv) (h : LVr ad xv vok nL ls lv) {i : Nat} {v : MV} (hf : mfree lv i = true) (hv : vok v)
    (h' : lv_has ls' nL ((i, em ad xv v) :: (LVl ad xv nL lv).filter (fun q => !(q.1 == i) && (!(q.1 == i + 1) && !(q.1 + 1 == i && q.2.category == 2))))) : LVr ad xv vok nL ls' (mls (mls lv i (some v)) (i + 1) none) := by
  refine ⟨⟨h'.1, h'.2.1, fun q hq => h'.2.2 q ?_⟩, (mls_len _ _ _).trans ((mls_len _ _ _).trans h.2.1), fun k w hk => ?_⟩
  · obtain ⟨h1, w, h2, h3⟩ := LVl_mem.mp hq
    rw [mlg_mls] at h2
    split at h2
    · cases h2
    · rename_i hc1
      rw [mls_len] at hc1
      rw [mlg_mls] at h2
      split at h2
      · rename_i hc
        cases h2
        exact List.mem_cons.mpr (Or.inl (Prod.ext hc.1 h3))
      · rename_i hc
        have hlt := mlg_lt h2
        by_cases hi : q.1 = i
        · exact absurd ⟨hi, by rw [← hi]; exact hlt⟩ hc
        · by_cases hi1 : q.1 = i + 1
          · exact absurd ⟨hi1, by rw [← hi1]; exact hlt⟩ hc1
          · refine List.mem_cons_of_mem _ (List.mem_filter.mpr ⟨LVl_mem.mpr ⟨h1, w, h2, h3⟩, ?_⟩)
            by_cases hj : q.1 + 1 = i
            · have hne : q.2.category ≠ 2 := by
                rw [h3, em_cat hxv]
                rcases w with x | x | r
                · simp [mcat]
                · exact absurd h2 (mfree_not hf hj)
                · simp [mcat]
              simp [hi, hi1, hne]
            · simp [hi, hi1, hj]
  · rw [mlg_mls] at hk
    split at hk
    · cases hk
    · rw [mlg_mls] at hk
      split at hk
      · cases hk; exact hv
      · exact h.2.2 k w hk
