/-! ===== a sea that was read: what its cells hold ===== -/
section
variable {tp : Nat → Nat} {n : Nat}
def RNG (d : CNT) (D : Nat → Int32) : Prop := ∀ so a k, so < 4 → a < d so → k < szN so → ∃ q : Nat, loN so k ≤ q ∧ q ≤ hiN so k ∧ D ((frN so + a) * 8 + k) = nI q
theorem us_rg : ∀ so, so < 4 → ∀ k, k < szN so → loN so k ≤ (lgD (kstat 0) (so * 8 + k)).toNatClampNeg ∧ (lgD (kstat 0) (so * 8 + k)).toNatClampNeg ≤ hiN so k ∧ lgD (kstat 0) (so * 8 + k) = nI (lgD (kstat 0) (so * 8 + k)).toNatClampNeg := by decide +kernel
theorem rg_fill {c : CNT} {D : Nat → Int32} {so : Nat} (hs : so < 4) (hc : cOK c) (hm : c so < mxN so) (h : RNG c D) : RNG (cup c so) (fiD so (frN so + c so) D) := by
  intro so' a' k' x1 x2 x3
  have hz := sz_le so hs
  have hz' := sz_le so' x1
  by_cases e : so' = so ∧ a' = c so
  · obtain ⟨rfl, rfl⟩ := e
    obtain ⟨u1, u2, u3⟩ := us_rg so' hs k' x3
    refine ⟨_, u1, u2, ?_⟩
    unfold fiD
    rw [if_pos (by omega), show (frN so' + c so') * 8 + k' - (frN so' + c so') * 8 = k' by omega]
    exact u3
  · have hc' := hc so' x1
    have ha' : a' < c so' := by
      unfold cup at x2
      by_cases e2 : so' = so
      · rw [if_pos e2] at x2; subst e2; omega
      · rw [if_neg e2] at x2; exact x2
    have hr := (row_ne (k := 0) hs x1 hm (by omega) (by obtain ⟨z0, z1, z2, z3⟩ := szn_v; rcases (show so = 0 ∨ so = 1 ∨ so = 2 ∨ so = 3 by omega) with rfl | rfl | rfl | rfl <;> omega) x3 e).2
    obtain ⟨q, q1, q2, q3⟩ := h so' a' k' x1 ha' x3
    refine ⟨q, q1, q2, ?_⟩
    unfold fiD
    rw [if_neg hr]
    exact q3
theorem rg_put {d : CNT} {D : Nat → Int32} {so k v : Nat} (hs : so < 4) (hd : cOK d) (hso : 0 < d so) (hk : k < szN so) (hv : loN so k ≤ v ∧ v ≤ hiN so k) (h : RNG d D) : RNG d (upd D ((frN so + (d so - 1)) * 8 + k) (nI v)) := by
  intro so' a' k' x1 x2 x3
  have hz := sz_le so hs
  have hz' := sz_le so' x1
  have hds := hd so hs
  have hd' := hd so' x1
  by_cases e : (frN so' + a') * 8 + k' = (frN so + (d so - 1)) * 8 + k
  · have hh : so' = so ∧ a' = d so - 1 := by
      apply Classical.byContradiction
      intro z
      have := (row_ne (k := k) hs x1 (show d so - 1 < mxN so by omega) (show a' < mxN so' by omega) hk x3 z).2
      omega
    obtain ⟨rfl, rfl⟩ := hh
    have : k' = k := by omega
    subst this
    exact ⟨v, hv.1, hv.2, by rw [upd_eq]⟩
  · obtain ⟨q, q1, q2, q3⟩ := h so' a' k' x1 x2 x3
    exact ⟨q, q1, q2, by rw [upd_ne _ _ e]; exact q3⟩
theorem rg_ie (ht : TOK n tp) {d : CNT} {so : Nat} (hs : so < 4) (hd : cOK d) (hso : 0 < d so) : ∀ (m i seen : Nat) (D : Nat → Int32) (q : Nat × (Nat → Int32)), i ≤ n → RNG d D → ieS tp n so (frN so + (d so - 1)) m i seen D = Sum.inr q → RNG d q.2 ∧ q.1 ≤ n := by
  intro m
  induction m with
  | zero => intro i seen D q _ _ h; cases h
  | succ m ih =>
    intro i seen D q hi hr h
    have hk := skN_le (tp := tp) hi
    cases e : itX so (chN tp n (skN tp n i)) with
    | none =>
      rw [ie_none e] at h
      cases h
      exact ⟨hr, hk.2⟩
    | some k =>
      obtain ⟨k1, k2, -⟩ := it_at hs (chN_lt ht (skN tp n i)) (chN_32 hi) e
      have hlt : skN tp n i < n := chN_p rfl k2
      cases b : seen.testBit k with
      | true => rw [ie_seen e b] at h; cases h
      | false =>
        cases r : nuR tp n so k (skN tp n i + 1) with
        | inl y => rw [ie_bad e b r] at h; cases h
        | inr y =>
          rw [ie_ok e b r] at h
          obtain ⟨r1, r2, r3⟩ := nuR_ri (show skN tp n i + 1 ≤ n by omega) r
          exact ih _ _ _ _ r1 (rg_put hs hd hso k1 ⟨r2, r3⟩ hr) h
theorem rg_cl (ht : TOK n tp) {c : CNT} {D : Nat → Int32} {i : Nat} {q : Nat × Nat × (Nat → Int32)} (hc : cOK c) (hi : i ≤ n) (hr : RNG c D) (h : clS' tp n c D i = Sum.inr q) : RNG (cup c q.2.1) q.2.2 ∧ q.1 ≤ n ∧ q.2.1 < 4 ∧ c q.2.1 < mxN q.2.1 := by
  have hk := skN_le (tp := tp) hi
  cases z : cIx 0 (chN tp n (skN tp n i)) with
  | none => rw [cl_none z] at h; cases h
  | some so =>
    have hs := cIx_lt z
    by_cases z2 : c so < mxN so
    · cases z3 : ieS tp n so (frN so + c so) 9 (skN tp n i + 1) 0 (fiD so (frN so + c so) D) with
      | inl y => rw [cl_bad z z2 z3] at h; cases h
      | inr y =>
        rw [cl_ok z z2 z3] at h
        cases h
        have hlt : skN tp n i < n := by
          apply Classical.byContradiction
          intro hn
          have : chN tp n (skN tp n i) = 0 := if_neg hn
          rw [this, cIx_0] at z
          cases z
        have hd1 : cup c so so - 1 = c so := by unfold cup; rw [if_pos rfl]; omega
        have := rg_ie ht (d := cup c so) hs (cup_ok hc z2) (by unfold cup; rw [if_pos rfl]; omega) 9 (skN tp n i + 1) 0 _ y (by omega) (rg_fill hs hc z2 hr) (by rw [hd1]; exact z3)
        exact ⟨this.1, this.2, hs, z2⟩
    · rw [cl_full z z2] at h; cases h
theorem rg_sea (ht : TOK n tp) : ∀ (m i : Nat) (c : CNT) (D : Nat → Int32) (q : CNT × (Nat → Int32)), i ≤ n → cOK c → RNG c D → seaS tp n m c D i = Sum.inr q → RNG q.1 q.2 ∧ cOK q.1 ∧ wzS q.1 q.2 = true := by
  intro m
  induction m with
  | zero => intro i c D q _ _ _ h; cases h
  | succ m ih =>
    intro i c D q hi hc hr h
    cases e : clS' tp n c D i with
    | inl y => rw [se_bad e] at h; cases h
    | inr y =>
      obtain ⟨g1, g2, g3, g4⟩ := rg_cl ht hc hi hr e
      have hc1 := cup_ok hc g4
      have hk := skN_le (tp := tp) g2
      rw [se_eq e] at h
      by_cases z : chN tp n (skN tp n y.1) = 0
      · rw [if_pos z] at h
        cases w : wzS (cup c y.2.1) y.2.2 with
        | true => rw [w, if_pos rfl] at h; cases h; exact ⟨g1, hc1, w⟩
        | false => rw [w, if_neg (show ¬ (false = true) by decide)] at h; cases h
      · rw [if_neg z] at h
        by_cases z2 : chN tp n (skN tp n y.1) = 59
        · rw [if_pos z2] at h
          have hlt := chN_p z2 (by omega)
          exact ih _ _ _ _ (by omega) hc1 g1 h
        · rw [if_neg z2] at h; cases h
theorem rg_z {D : Nat → Int32} : RNG cZ D := fun so a k _ x2 _ => absurd x2 (Nat.not_lt_zero _)
theorem tw_of {I x y : Nat} (hI : I ≤ 6) (hx : x ≤ 5) (hy : y ≤ 5) (h : twB I (nI x) (nI y) = true) : ¬ x = y ∧ x < I ∧ y < I := by
  unfold twB at h
  simp only [Bool.and_eq_true, Bool.not_eq_true', decide_eq_false_iff_not] at h
  obtain ⟨h1, h2, h3⟩ := h
  refine ⟨fun z => h1 (by rw [z]), ?_, ?_⟩
  · apply Classical.byContradiction; intro z; exact h2 (nI_le (by omega) (by omega))
  · apply Classical.byContradiction; intro z; exact h3 (nI_le (by omega) (by omega))
theorem wz_at {I f : Nat} {D : Nat → Int32} : ∀ m j, wzL I D f m j = true → ∀ t, j ≤ t → t < j + m → twB I (D ((f + t) * 8)) (D ((f + t) * 8 + 1)) = true := by
  intro m
  induction m with
  | zero => intro j _ t h1 h2; omega
  | succ m ih =>
    intro j h t h1 h2
    unfold wzL at h
    simp only [Bool.and_eq_true] at h
    by_cases e : t = j
    · rw [e]; exact h.1
    · exact ih (j + 1) h.2 t (by omega) (by omega)
theorem hi_v : hiN 1 2 = 9 ∧ loN 1 2 = 1 ∧ hiN 1 5 = 9 ∧ hiN 1 6 = 99 ∧ hiN 1 7 = 99 ∧ hiN 2 0 = 5 ∧ hiN 2 1 = 5 ∧ hiN 3 0 = 5 ∧ hiN 3 1 = 5 ∧ hiN 3 2 = 99 := by decide +kernel
/-- what the invariant asks of a sea's cells -/
theorem rg_SE {c : CNT} {D w : Nat → Int32} (hr : RNG c D) (hc : cOK c) (hw : wzS c D = true) (e : ∀ k, k < 152 → w k = D k) : 2 ≤ c 1 ∧ SE (c 1) (c 2) (c 3) w ∧ (∀ a, a < c 1 → ∃ m : Nat, 1 ≤ m ∧ m ≤ 99 ∧ w ((1 + a) * 8 + 2) = nI m) ∧ ∀ a, a < c 1 → ∃ q : Nat, q ≤ 99 ∧ w ((1 + a) * 8 + 7) = nI q := by
  obtain ⟨z0, z1, z2, z3⟩ := szn_v
  obtain ⟨f0, f1, f2, f3⟩ := frn_v
  obtain ⟨m0, m1, m2, m3⟩ := mx_v
  have hc1 := hc 1 (by omega)
  have hc2 := hc 2 (by omega)
  have hc3 := hc 3 (by omega)
  obtain ⟨v1, v2, v3, v4, v5, v6, v7, v8, v9, v10⟩ := hi_v
  unfold wzS at hw
  simp only [Bool.and_eq_true, decide_eq_true_eq] at hw
  obtain ⟨h2, hT, hB⟩ := hw
  refine ⟨h2, ⟨⟨by omega, by omega, by omega⟩, fun t ht => ?_, fun t ht => ?_, fun a ha => ⟨?_, ?_⟩⟩, fun a ha => ?_, fun a ha => ?_⟩
  · obtain ⟨x, x1, x2, x3⟩ := hr 2 t 0 (by omega) ht (by omega)
    obtain ⟨y, y1, y2, y3⟩ := hr 2 t 1 (by omega) ht (by omega)
    rw [f2, Nat.add_zero] at x3
    rw [f2] at y3
    have := wz_at _ _ hT t (by omega) (by omega)
    rw [x3, y3] at this
    obtain ⟨t1, t2, t3⟩ := tw_of (by omega) (by omega) (by omega) this
    have ex : w ((7 + t) * 8) = nI x := (e _ (by omega)).trans x3
    have ey : w ((7 + t) * 8 + 1) = nI y := (e _ (by omega)).trans y3
    unfold ta tb
    rw [ex, ey, nI_clamp (by omega), nI_clamp (by omega)]
    exact ⟨rfl, t2, rfl, t3⟩
  · obtain ⟨x, x1, x2, x3⟩ := hr 3 t 0 (by omega) ht (by omega)
    obtain ⟨y, y1, y2, y3⟩ := hr 3 t 1 (by omega) ht (by omega)
    obtain ⟨u, u1, u2, u3⟩ := hr 3 t 2 (by omega) ht (by omega)
    rw [f3, Nat.add_zero] at x3
    rw [f3] at y3 u3
    have := wz_at _ _ hB t (by omega) (by omega)
    rw [x3, y3] at this
    obtain ⟨t1, t2, t3⟩ := tw_of (by omega) (by omega) (by omega) this
    have ex : w ((15 + t) * 8) = nI x := (e _ (by omega)).trans x3
    have ey : w ((15 + t) * 8 + 1) = nI y := (e _ (by omega)).trans y3
    have eu : w ((15 + t) * 8 + 2) = nI u := (e _ (by omega)).trans u3
    unfold ba bb
    rw [ex, ey, eu, nI_clamp (by omega), nI_clamp (by omega)]
    exact ⟨rfl, t2, rfl, t3, nI_pos' (by omega)⟩
  · obtain ⟨x, x1, x2, x3⟩ := hr 1 a 5 (by omega) ha (by omega)
    rw [f1] at x3
    exact ⟨x, by omega, (e _ (by omega)).trans x3⟩
  · obtain ⟨x, x1, x2, x3⟩ := hr 1 a 6 (by omega) ha (by omega)
    rw [f1] at x3
    exact ⟨x, by omega, (e _ (by omega)).trans x3⟩
  · obtain ⟨x, x1, x2, x3⟩ := hr 1 a 2 (by omega) ha (by omega)
    rw [f1] at x3
    exact ⟨x, by omega, by omega, (e _ (by omega)).trans x3⟩
  · obtain ⟨x, x1, x2, x3⟩ := hr 1 a 7 (by omega) ha (by omega)
    rw [f1] at x3
    exact ⟨x, by omega, (e _ (by omega)).trans x3⟩
end
