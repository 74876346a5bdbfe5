/-! ===== a rule's codes: all that a text may give ===== -/
section
variable {s s' t : S2} {tp : Nat → Nat} {n : Nat}
def TOp (L : List Nat) : Prop := ∀ k, k < L.length → ¬ L[k]?.getD 0 = 59 ∧ L[k]?.getD 0 < 20000
theorem top_app {L L' : List Nat} (h : TOp L) (h' : TOp L') : TOp (L ++ L') := fun k hk => by
  rw [List.length_append] at hk
  by_cases c : k < L.length
  · rw [List.getElem?_append_left c]; exact h k c
  · rw [List.getElem?_append_right (by omega)]; exact h' (k - L.length) (by omega)
theorem top_1 {c : Nat} (h : ¬ c = 59 ∧ c < 20000) : TOp [c] := fun k hk => by
  have : k = 0 := by rw [l1] at hk; omega
  subst this
  exact h
theorem tv_not {x : Int32} (h : tvI x) : tvI (nI 1 - x) := by
  rcases h with rfl | rfl
  · exact Or.inr (by decide)
  · exact Or.inl (by decide)
theorem qx_bin {b : Bool} {tr tr' : Bool} {m c : Nat} {L L' : List Nat} (hc : 6 ≤ c ∧ c < 256 ∧ ¬ c = 59 ∧ ¬ c = 63 ∧ ¬ c = 33) (hk : 1 < (kd c).1 ∧ (kd c).1 < 100 ∧ ¬ (kd c).1 = 9) (hj : ∀ x y s, (tr = true → tvI x ∧ tvI y) → (∃ q, f_Rule_join (nI c) (Int32.toInt64 x) (Int32.toInt64 y) s = some q ∧ bndL q = opS c x y) ∧ f_M_worked (nI (kd c).1) (Int32.toInt64 x) (Int32.toInt64 y) s = some (opS c x y)) (ht : tr' = true → ∀ x y, tvI (opS c x y)) (h : QX tr (m + 1) L) (h' : QX tr m L') : QX tr' (m + 1) (L ++ L' ++ [c]) := by
  obtain ⟨a1, a2, a3, f, a4, a5, a6⟩ := h
  obtain ⟨b1, b2, b3, g, b4, b5, b6⟩ := h'
  have hv : ∀ E, tr = true → tvI (f E) ∧ tvI (g E) := fun E z => ⟨a4 z E, b4 z E⟩
  refine ⟨a1, by rw [List.length_append, l1]; omega, top_app (top_app a3 b3) (top_1 ⟨hc.2.2.1, by omega⟩), fun E => opS c (f E) (g E), fun z E => ht z _ _, cm_bin hc b1 (fun E s => (hj _ _ s (hv E)).1) a5 b5, mm_bin hk b1 (fun E s => (hj _ _ s (hv E)).2) a6 b6⟩
theorem kd_v : ∀ c, c < 256 → 6 ≤ c → 1 < (kd c).1 ∧ (kd c).1 < 100 ∧ (¬ c = 33 → ¬ (kd c).1 = 9) := by decide +kernel
theorem QC_QX : QC QX := by
  refine ⟨fun b m m' L hm h => ?_, fun v hv => ?_, fun k hk => ?_, fun m L h => ?_, fun m L L' c hc h h' => ?_, fun m L L' c hc h h' => ?_, fun m L L' c hc h h' => ?_⟩
  · obtain ⟨a1, a2, a3, f, a4, a5, a6⟩ := h
    exact ⟨by omega, a2, a3, f, a4, cm_mono hm a5, mm_mono hm a6⟩
  · exact ⟨Nat.le_refl _, Nat.zero_lt_one, top_1 ⟨by omega, by omega⟩, fun _ => nI v, fun z => (by cases z), cm_num (Nat.le_refl _) hv, mm_num (Nat.le_refl _) hv⟩
  · exact ⟨Nat.le_refl _, Nat.zero_lt_one, top_1 ⟨by omega, by omega⟩, fun E => E k, fun z => (by cases z), cm_let (Nat.le_refl _) hk, mm_let (Nat.le_refl _) hk⟩
  · obtain ⟨a1, a2, a3, f, a4, a5, a6⟩ := h
    exact ⟨a1, by rw [List.length_append, l1]; omega, top_app a3 (top_1 ⟨by omega, by omega⟩), fun E => nI 1 - f E, fun z E => tv_not (a4 z E), cm_not a1 a5, mm_not a1 a6⟩
  · have h6 : 6 ≤ c ∧ c < 256 ∧ ¬ c = 59 ∧ ¬ c = 63 ∧ ¬ c = 33 := by omega
    have hk := kd_v c h6.2.1 h6.1
    exact qx_bin (b := true) h6 ⟨hk.1, hk.2.1, hk.2.2 h6.2.2.2.2⟩ (fun x y s _ => ⟨fc_join (Or.inl hc), fm_worked (Or.inl hc)⟩) (fun z => (by cases z)) h h'
  · have h6 : 6 ≤ c ∧ c < 256 ∧ ¬ c = 59 ∧ ¬ c = 63 ∧ ¬ c = 33 := by have := isC_pos hc; omega
    have hk := kd_v c h6.2.1 h6.1
    exact qx_bin (b := true) h6 ⟨hk.1, hk.2.1, hk.2.2 h6.2.2.2.2⟩ (fun x y s _ => ⟨fc_join (Or.inr hc), fm_worked (Or.inr hc)⟩) (fun _ x y => op_tv (Or.inl hc)) h h'
  · have h6 : 6 ≤ c ∧ c < 256 ∧ ¬ c = 59 ∧ ¬ c = 63 ∧ ¬ c = 33 := by omega
    have hk := kd_v c h6.2.1 h6.1
    exact qx_bin (b := true) h6 ⟨hk.1, hk.2.1, hk.2.2 h6.2.2.2.2⟩ (fun x y s hv => ⟨fc_jnL hc (hv rfl).1 (hv rfl).2, fm_workedL hc (hv rfl).1 (hv rfl).2⟩) (fun _ x y => op_tv (Or.inr hc)) h h'
/-- the class at the end of a clause -/
theorem cs_end {N p len : Nat} {k : Int32 → Int32 → Int32 → S2 → Option (S2 × Int32)} (hlen : t.1 17 N 2 = nI len) (h241 : len ≤ 241) (hp : p < len) (e0 : t.1 18 N p = nI 59) : b_Rule_worth_L7 N 32 0 6 k (nI 1) (nI 0) (nI p) t = some (t, t.1 19 N 0) := by
  unfold b_Rule_worth_L7
  rw [hlen, if_neg (nI_ge (by omega) (by omega)), ix_nI (n := 241) (k := p) (by omega) (by omega), Option.bind_some, if_pos nI_0, e0, of_256, if_neg (nI_ge (by omega) (by omega)), of_6, if_pos (nI_le (by omega) (by omega)), of_1, if_pos (nI_le (by omega) (by omega)), of_59, if_pos rfl, sub_nI (by omega), show 1 - 1 = 0 from rfl, ix_nI (n := 32) (k := 0) (by omega) (by omega), Option.bind_some]
/-- the class at the end of a test -/
theorem cs_test {N p len : Nat} {k : Int32 → Int32 → Int32 → S2 → Option (S2 × Int32)} (hlen : t.1 17 N 2 = nI len) (h241 : len ≤ 241) (hp : p < len) (e0 : t.1 18 N p = nI 63) : b_Rule_worth_L7 N 32 0 6 k (nI 1) (nI 0) (nI p) t = if t.1 19 N 0 = 0 then k (nI 0) (nI 1) (nI (p + 1)) t else k (nI 0) (nI 0) (nI (p + 1)) t := by
  have hm := addm1 0 (by omega)
  unfold b_Rule_worth_L7 f_Rule_worth_L148 f_Rule_worth_L236
  rw [hlen, if_neg (nI_ge (by omega) (by omega)), ix_nI (n := 241) (k := p) (by omega) (by omega), Option.bind_some, if_pos nI_0, e0, of_256, if_neg (nI_ge (by omega) (by omega)), of_6, if_pos (nI_le (by omega) (by omega)), of_1, if_pos (nI_le (by omega) (by omega)), of_59, if_neg (show ¬ nI 63 = nI 59 by decide), of_63, if_pos rfl, show nI 1 = nI (0 + 1) from rfl, hm, ix_nI (n := 32) (k := 0) (by omega) (by omega), Option.bind_some, nI_add, show Int32.ofInt 0 = nI 0 from of_0]
/-- the class behind a test that fails: all up to the clause's end is passed over -/
theorem sk_find {N h len : Nat} (hlen : t.1 17 N 2 = nI len) (h241 : len ≤ 241) : ∀ (m p fu : Nat), p + m < len → (∀ k, k < m → ∃ c, c < 20000 ∧ ¬ c = 59 ∧ t.1 18 N (p + k) = nI c) → t.1 18 N (p + m) = nI 59 → f_Rule_worth_L7 N 32 0 6 (fu + 1 + m) (nI h) (nI 1) (nI p) t = f_Rule_worth_L7 N 32 0 6 fu (nI h) (nI 0) (nI (p + m + 1)) t := by
  intro m
  induction m with
  | zero =>
    intro p fu hp _ e
    have e : t.1 18 N p = nI 59 := e
    show f_Rule_worth_L7 N 32 0 6 (fu + 1) _ _ _ _ = _
    rw [wl_s]
    unfold b_Rule_worth_L7 f_Rule_worth_L41 f_Rule_worth_L236
    rw [hlen, if_neg (nI_ge (by omega) (by omega)), ix_nI (n := 241) (k := p) (by omega) (by omega), Option.bind_some, if_neg (show ¬ nI 1 = 0 by decide), e, of_59, if_pos rfl, show Int32.ofInt 0 = nI 0 from of_0, of_1, nI_add, Nat.add_zero]
  | succ m ih =>
    intro p fu hp hk e
    obtain ⟨c, c1, c2, c3⟩ := hk 0 (by omega)
    rw [Nat.add_zero] at c3
    rw [show fu + 1 + (m + 1) = fu + 1 + m + 1 by omega, wl_s]
    unfold b_Rule_worth_L7 f_Rule_worth_L41 f_Rule_worth_L236
    rw [hlen, if_neg (nI_ge (by omega) (by omega)), ix_nI (n := 241) (k := p) (by omega) (by omega), Option.bind_some, if_neg (show ¬ nI 1 = 0 by decide), c3, of_59, if_neg (fun z => c2 ((nI_eq (by omega) (by omega)).mp z)), of_1, nI_add, ih (p + 1) fu (by omega) (fun k hkm => by
      obtain ⟨d, d1, d2, d3⟩ := hk (k + 1) (by omega)
      exact ⟨d, d1, d2, by rw [← d3, show p + (k + 1) = p + 1 + k by omega]⟩) (by rw [← e, show p + (m + 1) = p + 1 + m by omega]), show p + 1 + m = p + (m + 1) by omega]
end
