/-! ===== the past: keep and note, both sides ===== -/
section
variable {I T B R : Nat} {W : Option WF6} {s s' : S2}
def puH (H : Nat × (Nat → Nat → Int32)) (v : Nat → Int32) : Nat × (Nat → Nat → Int32) :=
  if H.1 < 30 then (H.1 + 1, fun j => if j = H.1 then v else H.2 j) else (30, fun j => if j = 29 then v else H.2 (j + 1))
def puL (L : Nat × (Nat → Nat → Int32)) (g : Nat → Int32) : Nat × (Nat → Nat → Int32) :=
  if L.1 < 60 then (L.1 + 1, fun j => if j = L.1 then g else L.2 j) else (60, fun j => if j = 59 then g else L.2 (j + 1))
def cPa (H : Nat × (Nat → Nat → Int32)) (s : S2) : Prop := H.1 ≤ 30 ∧ s.1 22 0 2 = nI H.1 ∧ ∃ p : Nat, p < 30 ∧ s.1 22 0 3 = nI p ∧ ∀ j, j < H.1 → AG (H.2 j) (s.1 21 (5 + (p + 30 - H.1 + j) % 30))
def cLo (L : Nat × (Nat → Nat → Int32)) (s : S2) : Prop := L.1 ≤ 60 ∧ s.1 22 0 4 = nI L.1 ∧ ∃ q : Nat, q < 60 ∧ s.1 22 0 5 = nI q ∧ ∀ j, j < L.1 → ∀ k, k < 3 → s.1 24 0 ((q + 60 - L.1 + j) % 60 * 3 + k) = L.2 j k
def mPa (I T B : Nat) (H : Nat × (Nat → Nat → Int32)) (s : S2) : Prop := s.1 60 0 55 = nI H.1 ∧ ∀ j, j < H.1 → SV I T B (H.2 j) 92 (46 * j) s
def mLo (L : Nat × (Nat → Nat → Int32)) (s : S2) : Prop := s.1 60 0 57 = nI L.1 ∧ ∀ j, j < L.1 → ∀ k, k < 3 → s.1 93 0 (3 * j + k) = L.2 j k
theorem cPa_fr {H : Nat × (Nat → Nat → Int32)} (h : cPa H s) (h2 : s'.1 22 0 2 = s.1 22 0 2) (h3 : s'.1 22 0 3 = s.1 22 0 3) (h21 : ∀ i, s'.1 21 (5 + i) = s.1 21 (5 + i)) : cPa H s' := by
  obtain ⟨g1, g2, p, g3, g4, g5⟩ := h
  exact ⟨g1, h2.trans g2, p, g3, h3.trans g4, fun j hj => by rw [h21]; exact g5 j hj⟩
theorem cLo_fr {L : Nat × (Nat → Nat → Int32)} (h : cLo L s) (h4 : s'.1 22 0 4 = s.1 22 0 4) (h5 : s'.1 22 0 5 = s.1 22 0 5) (h24 : s'.1 24 0 = s.1 24 0) : cLo L s' := by
  obtain ⟨g1, g2, p, g3, g4, g5⟩ := h
  exact ⟨g1, h4.trans g2, p, g3, h5.trans g4, fun j hj => by rw [h24]; exact g5 j hj⟩
theorem mPa_fr {H : Nat × (Nat → Nat → Int32)} (h : mPa I T B H s) (h55 : s'.1 60 0 55 = s.1 60 0 55) (h92 : s'.1 92 0 = s.1 92 0) : mPa I T B H s' :=
  ⟨h55.trans h.1, fun j hj => SV_fr (h.2 j hj) h92⟩
theorem mLo_fr {L : Nat × (Nat → Nat → Int32)} (h : mLo L s) (h57 : s'.1 60 0 57 = s.1 60 0 57) (h93 : s'.1 93 0 = s.1 93 0) : mLo L s' :=
  ⟨h57.trans h.1, by rw [h93]; exact h.2⟩
theorem iPast_of {H L : Nat × (Nat → Nat → Int32)} (h6 : I ≤ 6) (h8 : T ≤ 8) (h4 : B ≤ 4) (h1 : cPa H s) (h2 : cLo L s) (h3 : mPa I T B H s) (h5 : mLo L s) (hl : H.1 ≤ L.1) (hv : ∀ j, j < H.1 → VS I (H.2 j)) : iPast I T B s := by
  obtain ⟨g1, g2, p, g3, g4, g5⟩ := h1
  obtain ⟨k1, k2, q, k3, k4, k5⟩ := h2
  exact ⟨H.1, p, L.1, q, g1, g3, k1, k3, hl, g2, h3.1, g4, k2, h5.1, k4, fun j hj => ⟨VS_ag (hv j hj) (g5 j hj), SV_ag h6 h8 h4 (h3.2 j hj) (g5 j hj)⟩, fun j hj k hk => (k5 j hj k hk).trans (h5.2 j hj k hk).symm⟩
theorem iPast_to (h : iPast I T B s) : ∃ H L, cPa H s ∧ cLo L s ∧ mPa I T B H s ∧ mLo L s ∧ H.1 ≤ L.1 ∧ ∀ j, j < H.1 → VS I (H.2 j) := by
  obtain ⟨a, p, l, q, g1, g2, g3, g4, g5, g6, g7, g8, g9, g10, g11, g12, g13⟩ := h
  exact ⟨(a, fun j => s.1 21 (5 + (p + 30 - a + j) % 30)), (l, fun j k => s.1 93 0 (3 * j + k)), ⟨g1, g6, p, g2, g8, fun j _ k _ => rfl⟩, ⟨g3, g9, q, g4, g11, fun j hj k hk => g13 j hj k hk⟩, ⟨g7, fun j hj => (g12 j hj).2⟩, ⟨g10, fun j _ k _ => rfl⟩, g5, fun j hj => (g12 j hj).1⟩
def Kck (c i k : Nat) : Bool := (c == 21 && Nat.ble 5 i) || (c == 22 && (k == 2 || k == 3))
theorem Kck_21 (i k : Nat) : Kck 21 (5 + i) k = true := by
  unfold Kck
  rw [show Nat.ble 5 (5 + i) = true from Nat.ble_eq_true_of_le (by omega)]
  rfl
theorem fc_keep {H : Nat × (Nat → Nat → Int32)} (h : cPa H s) : ∃ s', f_Past_keep 0 s = some s' ∧ cPa (puH H (s.1 21 0)) s' ∧ Fr Kck s s' := by
  obtain ⟨g1, g2, p, g3, g4, g5⟩ := h
  have F0 : Fr Kck s (cpS s 21 (5 + p) (s.1 21 0) 0 0 49) := Fr_cp (fun k => Kck_21 p k) s _ 0 0 49
  obtain ⟨s', hs'⟩ : ∃ s', pkS (pkS (cpS s 21 (5 + p) (s.1 21 0) 0 0 49) 22 0 3 (nI ((p + 1) % 30))) 22 0 2 (nI (min 30 (H.1 + 1))) = s' := ⟨_, rfl⟩
  have e22 : (cpS s 21 (5 + p) (s.1 21 0) 0 0 49).1 22 0 = s.1 22 0 := by rw [cpS_1, if_neg (by omega)]
  have eS : s'.1 21 (5 + p) = (cpS s 21 (5 + p) (s.1 21 0) 0 0 49).1 21 (5 + p) := by rw [← hs', pkS_1, if_neg (by omega), pkS_1, if_neg (by omega)]
  have eN : ∀ i, ¬ i = p → s'.1 21 (5 + i) = s.1 21 (5 + i) := fun i hi => by
    rw [← hs', pkS_1, if_neg (by omega), pkS_1, if_neg (by omega), cpS_1, if_neg (by omega)]
  have e2 : s'.1 22 0 2 = nI (min 30 (H.1 + 1)) := by rw [← hs', pkS_v, if_pos ⟨rfl, rfl, rfl⟩]
  have e3 : s'.1 22 0 3 = nI ((p + 1) % 30) := by rw [← hs', pkS_v, if_neg (by omega), pkS_v, if_pos ⟨rfl, rfl, rfl⟩]
  have eA : AG (s.1 21 0) (s'.1 21 (5 + p)) := by rw [eS]; exact cpS_ag s (5 + p) 0
  refine ⟨s', ?_, ?_, ?_⟩
  · unfold f_Past_keep
    rw [g4, ix_nI (n := 30) (k := p) (by omega) (by omega), Option.bind_some, fc_copy, Option.bind_some, e22, g4, of_1, nI_add, of_30, jrem_nI (by omega) (by omega) (by omega), Option.bind_some, show (pkS (cpS s 21 (5 + p) (s.1 21 0) 0 0 49) 22 0 3 (nI ((p + 1) % 30))).1 22 0 2 = nI H.1 by rw [pkS_v, if_neg (by omega), e22, g2], nI_add, jmin_nI (by omega) (by omega), hs']
    rfl
  · unfold puH
    by_cases c : H.1 < 30
    · rw [if_pos c]
      refine ⟨c, by rw [e2, Nat.min_eq_right (by omega)], (p + 1) % 30, by omega, e3, fun j hj => ?_⟩
      show AG (if j = H.1 then s.1 21 0 else H.2 j) (s'.1 21 (5 + ((p + 1) % 30 + 30 - (H.1 + 1) + j) % 30))
      rw [show ((p + 1) % 30 + 30 - (H.1 + 1) + j) % 30 = (p + 30 - H.1 + j) % 30 by omega]
      have hj' : j < H.1 + 1 := hj
      by_cases d : j = H.1
      · rw [if_pos d, show (p + 30 - H.1 + j) % 30 = p by omega]
        exact eA
      · rw [if_neg d, eN _ (by omega)]
        exact g5 j (by omega)
    · rw [if_neg c]
      refine ⟨by omega, by rw [e2, Nat.min_eq_left (by omega)], (p + 1) % 30, by omega, e3, fun j hj => ?_⟩
      show AG (if j = 29 then s.1 21 0 else H.2 (j + 1)) (s'.1 21 (5 + ((p + 1) % 30 + 30 - 30 + j) % 30))
      have hj' : j < 30 := hj
      by_cases d : j = 29
      · rw [if_pos d, show ((p + 1) % 30 + 30 - 30 + j) % 30 = p by omega]
        exact eA
      · rw [if_neg d, eN _ (by omega), show ((p + 1) % 30 + 30 - 30 + j) % 30 = (p + 30 - H.1 + (j + 1)) % 30 by omega]
        exact g5 (j + 1) (by omega)
  · rw [← hs']
    exact (F0.pk' _ rfl).pk' _ rfl
def g3S (x y z : Int32) (k : Nat) : Int32 := if k = 0 then x else if k = 1 then y else z
def Kcp (c _ k : Nat) : Bool := c == 24 || (c == 22 && (k == 4 || k == 5))
theorem fc_put {L : Nat × (Nat → Nat → Int32)} {x y z : Int32} (h : cLo L s) : ∃ s', f_Past_putBy x y z s = some s' ∧ cLo (puL L (g3S x y z)) s' ∧ Fr Kcp s s' := by
  obtain ⟨g1, g2, p, g3, g4, g5⟩ := h
  obtain ⟨t, ht⟩ : ∃ t, pkS (pkS (pkS s 24 0 (3 * p) x) 24 0 (3 * p + 1) y) 24 0 (3 * p + 2) z = t := ⟨_, rfl⟩
  obtain ⟨s', hs'⟩ : ∃ s', pkS (pkS t 22 0 5 (nI ((p + 1) % 60))) 22 0 4 (nI (min 60 (L.1 + 1))) = s' := ⟨_, rfl⟩
  have e22 : t.1 22 0 = s.1 22 0 := by rw [← ht, pkS_1, if_neg (by omega), pkS_1, if_neg (by omega), pkS_1, if_neg (by omega)]
  have eS : ∀ k, k < 3 → s'.1 24 0 (p * 3 + k) = g3S x y z k := fun k hk => by
    rw [← hs', pkS_v, if_neg (by omega), pkS_v, if_neg (by omega), ← ht]
    unfold g3S
    rcases (show k = 0 ∨ k = 1 ∨ k = 2 by omega) with rfl | rfl | rfl
    · rw [pkS_v, if_neg (by omega), pkS_v, if_neg (by omega), pkS_v, if_pos ⟨rfl, rfl, by omega⟩]; rfl
    · rw [pkS_v, if_neg (by omega), pkS_v, if_pos ⟨rfl, rfl, by omega⟩]; rfl
    · rw [pkS_v, if_pos ⟨rfl, rfl, by omega⟩]; rfl
  have eN : ∀ i, ¬ i = p → ∀ k, k < 3 → s'.1 24 0 (i * 3 + k) = s.1 24 0 (i * 3 + k) := fun i hi k hk => by
    rw [← hs', pkS_v, if_neg (by omega), pkS_v, if_neg (by omega), ← ht, pkS_v, if_neg (by omega), pkS_v, if_neg (by omega), pkS_v, if_neg (by omega)]
  have e4 : s'.1 22 0 4 = nI (min 60 (L.1 + 1)) := by rw [← hs', pkS_v, if_pos ⟨rfl, rfl, rfl⟩]
  have e5 : s'.1 22 0 5 = nI ((p + 1) % 60) := by rw [← hs', pkS_v, if_neg (by omega), pkS_v, if_pos ⟨rfl, rfl, rfl⟩]
  refine ⟨s', ?_, ?_, ?_⟩
  · unfold f_Past_putBy
    rw [g4, of_3, mul_nI, ix_nI (n := 180) (k := p * 3) (by omega) (by omega), Option.bind_some, Option.bind_some, show (pkS s 24 0 (p * 3) x).1 22 0 5 = nI p by rw [pkS_v, if_neg (by omega), g4], mul_nI, of_1, nI_add, ix_nI (n := 180) (k := p * 3 + 1) (by omega) (by omega), Option.bind_some, Option.bind_some, show (pkS (pkS s 24 0 (p * 3) x) 24 0 (p * 3 + 1) y).1 22 0 5 = nI p by rw [pkS_v, if_neg (by omega), pkS_v, if_neg (by omega), g4], mul_nI, of_2, nI_add, ix_nI (n := 180) (k := p * 3 + 2) (by omega) (by omega), Option.bind_some, Option.bind_some, show p * 3 = 3 * p by omega, ht, e22, g4, nI_add, of_60, jrem_nI (by omega) (by omega) (by omega), Option.bind_some, show (pkS t 22 0 5 (nI ((p + 1) % 60))).1 22 0 4 = nI L.1 by rw [pkS_v, if_neg (by omega), e22, g2], nI_add, jmin_nI (by omega) (by omega), hs']
    rfl
  · unfold puL
    by_cases c : L.1 < 60
    · rw [if_pos c]
      refine ⟨c, by rw [e4, Nat.min_eq_right (by omega)], (p + 1) % 60, by omega, e5, fun j hj k hk => ?_⟩
      show s'.1 24 0 (((p + 1) % 60 + 60 - (L.1 + 1) + j) % 60 * 3 + k) = (if j = L.1 then g3S x y z else L.2 j) k
      rw [show ((p + 1) % 60 + 60 - (L.1 + 1) + j) % 60 = (p + 60 - L.1 + j) % 60 by omega]
      have hj' : j < L.1 + 1 := hj
      by_cases d : j = L.1
      · rw [if_pos d, show (p + 60 - L.1 + j) % 60 = p by omega]
        exact eS k hk
      · rw [if_neg d, eN _ (by omega) k hk]
        exact g5 j (by omega) k hk
    · rw [if_neg c]
      refine ⟨by omega, by rw [e4, Nat.min_eq_left (by omega)], (p + 1) % 60, by omega, e5, fun j hj k hk => ?_⟩
      show s'.1 24 0 (((p + 1) % 60 + 60 - 60 + j) % 60 * 3 + k) = (if j = 59 then g3S x y z else L.2 (j + 1)) k
      have hj' : j < 60 := hj
      by_cases d : j = 59
      · rw [if_pos d, show ((p + 1) % 60 + 60 - 60 + j) % 60 = p by omega]
        exact eS k hk
      · rw [if_neg d, eN _ (by omega) k hk, show ((p + 1) % 60 + 60 - 60 + j) % 60 = (p + 60 - L.1 + (j + 1)) % 60 by omega]
        exact g5 (j + 1) (by omega) k hk
  · rw [← hs', ← ht]
    exact (((((Fr.refl _ s).pk' _ rfl).pk' _ rfl).pk' _ rfl).pk' _ rfl).pk' _ rfl
theorem SV_move {v : Nat → Int32} {c off off' : Nat} (h6 : I ≤ 6) (h8 : T ≤ 8) (h : SV I T B v c off s) (e : ∀ i, i < 46 → s'.1 c 0 (off' + i) = s.1 c 0 (off + i)) : SV I T B v c off' s' := by
  obtain ⟨r1, r2, ⟨m, m1, m2, m3⟩, r4⟩ := h
  refine ⟨fun a ha => ?_, fun t ht => ?_, ⟨m, m1, (e 44 (by omega)).trans m2, m3⟩, (e 45 (by omega)).trans r4⟩
  · obtain ⟨k0, k1, k2, k3, k4, k5⟩ := r1 a ha
    have f1 := e (5 * a + 1) (by omega)
    have f2 := e (5 * a + 2) (by omega)
    have f3 := e (5 * a + 3) (by omega)
    have f4 := e (5 * a + 4) (by omega)
    have f5 := e (38 + a) (by omega)
    rw [← Nat.add_assoc, ← Nat.add_assoc] at f1 f2 f3 f4 f5
    exact ⟨(e (5 * a) (by omega)).trans k0, f1.trans k1, f2.trans k2, f3.trans k3, f4.trans k4, f5.trans k5⟩
  · have f := e (30 + t) (by omega)
    rw [← Nat.add_assoc, ← Nat.add_assoc] at f
    exact f.trans (r2 t ht)
def Kmk (c _ k : Nat) : Bool := c == 92 || (c == 60 && k == 55)
theorem fm_keep50 {a : Nat} {v : Nat → Int32} {h : Nat → Nat → Int32} (h6 : I ≤ 6) (h8 : T ≤ 8) (ha : a < 30) (hr : RS I T B v s) (h55 : s.1 60 0 55 = nI a) (hs : ∀ j, j < a → SV I T B (h j) 92 (46 * j) s) : ∃ s', f_M_keep_L50 s = some s' ∧ s'.1 60 0 55 = nI (a + 1) ∧ (∀ j, j < a + 1 → SV I T B (if j = a then v else h j) 92 (46 * j) s') ∧ Fr Kmk s s' := by
  obtain ⟨s1, a1, a2, a3⟩ := fm_write (c := 92) (n := 1380) (off := 46 * a) (Or.inr (Or.inl rfl)) (by omega) (by omega) h8 h6 hr
  refine ⟨pkS s1 60 0 55 (nI (a + 1)), ?_, by rw [pkS_v, if_pos ⟨rfl, rfl, rfl⟩], fun j hj => ?_, (a3.mono fun c i k hk => Ksv_f fun z => ?_).pk' _ rfl⟩
  · unfold f_M_keep_L50
    rw [h55, of_46, mul_nI, a1, Option.bind_some, a3.1 60 0 55 (Ksv_f (by omega)), h55, of_1, nI_add]
    rfl
  · refine SV_fr ?_ (show (pkS s1 60 0 55 (nI (a + 1))).1 92 0 = s1.1 92 0 by rw [pkS_1, if_neg (by omega)])
    by_cases d : j = a
    · rw [if_pos d, d]; exact a2
    · rw [if_neg d]
      refine SV_move h6 h8 (hs j (by omega)) fun i hi => a3.1 92 0 _ ?_
      unfold Ksv
      rw [show Nat.ble (46 * a) (46 * j + i) = false from by
        cases q : Nat.ble (46 * a) (46 * j + i) with
        | false => rfl
        | true => have := Nat.le_of_ble_eq_true q; omega]
      simp
  · subst z
    unfold Kmk at hk
    simp at hk
theorem fm_shift {s0 : S2} : ∀ (m x fu : Nat) (s : S2), x + m = 1380 → 46 ≤ x → m < fu → s.1 60 0 55 = nI 30 → (∀ i, i < x - 46 → s.1 92 0 i = s0.1 92 0 (i + 46)) → (∀ i, x - 46 ≤ i → s.1 92 0 i = s0.1 92 0 i) → Fr Kmk s0 s → ∃ s', f_M_keep_L12 fu (nI x) s = f_M_keep_L50 s' ∧ s'.1 60 0 55 = nI 29 ∧ (∀ i, i < 1334 → s'.1 92 0 i = s0.1 92 0 (i + 46)) ∧ Fr Kmk s0 s' := by
  intro m
  induction m with
  | zero =>
    intro x fu s hx h1 hf h55 hlo hhi hF
    obtain ⟨f, rfl, hf'⟩ := suc_of hf
    refine ⟨pkS s 60 0 55 (nI 29), ?_, by rw [pkS_v, if_pos ⟨rfl, rfl, rfl⟩], fun i hi => ?_, hF.pk' _ rfl⟩
    · show b_M_keep_L12 _ _ _ = _
      unfold b_M_keep_L12
      rw [of_1380, if_pos (nI_le (by omega) (by omega)), h55, of_1, sub_nI (by omega), Option.bind_some]
    · rw [pkS_v, if_neg (by omega)]
      exact hlo i (by omega)
  | succ m ih =>
    intro x fu s hx h1 hf h55 hlo hhi hF
    obtain ⟨f, rfl, hf'⟩ := suc_lt hf
    show ∃ s', b_M_keep_L12 _ _ _ = _ ∧ _
    unfold b_M_keep_L12
    rw [of_1380, if_neg (nI_ge (by omega) (by omega)), ix_nI (n := 1380) (k := x) (by omega) (by omega), Option.bind_some, of_46, sub_nI (by omega), ix_nI (n := 1380) (k := x - 46) (by omega) (by omega), Option.bind_some, Option.bind_some, of_1, nI_add]
    refine ih (x + 1) f _ (by omega) (by omega) (by omega) (by rw [pkS_v, if_neg (by omega)]; exact h55) (fun i hi => ?_) (fun i hi => ?_) (hF.pk' _ rfl)
    · rw [pkS_v]
      by_cases d : i = x - 46
      · rw [if_pos ⟨rfl, rfl, d⟩, hhi x (by omega), show i + 46 = x by omega]
      · rw [if_neg (by omega)]
        exact hlo i (by omega)
    · rw [pkS_v, if_neg (by omega)]
      exact hhi i (by omega)
theorem fm_keep {H : Nat × (Nat → Nat → Int32)} {v : Nat → Int32} (h6 : I ≤ 6) (h8 : T ≤ 8) (hH : H.1 ≤ 30) (hr : RS I T B v s) (h : mPa I T B H s) : ∃ s', f_M_keep s = some s' ∧ mPa I T B (puH H v) s' ∧ Fr Kmk s s' := by
  obtain ⟨h1, h2⟩ := h
  unfold f_M_keep puH
  rw [h1, of_30]
  by_cases c : H.1 < 30
  · rw [if_pos c, if_neg (fun z => by have := (nI_eq (by omega) (by omega)).mp z; omega)]
    obtain ⟨s', a1, a2, a3, a4⟩ := fm_keep50 h6 h8 c hr h1 h2
    exact ⟨s', a1, ⟨a2, a3⟩, a4⟩
  · have e : H.1 = 30 := by omega
    rw [if_neg c, if_pos (by rw [e]), of_46]
    obtain ⟨s1, b1, b2, b3, b4⟩ := fm_shift (s0 := s) 1334 46 FU s (by omega) (by omega) (lt_FU (by omega)) (by rw [h1, e]) (fun i hi => by omega) (fun i _ => rfl) (Fr.refl _ s)
    have hr1 : RS I T B v s1 := RS_fr hr (b4.arr fun _ => rfl) (b4.arr fun _ => rfl) (b4.arr fun _ => rfl) (b4.arr fun _ => rfl) (b4.arr fun _ => rfl) (b4.arr fun _ => rfl) (b4.arr fun _ => rfl) (b4.1 _ _ _ rfl) (b4.1 _ _ _ rfl)
    obtain ⟨s', a1, a2, a3, a4⟩ := fm_keep50 (h := fun j => H.2 (j + 1)) h6 h8 (show 29 < 30 by omega) hr1 b2 (fun j hj => SV_move h6 h8 (h2 (j + 1) (by omega)) fun i hi => by
      rw [b3 _ (by omega), show 46 * j + i + 46 = 46 * (j + 1) + i by omega])
    exact ⟨s', b1.trans a1, ⟨a2, a3⟩, b4.trans a4⟩
def Kmn (c _ k : Nat) : Bool := c == 93 || (c == 60 && k == 57)
theorem fm_note48 {l : Nat} {g : Nat → Nat → Int32} (hl : l < 60) (h57 : s.1 60 0 57 = nI l) (hg : ∀ j, j < l → ∀ k, k < 3 → s.1 93 0 (3 * j + k) = g j k) : ∃ s', f_M_note_L48 s = some s' ∧ s'.1 60 0 57 = nI (l + 1) ∧ (∀ j, j < l + 1 → ∀ k, k < 3 → s'.1 93 0 (3 * j + k) = (if j = l then g3S (s.1 60 0 50) (s.1 60 0 51) (s.1 60 0 52) else g j) k) ∧ Fr Kmn s s' := by
  have e57 : ∀ x y : Int32, (pkS s 93 0 (3 * l) x).1 60 0 57 = nI l ∧ (pkS (pkS s 93 0 (3 * l) x) 93 0 (3 * l + 1) y).1 60 0 57 = nI l := fun x y => ⟨by rw [pkS_v, if_neg (by omega), h57], by rw [pkS_v, if_neg (by omega), pkS_v, if_neg (by omega), h57]⟩
  obtain ⟨t, ht⟩ : ∃ t, pkS (pkS (pkS s 93 0 (3 * l) (s.1 60 0 50)) 93 0 (3 * l + 1) (s.1 60 0 51)) 93 0 (3 * l + 2) (s.1 60 0 52) = t := ⟨_, rfl⟩
  have t57 : t.1 60 0 57 = nI l := by rw [← ht, pkS_v, if_neg (by omega), pkS_v, if_neg (by omega), pkS_v, if_neg (by omega), h57]
  refine ⟨pkS t 60 0 57 (nI (l + 1)), ?_, by rw [pkS_v, if_pos ⟨rfl, rfl, rfl⟩], fun j hj k hk => ?_, ?_⟩
  · unfold f_M_note_L48
    rw [h57, of_3, mul_nI, ix_nI (n := 180) (k := 3 * l) (by omega) (by omega), Option.bind_some, Option.bind_some, (e57 _ 0).1, mul_nI, of_1, nI_add, ix_nI (n := 180) (k := 3 * l + 1) (by omega) (by omega), Option.bind_some, Option.bind_some, show (pkS s 93 0 (3 * l) (s.1 60 0 50)).1 60 0 51 = s.1 60 0 51 by rw [pkS_v, if_neg (by omega)], (e57 _ _).2, mul_nI, of_2, nI_add, ix_nI (n := 180) (k := 3 * l + 2) (by omega) (by omega), Option.bind_some, Option.bind_some, show (pkS (pkS s 93 0 (3 * l) (s.1 60 0 50)) 93 0 (3 * l + 1) (s.1 60 0 51)).1 60 0 52 = s.1 60 0 52 by rw [pkS_v, if_neg (by omega), pkS_v, if_neg (by omega)], ht, t57, nI_add]
    rfl
  · rw [pkS_v, if_neg (by omega), ← ht]
    by_cases d : j = l
    · rw [if_pos d]
      unfold g3S
      rcases (show k = 0 ∨ k = 1 ∨ k = 2 by omega) with rfl | rfl | rfl
      · rw [pkS_v, if_neg (by omega), pkS_v, if_neg (by omega), pkS_v, if_pos ⟨rfl, rfl, by omega⟩]; rfl
      · rw [pkS_v, if_neg (by omega), pkS_v, if_pos ⟨rfl, rfl, by omega⟩]; rfl
      · rw [pkS_v, if_pos ⟨rfl, rfl, by omega⟩]; rfl
    · rw [if_neg d, pkS_v, if_neg (by omega), pkS_v, if_neg (by omega), pkS_v, if_neg (by omega)]
      exact hg j (by omega) k hk
  · rw [← ht]
    exact ((((Fr.refl _ s).pk' _ rfl).pk' _ rfl).pk' _ rfl).pk' _ rfl
theorem fm_shiftN {s0 : S2} : ∀ (m x fu : Nat) (s : S2), x + m = 180 → 3 ≤ x → m < fu → s.1 60 0 57 = nI 60 → (∀ i, i < x - 3 → s.1 93 0 i = s0.1 93 0 (i + 3)) → (∀ i, x - 3 ≤ i → s.1 93 0 i = s0.1 93 0 i) → Fr Kmn s0 s → ∃ s', f_M_note_L11 fu (nI x) s = f_M_note_L48 s' ∧ s'.1 60 0 57 = nI 59 ∧ (∀ i, i < 177 → s'.1 93 0 i = s0.1 93 0 (i + 3)) ∧ Fr Kmn s0 s' := by
  intro m
  induction m with
  | zero =>
    intro x fu s hx h1 hf h55 hlo hhi hF
    obtain ⟨f, rfl, hf'⟩ := suc_of hf
    refine ⟨pkS s 60 0 57 (nI 59), ?_, by rw [pkS_v, if_pos ⟨rfl, rfl, rfl⟩], fun i hi => ?_, hF.pk' _ rfl⟩
    · show b_M_note_L11 _ _ _ = _
      unfold b_M_note_L11
      rw [of_180, if_pos (nI_le (by omega) (by omega)), h55, of_1, sub_nI (by omega), Option.bind_some]
    · rw [pkS_v, if_neg (by omega)]
      exact hlo i (by omega)
  | succ m ih =>
    intro x fu s hx h1 hf h55 hlo hhi hF
    obtain ⟨f, rfl, hf'⟩ := suc_lt hf
    show ∃ s', b_M_note_L11 _ _ _ = _ ∧ _
    unfold b_M_note_L11
    rw [of_180, if_neg (nI_ge (by omega) (by omega)), ix_nI (n := 180) (k := x) (by omega) (by omega), Option.bind_some, of_3, sub_nI (by omega), ix_nI (n := 180) (k := x - 3) (by omega) (by omega), Option.bind_some, Option.bind_some, of_1, nI_add]
    refine ih (x + 1) f _ (by omega) (by omega) (by omega) (by rw [pkS_v, if_neg (by omega)]; exact h55) (fun i hi => ?_) (fun i hi => ?_) (hF.pk' _ rfl)
    · rw [pkS_v]
      by_cases d : i = x - 3
      · rw [if_pos ⟨rfl, rfl, d⟩, hhi x (by omega), show i + 3 = x by omega]
      · rw [if_neg (by omega)]
        exact hlo i (by omega)
    · rw [pkS_v, if_neg (by omega)]
      exact hhi i (by omega)
theorem fm_note {L : Nat × (Nat → Nat → Int32)} (hL : L.1 ≤ 60) (h : mLo L s) : ∃ s', f_M_note s = some s' ∧ mLo (puL L (g3S (s.1 60 0 50) (s.1 60 0 51) (s.1 60 0 52))) s' ∧ Fr Kmn s s' := by
  obtain ⟨h1, h2⟩ := h
  unfold f_M_note puL
  rw [h1, of_60]
  by_cases c : L.1 < 60
  · rw [if_pos c, if_neg (fun z => by have := (nI_eq (by omega) (by omega)).mp z; omega)]
    obtain ⟨s', a1, a2, a3, a4⟩ := fm_note48 c h1 h2
    exact ⟨s', a1, ⟨a2, a3⟩, a4⟩
  · have e : L.1 = 60 := by omega
    rw [if_neg c, if_pos (by rw [e]), of_3]
    obtain ⟨s1, b1, b2, b3, b4⟩ := fm_shiftN (s0 := s) 177 3 FU s (by omega) (by omega) (lt_FU (by omega)) (by rw [h1, e]) (fun i hi => by omega) (fun i _ => rfl) (Fr.refl _ s)
    obtain ⟨s', a1, a2, a3, a4⟩ := fm_note48 (g := fun j => L.2 (j + 1)) (show 59 < 60 by omega) b2 (fun j hj k hk => by
      rw [b3 _ (by omega), show 3 * j + k + 3 = 3 * (j + 1) + k by omega]
      exact h2 (j + 1) (by omega) k hk)
    rw [b4.1 60 0 50 rfl, b4.1 60 0 51 rfl, b4.1 60 0 52 rfl] at a3
    exact ⟨s', b1.trans a1, ⟨a2, a3⟩, b4.trans a4⟩
end
