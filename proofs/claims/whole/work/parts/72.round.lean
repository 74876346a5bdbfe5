/-! ===== round ===== -/
section
variable {I T B R : Nat} {W : Option WF6} {s s0 : S2} {w v : Nat → Int32}
/-- how an isle looks: x, y, mass, head -/
def lkC (I : Nat) (v : Nat → Int32) (a c : Nat) : Int32 := if a < I then (if c = 0 then v (hdS v a) else if c = 1 then v (6 + hdS v a) else if c = 2 then v (12 + hdS v a) else nI (hdS v a)) else 0
def lkS (I : Nat) (v : Nat → Int32) (j : Nat) : Int32 := lkC I v (j / 4) (j % 4)
theorem lkS_4 (a c : Nat) (hc : c < 4) : lkS I v (4 * a + c) = lkC I v a c := by
  unfold lkS
  rw [show (4 * a + c) / 4 = a by omega, show (4 * a + c) % 4 = c by omega]
theorem lkS_ge (j : Nat) (h : 4 * I ≤ j) : lkS I v j = 0 := by
  unfold lkS lkC
  rw [if_neg (by omega)]
def akS (I : Nat) (u v : Nat → Int32) : Nat → Nat → Bool
  | 0, _ => true
  | m + 1, j => decide (lkS I u j = lkS I v j) && akS I u v m (j + 1)
theorem akS_ge {u : Nat → Int32} : ∀ m j, 4 * I ≤ j → akS I u v m j = true := by
  intro m
  induction m with
  | zero => intro j _; rfl
  | succ m ih =>
    intro j hj
    show (decide (lkS I u j = lkS I v j) && akS I u v m (j + 1)) = true
    rw [lkS_ge j hj, lkS_ge j hj, ih (j + 1) (by omega)]
    rfl
theorem akS_cut {u : Nat → Int32} : ∀ m j m', j + m = 4 * I → m ≤ m' → akS I u v m' j = akS I u v m j := by
  intro m
  induction m with
  | zero => intro j m' hj _; rw [akS_ge m' j (by omega)]; rfl
  | succ m ih =>
    intro j m' hj hm
    obtain ⟨m'', rfl⟩ : ∃ i, m' = i + 1 := ⟨m' - 1, by omega⟩
    show (decide (lkS I u j = lkS I v j) && akS I u v m'' (j + 1)) = (decide (lkS I u j = lkS I v j) && akS I u v m (j + 1))
    rw [ih (j + 1) m'' (by omega) (by omega)]
def K42 (k : Nat) (c i j : Nat) : Bool := c == 42 && (i == 0 && (Nat.ble (24 * k) j && Nat.blt j (24 * k + 24)))
def K94 (k : Nat) (c i j : Nat) : Bool := c == 94 && (i == 0 && (Nat.ble (24 * k) j && Nat.blt j (24 * k + 24)))
theorem K42_t {k j : Nat} (h1 : 24 * k ≤ j) (h2 : j < 24 * k + 24) : K42 k 42 0 j = true := by
  unfold K42
  rw [Nat.ble_eq_true_of_le h1, show Nat.blt j (24 * k + 24) = true from Nat.ble_eq_true_of_le h2]
  rfl
theorem K94_t {k j : Nat} (h1 : 24 * k ≤ j) (h2 : j < 24 * k + 24) : K94 k 94 0 j = true := by
  unfold K94
  rw [Nat.ble_eq_true_of_le h1, show Nat.blt j (24 * k + 24) = true from Nat.ble_eq_true_of_le h2]
  rfl
theorem K42_o {k i j : Nat} (h : j < 24 * k) : K42 k 42 i j = false := by
  unfold K42
  rw [show Nat.ble (24 * k) j = false from by
    cases q : Nat.ble (24 * k) j with
    | false => rfl
    | true => have := Nat.le_of_ble_eq_true q; omega]
  simp
theorem K94_o {k i j : Nat} (h : j < 24 * k) : K94 k 94 i j = false := by
  unfold K94
  rw [show Nat.ble (24 * k) j = false from by
    cases q : Nat.ble (24 * k) j with
    | false => rfl
    | true => have := Nat.le_of_ble_eq_true q; omega]
  simp
theorem K42_f {k c i j : Nat} (h : ¬ c = 42) : K42 k c i j = false := by
  unfold K42
  rw [show (c == 42) = false from by simp [h]]
  rfl
theorem K94_f {k c i j : Nat} (h : ¬ c = 94) : K94 k c i j = false := by
  unfold K94
  rw [show (c == 94) = false from by simp [h]]
  rfl
/-- the four cells of a look are written -/
def lwS (c : Nat) (s : S2) (I k a : Nat) (v : Nat → Int32) : S2 := pkS (pkS (pkS (pkS s c 0 (24 * k + 4 * a) (lkC I v a 0)) c 0 (24 * k + 4 * a + 1) (lkC I v a 1)) c 0 (24 * k + 4 * a + 2) (lkC I v a 2)) c 0 (24 * k + 4 * a + 3) (lkC I v a 3)
theorem lwS_o {c : Nat} {k a c' i : Nat} (h : ¬ c' = c) : (lwS c s I k a v).1 c' i = s.1 c' i := by
  unfold lwS
  rw [pkS_1, if_neg (by omega), pkS_1, if_neg (by omega), pkS_1, if_neg (by omega), pkS_1, if_neg (by omega)]
theorem lwS_v {c k a : Nat} (n : Nat) (h : ∀ j, j < 4 * a → j < n → s.1 c 0 (24 * k + j) = lkS I v j) : ∀ j, j < 4 * (a + 1) → j < n → (lwS c s I k a v).1 c 0 (24 * k + j) = lkS I v j := by
  intro j hj hn
  unfold lwS
  by_cases c3 : j = 4 * a + 3
  · rw [pkS_v, if_pos ⟨rfl, rfl, by omega⟩, c3, lkS_4 a 3 (by omega)]
  · rw [pkS_v, if_neg (by omega)]
    by_cases c2 : j = 4 * a + 2
    · rw [pkS_v, if_pos ⟨rfl, rfl, by omega⟩, c2, lkS_4 a 2 (by omega)]
    · rw [pkS_v, if_neg (by omega)]
      by_cases c1 : j = 4 * a + 1
      · rw [pkS_v, if_pos ⟨rfl, rfl, by omega⟩, c1, lkS_4 a 1 (by omega)]
      · rw [pkS_v, if_neg (by omega)]
        by_cases c0 : j = 4 * a
        · rw [pkS_v, if_pos ⟨rfl, rfl, by omega⟩, c0, show lkS I v (4 * a) = lkS I v (4 * a + 0) from rfl, lkS_4 a 0 (by omega)]
        · rw [pkS_v, if_neg (by omega)]
          exact h j (by omega) hn
theorem lwS_42 {k a : Nat} (ha : a < 6) (hF : Fr (K42 k) s0 s) : Fr (K42 k) s0 (lwS 42 s I k a v) := by
  unfold lwS
  exact (((hF.pk' _ (K42_t (by omega) (by omega))).pk' _ (K42_t (by omega) (by omega))).pk' _ (K42_t (by omega) (by omega))).pk' _ (K42_t (by omega) (by omega))
theorem lwS_94 {k a : Nat} (ha : a < 6) (hF : Fr (K94 k) s0 s) : Fr (K94 k) s0 (lwS 94 s I k a v) := by
  unfold lwS
  exact (((hF.pk' _ (K94_t (by omega) (by omega))).pk' _ (K94_t (by omega) (by omega))).pk' _ (K94_t (by omega) (by omega))).pk' _ (K94_t (by omega) (by omega))
theorem fc_remL {k : Nat} (hv : VS I v) (hk : k ≤ 60) : ∀ (m a fu : Nat) (s : S2), a + m = I → m < fu → s.1 15 0 1 = nI I → s.1 21 2 = v → (∀ j, j < 4 * a → j < 4 * I → s.1 42 0 (24 * k + j) = lkS I v j) → Fr (K42 k) s0 s → ∃ s', f_Forecast_remember_L7 fu (nI (24 * k + 4 * a)) (nI a) s = some s' ∧ (∀ j, j < 4 * I → s'.1 42 0 (24 * k + j) = lkS I v j) ∧ Fr (K42 k) s0 s' := by
  have h6 := hv.1
  intro m
  induction m with
  | zero =>
    intro a fu s ha hf hI hs hl hF
    obtain ⟨f, rfl, hf'⟩ := suc_of hf
    refine ⟨s, ?_, fun j hj => hl j (by omega) hj, hF⟩
    show b_Forecast_remember_L7 _ _ _ _ = _
    unfold b_Forecast_remember_L7
    rw [show g_Sea_isles 0 s = nI I from hI, if_pos (nI_le (by omega) (by omega))]
  | succ m ih =>
    intro a fu s ha hf hI hs hl hF
    obtain ⟨f, rfl, hf'⟩ := suc_lt hf
    have hx : ∀ t : S2, t.1 21 2 = v → f_State_xOf 2 (nI a) t = some (lkC I v a 0) ∧ f_State_yOf 2 (nI a) t = some (lkC I v a 1) ∧ f_State_massOf 2 (nI a) t = some (lkC I v a 2) ∧ f_State_headOf 2 (nI a) t = some (lkC I v a 3) := fun t ht => by
      have hvt : VS I (t.1 21 2) := by rw [ht]; exact hv
      rw [fc_xOf hvt (by omega), fc_yOf hvt (by omega), fc_massOf hvt (by omega), fc_headOf hvt (by omega), ht]
      unfold lkC
      rw [if_pos (show a < I by omega), if_pos (show a < I by omega), if_pos (show a < I by omega), if_pos (show a < I by omega)]
      exact ⟨rfl, rfl, rfl, rfl⟩
    have e1 : ∀ x : Int32, (pkS s 42 0 (24 * k + 4 * a) x).1 21 2 = v := fun x => by rw [pkS_1, if_neg (by omega)]; exact hs
    have e2 : ∀ x y : Int32, (pkS (pkS s 42 0 (24 * k + 4 * a) x) 42 0 (24 * k + 4 * a + 1) y).1 21 2 = v := fun x y => by rw [pkS_1, if_neg (by omega)]; exact e1 x
    have e3 : ∀ x y z : Int32, (pkS (pkS (pkS s 42 0 (24 * k + 4 * a) x) 42 0 (24 * k + 4 * a + 1) y) 42 0 (24 * k + 4 * a + 2) z).1 21 2 = v := fun x y z => by rw [pkS_1, if_neg (by omega)]; exact e2 x y
    obtain ⟨s', a1, a2, a3⟩ := ih (a + 1) f (lwS 42 s I k a v) (by omega) hf' (by rw [lwS_o (by omega)]; exact hI) (by rw [lwS_o (by omega)]; exact hs) (lwS_v (4 * I) hl) (lwS_42 (by omega) hF)
    refine ⟨s', ?_, a2, a3⟩
    show b_Forecast_remember_L7 _ _ _ _ = _
    unfold b_Forecast_remember_L7
    rw [show g_Sea_isles 0 s = nI I from hI, if_neg (nI_ge (by omega) (by omega)), (hx s hs).1, Option.bind_some, ix_nI (n := 1464) (k := 24 * k + 4 * a) (by omega) (by omega), Option.bind_some, Option.bind_some, (hx _ (e1 _)).2.1, Option.bind_some, of_1, nI_add, ix_nI (n := 1464) (k := 24 * k + 4 * a + 1) (by omega) (by omega), Option.bind_some, Option.bind_some, (hx _ (e2 _ _)).2.2.1, Option.bind_some, of_2, nI_add, ix_nI (n := 1464) (k := 24 * k + 4 * a + 2) (by omega) (by omega), Option.bind_some, Option.bind_some, (hx _ (e3 _ _ _)).2.2.2, Option.bind_some, of_3, nI_add, ix_nI (n := 1464) (k := 24 * k + 4 * a + 3) (by omega) (by omega), Option.bind_some, Option.bind_some, of_4, nI_add, nI_add]
    rw [show 24 * k + 4 * (a + 1) = 24 * k + 4 * a + 4 by omega] at a1
    exact a1
theorem fc_remember {k : Nat} (hv : VS I (s.1 21 2)) (hk : k ≤ 60) (hI : s.1 15 0 1 = nI I) : ∃ s', f_Forecast_remember (nI k) s = some s' ∧ (∀ j, j < 4 * I → s'.1 42 0 (24 * k + j) = lkS I (s.1 21 2) j) ∧ Fr (K42 k) s s' := by
  unfold f_Forecast_remember
  rw [of_24, mul_nI, show Int32.ofInt 0 = nI 0 from of_0, show k * 24 = 24 * k + 4 * 0 by omega]
  exact fc_remL (v := s.1 21 2) hv hk I 0 FU s (by omega) (lt_FU (by have := hv.1; omega)) hI rfl (fun j hj => by omega) (Fr.refl _ s)
theorem fm_look1 {a k : Nat} (K : Int32 → Int32 → S2 → Option S2) (hI : s.1 60 0 28 = nI I) (hv : VS I v) (hr : RS I T B v s) (ha : a < 6) (hk : k ≤ 60) : b_M_writeLook_L2 K (nI k) (nI a) s = K (nI k) (nI (a + 1)) (lwS 94 s I k a v) := by
  have h6 := hv.1
  unfold b_M_writeLook_L2 f_M_writeLook_L21
  rw [of_6, if_neg (nI_ge (by omega) (by omega)), hI, of_1, show Int32.ofInt 0 = nI 0 from of_0, of_24, of_4, mul_nI, mul_nI, nI_add]
  by_cases c : a < I
  · obtain ⟨g1, g2, -⟩ := hv.2.1 a c
    have q0 := RS_hd hv hr c
    have q1 := hr.1 _ g2
    have z : ¬ (nI 1 = 0) := by decide
    have l0 : lkC I v a 0 = v (hdS v a) := by unfold lkC; rw [if_pos c]; rfl
    have l1 : lkC I v a 1 = v (6 + hdS v a) := by unfold lkC; rw [if_pos c]; rfl
    have l2 : lkC I v a 2 = v (12 + hdS v a) := by unfold lkC; rw [if_pos c]; rfl
    have l3 : lkC I v a 3 = nI (hdS v a) := by unfold lkC; rw [if_pos c]; rfl
    rw [if_neg (nI_ge c (by omega)), if_neg z, ix_nI (n := 6) (k := a) (by omega) (by omega), Option.bind_some, q0, ix_nI (n := 6) (k := hdS v a) (by omega) (by omega), Option.bind_some, ← q1.1, ← l0]
    unfold f_M_writeLook_L53
    rw [ix_nI (n := 1464) (k := 24 * k + 4 * a) (by omega) (by omega), Option.bind_some, Option.bind_some, if_neg z, ix_nI (n := 6) (k := a) (by omega) (by omega), Option.bind_some, pkS_v, if_neg (by omega), q0, ix_nI (n := 6) (k := hdS v a) (by omega) (by omega), Option.bind_some, pkS_v, if_neg (by omega), ← q1.2.1, ← l1, of_24, of_4, of_1, mul_nI, mul_nI, nI_add, nI_add]
    unfold f_M_writeLook_L87
    rw [ix_nI (n := 1464) (k := 24 * k + 4 * a + 1) (by omega) (by omega), Option.bind_some, Option.bind_some, if_neg z, ix_nI (n := 6) (k := a) (by omega) (by omega), Option.bind_some, pkS_v, if_neg (by omega), pkS_v, if_neg (by omega), q0, ix_nI (n := 6) (k := hdS v a) (by omega) (by omega), Option.bind_some, pkS_v, if_neg (by omega), pkS_v, if_neg (by omega), ← q1.2.2.1, ← l2, of_24, of_4, of_2, mul_nI, mul_nI, nI_add, nI_add]
    unfold f_M_writeLook_L121
    rw [ix_nI (n := 1464) (k := 24 * k + 4 * a + 2) (by omega) (by omega), Option.bind_some, Option.bind_some, if_neg z, ix_nI (n := 6) (k := a) (by omega) (by omega), Option.bind_some, pkS_v, if_neg (by omega), pkS_v, if_neg (by omega), pkS_v, if_neg (by omega), q0, ← l3, of_24, of_4, of_3, mul_nI, mul_nI, nI_add, nI_add]
    unfold f_M_writeLook_L150
    rw [ix_nI (n := 1464) (k := 24 * k + 4 * a + 3) (by omega) (by omega), Option.bind_some, Option.bind_some, of_1, nI_add]
    rfl
  · have l : ∀ i, lkC I v a i = nI 0 := fun i => by unfold lkC; rw [if_neg c]; exact nI_0.symm
    rw [if_pos (nI_le (by omega) (by omega)), if_pos nI_0]
    unfold f_M_writeLook_L53
    rw [ix_nI (n := 1464) (k := 24 * k + 4 * a) (by omega) (by omega), Option.bind_some, Option.bind_some, if_pos nI_0, of_24, of_4, of_1, mul_nI, mul_nI, nI_add, nI_add, show Int32.ofInt 0 = nI 0 from of_0]
    unfold f_M_writeLook_L87
    rw [ix_nI (n := 1464) (k := 24 * k + 4 * a + 1) (by omega) (by omega), Option.bind_some, Option.bind_some, if_pos nI_0, of_24, of_4, of_2, mul_nI, mul_nI, nI_add, nI_add, show Int32.ofInt 0 = nI 0 from of_0]
    unfold f_M_writeLook_L121
    rw [ix_nI (n := 1464) (k := 24 * k + 4 * a + 2) (by omega) (by omega), Option.bind_some, Option.bind_some, if_pos nI_0, of_24, of_4, of_3, mul_nI, mul_nI, nI_add, nI_add, show Int32.ofInt 0 = nI 0 from of_0]
    unfold f_M_writeLook_L150
    rw [ix_nI (n := 1464) (k := 24 * k + 4 * a + 3) (by omega) (by omega), Option.bind_some, Option.bind_some, of_1, nI_add]
    unfold lwS
    rw [l, l, l, l]
theorem fm_lookL {k : Nat} (hv : VS I v) (hk : k ≤ 60) : ∀ (m a fu : Nat) (s : S2), a + m = 6 → m < fu → s.1 60 0 28 = nI I → RS I T B v s → (∀ j, j < 4 * a → j < 24 → s.1 94 0 (24 * k + j) = lkS I v j) → Fr (K94 k) s0 s → ∃ s', f_M_writeLook_L2 fu (nI k) (nI a) s = some s' ∧ (∀ j, j < 24 → s'.1 94 0 (24 * k + j) = lkS I v j) ∧ Fr (K94 k) s0 s' := by
  intro m
  induction m with
  | zero =>
    intro a fu s ha hf hI hr hl hF
    obtain ⟨f, rfl, hf'⟩ := suc_of hf
    refine ⟨s, ?_, fun j hj => hl j (by omega) hj, hF⟩
    show b_M_writeLook_L2 _ _ _ _ = _
    unfold b_M_writeLook_L2
    rw [of_6, if_pos (nI_le (by omega) (by omega))]
  | succ m ih =>
    intro a fu s ha hf hI hr hl hF
    obtain ⟨f, rfl, hf'⟩ := suc_lt hf
    have o : ∀ c i, ¬ c = 94 → (lwS 94 s I k a v).1 c i = s.1 c i := fun c i h => lwS_o h
    obtain ⟨s', a1, a2, a3⟩ := ih (a + 1) f (lwS 94 s I k a v) (by omega) hf' (by rw [o _ _ (by omega)]; exact hI) (RS_fr hr (o _ _ (by omega)) (o _ _ (by omega)) (o _ _ (by omega)) (o _ _ (by omega)) (o _ _ (by omega)) (o _ _ (by omega)) (o _ _ (by omega)) (congrFun (o _ _ (by omega)) 36) (congrFun (o _ _ (by omega)) 37)) (lwS_v 24 hl) (lwS_94 (by omega) hF)
    refine ⟨s', ?_, a2, a3⟩
    show b_M_writeLook_L2 _ _ _ _ = _
    rw [fm_look1 (T := T) (B := B) _ hI hv hr (by omega) hk]
    exact a1
theorem fm_writeLook {k : Nat} (hv : VS I v) (hk : k ≤ 60) (hI : s.1 60 0 28 = nI I) (hr : RS I T B v s) : ∃ s', f_M_writeLook (nI k) s = some s' ∧ (∀ j, j < 24 → s'.1 94 0 (24 * k + j) = lkS I v j) ∧ Fr (K94 k) s s' := by
  unfold f_M_writeLook
  rw [show Int32.ofInt 0 = nI 0 from of_0]
  exact fm_lookL (T := T) (B := B) hv hk 6 0 FU s (by omega) (lt_FU (by omega)) hI hr (fun j hj => by omega) (Fr.refl _ s)
theorem fc_alike {q : Nat → Nat → Int32} {a b : Nat} (h6 : I ≤ 6) (ha : a ≤ 60) (hb : b ≤ 60) (hI : s.1 15 0 1 = nI I) (h1 : ∀ j, j < 4 * I → s.1 42 0 (24 * a + j) = lkS I (q a) j) (h2 : ∀ j, j < 4 * I → s.1 42 0 (24 * b + j) = lkS I (q b) j) : ∀ (m j fu : Nat), j + m = 4 * I → m < fu → f_Forecast_areAlike_L2 fu (nI a) (nI b) (nI j) s = some (akS I (q a) (q b) m j) := by
  intro m
  induction m with
  | zero =>
    intro j fu hj hf
    obtain ⟨f, rfl, hf'⟩ := suc_of hf
    show b_Forecast_areAlike_L2 _ _ _ _ _ = _
    unfold b_Forecast_areAlike_L2
    rw [show g_Sea_isles 0 s = nI I from hI, of_4, mul_nI, if_pos (nI_le (by omega) (by omega))]
    rfl
  | succ m ih =>
    intro j fu hj hf
    obtain ⟨f, rfl, hf'⟩ := suc_lt hf
    show b_Forecast_areAlike_L2 _ _ _ _ _ = some (decide (lkS I (q a) j = lkS I (q b) j) && akS I (q a) (q b) m (j + 1))
    unfold b_Forecast_areAlike_L2
    rw [show g_Sea_isles 0 s = nI I from hI, of_4, mul_nI, if_neg (nI_ge (by omega) (by omega)), of_24, mul_nI, mul_nI, nI_add, nI_add, ix_nI (n := 1464) (k := a * 24 + j) (by omega) (by omega), Option.bind_some, ix_nI (n := 1464) (k := b * 24 + j) (by omega) (by omega), Option.bind_some, show a * 24 + j = 24 * a + j by omega, show b * 24 + j = 24 * b + j by omega, h1 j (by omega), h2 j (by omega), of_1, nI_add]
    by_cases c : lkS I (q a) j = lkS I (q b) j
    · rw [if_pos c, decide_eq_true c, Bool.true_and]
      exact ih (j + 1) f (by omega) hf'
    · rw [if_neg c, decide_eq_false c]
      rfl
theorem fm_alike {q : Nat → Nat → Int32} {a b : Nat} (ha : a ≤ 60) (hb : b ≤ 60) (h1 : ∀ j, j < 24 → s.1 94 0 (24 * a + j) = lkS I (q a) j) (h2 : ∀ j, j < 24 → s.1 94 0 (24 * b + j) = lkS I (q b) j) : ∀ (m j fu : Nat), j + m = 24 → m < fu → f_M_areAlike_L2 fu (nI a) (nI b) (nI j) s = some (akS I (q a) (q b) m j) := by
  intro m
  induction m with
  | zero =>
    intro j fu hj hf
    obtain ⟨f, rfl, hf'⟩ := suc_of hf
    show b_M_areAlike_L2 _ _ _ _ _ = _
    unfold b_M_areAlike_L2
    rw [of_24, if_pos (nI_le (by omega) (by omega))]
    rfl
  | succ m ih =>
    intro j fu hj hf
    obtain ⟨f, rfl, hf'⟩ := suc_lt hf
    show b_M_areAlike_L2 _ _ _ _ _ = some (decide (lkS I (q a) j = lkS I (q b) j) && akS I (q a) (q b) m (j + 1))
    unfold b_M_areAlike_L2
    rw [of_24, if_neg (nI_ge (by omega) (by omega)), mul_nI, mul_nI, nI_add, nI_add, ix_nI (n := 1464) (k := 24 * a + j) (by omega) (by omega), Option.bind_some, ix_nI (n := 1464) (k := 24 * b + j) (by omega) (by omega), Option.bind_some, h1 j (by omega), h2 j (by omega), of_1, nI_add]
    by_cases c : lkS I (q a) j = lkS I (q b) j
    · rw [if_pos c, decide_eq_true c, Bool.true_and]
      exact ih (j + 1) f (by omega) hf'
    · rw [if_neg c, decide_eq_false c]
      rfl
/-- the first season that looks as an earlier one, and that one -/
def ppS (I : Nat) (q : Nat → Nat → Int32) (k o : Nat) : Bool := akS I (q o) (q k) (4 * I) 0
def roS (I : Nat) (q : Nat → Nat → Int32) : Nat → Nat → Option (Nat × Nat)
  | 0, _ => none
  | m + 1, k => match ffS (ppS I q k) k 0 with
    | some o => some (k, o)
    | none => roS I q m (k + 1)
def raS (l : Nat) : Option (Nat × Nat) → Int32
  | none => -1
  | some p => if l = 0 then nI p.1 else nI (p.1 - p.2)
theorem ffS_lt {p : Nat → Bool} : ∀ (m k o : Nat), ffS p m k = some o → k ≤ o ∧ o < k + m := by
  intro m
  induction m with
  | zero => intro k o h; cases h
  | succ m ih =>
    intro k o h
    cases c : p k with
    | true => rw [ffS_t c] at h; cases h; omega
    | false => rw [ffS_f c] at h; have := ih (k + 1) o h; omega
theorem fc_roundI {q : Nat → Nat → Int32} {n l k : Nat} (h6 : I ≤ 6) (hk : k ≤ 60) (hl : l ≤ 1) (hI : s.1 15 0 1 = nI I) (h1 : ∀ o, o ≤ k → ∀ j, j < 4 * I → s.1 42 0 (24 * o + j) = lkS I (q o) j) (K : Int32 → Int32 → Int32 → S2 → Option (S2 × Int32)) : ∀ (m o fu : Nat), o + m = k → m < fu → f_Forecast_roundBehind_L35 K fu (nI n) (nI l) (nI k) (nI o) s = (match ffS (ppS I q k) m o with
    | some o => some (s, raS l (some (k, o)))
    | none => K (nI n) (nI l) (nI (k + 1)) s) := by
  intro m
  induction m with
  | zero =>
    intro o fu ho hf
    obtain ⟨f, rfl, hf'⟩ := suc_of hf
    show b_Forecast_roundBehind_L35 _ _ _ _ _ _ _ = _
    unfold b_Forecast_roundBehind_L35
    rw [if_pos (nI_le (by omega) (by omega)), of_1, nI_add]
    rfl
  | succ m ih =>
    intro o fu ho hf
    obtain ⟨f, rfl, hf'⟩ := suc_lt hf
    show b_Forecast_roundBehind_L35 _ _ _ _ _ _ _ = _
    unfold b_Forecast_roundBehind_L35 f_Forecast_areAlike
    rw [if_neg (nI_ge (by omega) (by omega)), show Int32.ofInt 0 = nI 0 from of_0, fc_alike (q := q) h6 (by omega) hk hI (h1 o (by omega)) (h1 k (Nat.le_refl k)) (4 * I) 0 FU (by omega) (lt_FU (by omega)), Option.bind_some, of_1, nI_add]
    cases c : ppS I q k o with
    | true =>
      rw [show akS I (q o) (q k) (4 * I) 0 = true from c, ifT, ffS_t c, sub_nI (by omega)]
      show (if nI l = 0 then some (s, nI k) else some (s, nI (k - o))) = some (s, if l = 0 then nI k else nI (k - o))
      rcases (show l = 0 ∨ l = 1 by omega) with rfl | rfl
      · rw [if_pos nI_0]; rfl
      · rw [if_neg (show ¬ nI 1 = 0 by decide)]; rfl
    | false =>
      rw [show akS I (q o) (q k) (4 * I) 0 = false from c, ifF, ffS_f c]
      exact ih (o + 1) f (by omega) hf'
theorem K42_KS {k c i j : Nat} (h : KS c i j = false) : K42 k c i j = false := K42_f fun z => by subst z; unfold KS at h; simp at h
theorem K94_MS {k c i j : Nat} (h : MS T c i j = false) : K94 k c i j = false := K94_f fun z => by subst z; unfold MS at h; simp at h
theorem fc_round {n l : Nat} (hv : VS I v) (hn : n ≤ 60) (hl : l ≤ 1) : ∀ (m k fu : Nat) (s : S2), k + m = n + 1 → 1 ≤ k → m < fu → CX I T B W onA xN 0 w s → s.1 21 2 = seS I T B W w v (k - 1) → (∀ o, o < k → ∀ j, j < 4 * I → s.1 42 0 (24 * o + j) = lkS I (seS I T B W w v o) j) → Fr KS s0 s → ∃ s', f_Forecast_roundBehind_L11 fu (nI n) (nI l) (nI k) s = some (s', raS l (roS I (seS I T B W w v) m k)) ∧ Fr KS s0 s' := by
  have h6 := hv.1
  intro m
  induction m with
  | zero =>
    intro k fu s hk h1 hf hX hs hq hF
    obtain ⟨f, rfl, hf'⟩ := suc_of hf
    refine ⟨s, ?_, hF⟩
    show b_Forecast_roundBehind_L11 _ _ _ _ _ = _
    unfold b_Forecast_roundBehind_L11
    rw [if_pos (nI_lt (by omega) (by omega)), of_m1]
    rfl
  | succ m ih =>
    intro k fu s hk h1 hf hX hs hq hF
    obtain ⟨f, rfl, hf'⟩ := suc_lt hf
    obtain ⟨s1, a1, a3, -, -, -, a6⟩ := fc_pass (i := 2) (by rw [hs]; exact VS_se hv (k - 1)) hX
    rw [hs, show (psS I T B W (seS I T B W w v (k - 1)) w onA xN 0).1 = seS I T B W w v (k - 1 + 1) from rfl, show k - 1 + 1 = k by omega] at a3
    have a2 := CX_KP hX a6
    have hF1 := hF.trans (a6.mono fun _ _ _ => KP2_KS)
    obtain ⟨s2, b1, b2, b3⟩ := fc_remember (k := k) (s := s1) (by rw [a3]; exact VS_se hv k) (by omega) a2.2.2.1.1
    rw [a3] at b2
    have e21 : s2.1 21 2 = seS I T B W w v k := (b3.arr fun _ => K42_f (by omega)).trans a3
    have hX2 : CX I T B W onA xN 0 w s2 := CX_fr a2 b3 (fun _ => ⟨K42_f (by omega), K42_f (by omega), fun _ => ⟨K42_f (by omega), K42_f (by omega)⟩, K42_f (by omega), K42_f (by omega), K42_f (by omega), K42_f (by omega)⟩) (K42_f (by omega)) (K42_f (by omega)) (K42_f (by omega))
    have hq2 : ∀ o, o ≤ k → ∀ j, j < 4 * I → s2.1 42 0 (24 * o + j) = lkS I (seS I T B W w v o) j := fun o ho j hj => by
      by_cases c : o = k
      · rw [c]; exact b2 j hj
      · rw [b3.1 42 0 _ (K42_o (by omega))]
        rw [a6.1 42 0 _ rfl]
        exact hq o (by omega) j hj
    have hF2 : Fr KS s0 s2 := hF1.trans (b3.mono fun _ _ _ => K42_KS)
    have hI2 := fc_roundI (s := s2) (n := n) (l := l) h6 (show k ≤ 60 by omega) hl hX2.2.2.1.1 hq2 (f_Forecast_roundBehind_L11 f) k 0 FU (by omega) (lt_FU (by omega))
    show ∃ s', b_Forecast_roundBehind_L11 _ _ _ _ _ = some (s', raS l (match ffS (ppS I (seS I T B W w v) k) k 0 with
      | some o => some (k, o)
      | none => roS I (seS I T B W w v) m (k + 1))) ∧ _
    unfold b_Forecast_roundBehind_L11
    rw [if_neg (nI_nlt (by omega) (by omega)), a1, Option.bind_some, b1, Option.bind_some, show Int32.ofInt 0 = nI 0 from of_0, hI2]
    cases c : ffS (ppS I (seS I T B W w v) k) k 0 with
    | some o => exact ⟨s2, rfl, hF2⟩
    | none => exact ih (k + 1) f s2 (by omega) (by omega) hf' hX2 (by rw [show k + 1 - 1 = k by omega]; exact e21) (fun o ho => hq2 o (by omega)) hF2
/-- the reference's round -/
theorem fm_roundI {q : Nat → Nat → Int32} {n k l : Nat} (h6 : I ≤ 6) (hk1 : 1 ≤ k) (hk : k ≤ 60) (h1 : ∀ o, o ≤ k → ∀ j, j < 24 → s.1 94 0 (24 * o + j) = lkS I (q o) j) (K : Int32 → Int32 → Int32 → Int32 → Int32 → S2 → Option (S2 × Int32)) : ∀ (m o fu : Nat), o + m = k → m + 1 < fu → f_M_round_L63 K fu (nI n) (nI l) (-1) (-1) (nI k) (nI o) s = (match ffS (ppS I q k) m o with
    | some o => K (nI n) (nI l) (nI k) (nI o) (nI (k + 1)) s
    | none => K (nI n) (nI l) (-1) (-1) (nI (k + 1)) s) := by
  intro m
  induction m with
  | zero =>
    intro o fu ho hf
    obtain ⟨f, rfl, hf'⟩ := suc_of (show 0 < fu by omega)
    show b_M_round_L63 _ _ _ _ _ _ _ _ _ = _
    unfold b_M_round_L63 f_M_round_L99
    rw [if_pos (nI_le (by omega) (by omega)), of_1, nI_add]
    rfl
  | succ m ih =>
    intro o fu ho hf
    obtain ⟨f, rfl, hf'⟩ := suc_lt hf
    show b_M_round_L63 _ _ _ _ _ _ _ _ _ = _
    unfold b_M_round_L63 f_M_areAlike f_M_round_L93
    rw [if_neg (nI_ge (by omega) (by omega)), of_m1, if_pos rfl, show Int32.ofInt 0 = nI 0 from of_0, fm_alike (q := q) (by omega) hk (h1 o (by omega)) (h1 k (Nat.le_refl k)) 24 0 FU (by omega) (lt_FU (by omega)), Option.bind_some, of_1, nI_add]
    have ec : akS I (q o) (q k) 24 0 = ppS I q k o := akS_cut (4 * I) 0 24 (by omega) (by omega)
    cases c : ppS I q k o with
    | true =>
      rw [ec, c, ifT, ffS_t c]
      obtain ⟨f', rfl, -⟩ := suc_of (show 0 < f by omega)
      show b_M_round_L63 _ _ _ _ _ _ _ _ _ = _
      unfold b_M_round_L63 f_M_round_L99
      rw [of_m1, if_neg (show ¬ nI k = -1 from cdO_nm1 k (by omega)), of_1, nI_add]
      split <;> rfl
    | false =>
      rw [ec, c, ifF, ffS_f c]
      exact ih (o + 1) f (by omega) (by omega)
def fpS : Option (Nat × Nat) → Int32 × Int32
  | none => (-1, -1)
  | some p => (nI p.1, nI p.2)
theorem fm_round {n l : Nat} (hv : VS I v) (hn : n ≤ 60) : ∀ (m k fu : Nat) (s : S2), k + m = n + 1 → 1 ≤ k → m + 1 < fu → MK5 I T B W w v (k - 1) s → (∀ o, o < k → ∀ j, j < 24 → s.1 94 0 (24 * o + j) = lkS I (seS I T B W w v o) j) → Fr (MS T) s0 s → ∃ s', f_M_round_L39 fu (nI n) (nI l) (-1) (-1) (nI k) s = f_M_round_L105 (nI l) (fpS (roS I (seS I T B W w v) m k)).1 (fpS (roS I (seS I T B W w v) m k)).2 s' ∧ SV I T B v 91 0 s' ∧ Fr (MS T) s0 s' := by
  have h6 := hv.1
  intro m
  induction m with
  | zero =>
    intro k fu s hk h1 hf hX hq hF
    obtain ⟨f, rfl, hf'⟩ := suc_of (show 0 < fu by omega)
    refine ⟨s, ?_, hX.2.2, hF⟩
    show b_M_round_L39 _ _ _ _ _ _ _ = _
    unfold b_M_round_L39
    rw [if_pos (nI_lt (by omega) (by omega))]
    rfl
  | succ m ih =>
    intro k fu s hk h1 hf hX hq hF
    obtain ⟨f, rfl, hf'⟩ := suc_lt hf
    obtain ⟨x1, x2, x3⟩ := hX
    obtain ⟨s1, a1, a3, -, -, -, a6⟩ := fm_pass (VS_se hv (k - 1)) x1 x2
    rw [show (psS I T B W (seS I T B W w v (k - 1)) w onA xN 0).1 = seS I T B W w v (k - 1 + 1) from rfl, show k - 1 + 1 = k by omega] at a3
    have hX1 := MX_MP x1 a6
    have hF1 := hF.trans (a6.mono fun _ _ _ => MP_MS (T := T))
    obtain ⟨s2, b1, b2, b3⟩ := fm_writeLook (k := k) (s := s1) (VS_se hv k) (by omega) hX1.2.1.1 a3
    have o : ∀ c i, ¬ c = 94 → s2.1 c i = s1.1 c i := fun c i h => b3.arr fun _ => K94_f h
    have hX2 : MX I T B W onA xN 0 w s2 := MX_fr hX1 b3 (fun _ => ⟨K94_f (by omega), K94_f (by omega), K94_f (by omega), K94_f (by omega), K94_f (by omega), K94_f (by omega), K94_f (by omega), K94_f (by omega), K94_f (by omega), K94_f (by omega)⟩) ⟨K94_f (by omega), K94_f (by omega), K94_f (by omega), K94_f (by omega), K94_f (by omega), K94_f (by omega)⟩
    have hr2 : RS I T B (seS I T B W w v k) s2 := RS_fr a3 (o _ _ (by omega)) (o _ _ (by omega)) (o _ _ (by omega)) (o _ _ (by omega)) (o _ _ (by omega)) (o _ _ (by omega)) (o _ _ (by omega)) (congrFun (o _ _ (by omega)) 36) (congrFun (o _ _ (by omega)) 37)
    have hS2 : SV I T B v 91 0 s2 := SV_fr x3 ((o _ _ (by omega)).trans (a6.arr fun _ => rfl))
    have hq2 : ∀ o, o ≤ k → ∀ j, j < 24 → s2.1 94 0 (24 * o + j) = lkS I (seS I T B W w v o) j := fun o ho j hj => by
      by_cases c : o = k
      · rw [c]; exact b2 j hj
      · rw [b3.1 94 0 _ (K94_o (by omega)), a6.1 94 0 _ rfl]
        exact hq o (by omega) j hj
    have hF2 : Fr (MS T) s0 s2 := hF1.trans (b3.mono fun _ _ _ => K94_MS)
    have hI2 := fm_roundI (s := s2) (n := n) (l := l) (q := seS I T B W w v) h6 h1 (show k ≤ 60 by omega) hq2 (f_M_round_L39 f) k 0 FU (by omega) (lt_FU (by omega))
    show ∃ s', b_M_round_L39 _ _ _ _ _ _ _ = f_M_round_L105 (nI l) (fpS (match ffS (ppS I (seS I T B W w v) k) k 0 with
      | some o => some (k, o)
      | none => roS I (seS I T B W w v) m (k + 1))).1 (fpS (match ffS (ppS I (seS I T B W w v) k) k 0 with
      | some o => some (k, o)
      | none => roS I (seS I T B W w v) m (k + 1))).2 s' ∧ _
    unfold b_M_round_L39
    rw [if_neg (nI_nlt (by omega) (by omega)), of_m1, if_pos rfl, a1, Option.bind_some, b1, Option.bind_some, show Int32.ofInt 0 = nI 0 from of_0, hI2]
    cases c : ffS (ppS I (seS I T B W w v) k) k 0 with
    | some o =>
      refine ⟨s2, ?_, hS2, hF2⟩
      obtain ⟨f', rfl, -⟩ := suc_of (show 0 < f by omega)
      show b_M_round_L39 _ _ _ _ _ _ _ = f_M_round_L105 (nI l) (nI k) (nI o) s2
      unfold b_M_round_L39
      rw [of_m1, if_neg (show ¬ nI k = -1 from cdO_nm1 k (by omega))]
      split <;> rfl
    | none => exact ih (k + 1) f s2 (by omega) (by omega) (by omega) ⟨hX2, by rw [show k + 1 - 1 = k by omega]; exact hr2, hS2⟩ (fun o ho => hq2 o (by omega)) hF2
theorem roS_lt {q : Nat → Nat → Int32} : ∀ (m k : Nat) (p : Nat × Nat), roS I q m k = some p → p.2 < p.1 ∧ p.1 < k + m := by
  intro m
  induction m with
  | zero => intro k p h; cases h
  | succ m ih =>
    intro k p h
    have h' : (match ffS (ppS I q k) k 0 with
      | some o => some (k, o)
      | none => roS I q m (k + 1)) = some p := h
    cases c : ffS (ppS I q k) k 0 with
    | some o =>
      rw [c] at h'
      cases h'
      have := ffS_lt k 0 o c
      show o < k ∧ k < k + (m + 1)
      omega
    | none =>
      rw [c] at h'
      have := ih (k + 1) p h'
      omega
theorem q_round {s : S2} (h : INV I T B R W s) (x y : Int32) : ∃ s1 r s2, f_D_round x y s = some (s1, r) ∧ f_M_round x y s1 = some (s2, r) ∧ INV I T B R W s2 := by
  have h6 := h.1.2.2.1.1.1
  unfold f_D_round f_D_round_L43
  rw [v_hasSea h, g_D_isWithin_eq, g_D_isWithin_eq, of_1, of_60, show Int32.ofInt 0 = nI 0 from of_0]
  by_cases cI : I = 0
  · rw [decide_eq_false (fun z => z cI)]
    exact ⟨s, _, s, by rw [ifF], by unfold f_M_round; rw [v_seasons h, decide_eq_false (fun z => z cI), Bool.false_and, ifF], h⟩
  · rw [decide_eq_true cI]
    cases c1 : inS x (nI 1) (nI 60) with
    | false => exact ⟨s, _, s, by rw [ifT, ifF], by unfold f_M_round; rw [v_seasons h, decide_eq_true cI, of_1, of_60, c1, Bool.true_and, ifF], h⟩
    | true =>
      cases c2 : inS y (nI 0) (nI 1) with
      | false => exact ⟨s, _, s, by rw [ifT, ifT, ifF], by unfold f_M_round; rw [v_seasons h, decide_eq_true cI, of_1, of_60, c1, Bool.true_and, ifT, g_M_in_eq, show Int32.ofInt 0 = nI 0 from of_0, c2, ifF], h⟩
      | true =>
        obtain ⟨n, n1, n2, rfl⟩ := inS_lit c1 (by omega) (by omega)
        obtain ⟨l, -, l2, rfl⟩ := inS_lit c2 (by omega) (by omega)
        obtain ⟨s1, p1, p2, p3, p4, p5⟩ := fc_begin h
        obtain ⟨s2, b1, b2, b3⟩ := fc_remember (k := 0) p3 (by omega) p2.2.2.1.1
        have hX2 : CX I T B W onA xN 0 (s.1 14 0) s2 := CX_fr p2 b3 (fun _ => ⟨K42_f (by omega), K42_f (by omega), fun _ => ⟨K42_f (by omega), K42_f (by omega)⟩, K42_f (by omega), K42_f (by omega), K42_f (by omega), K42_f (by omega)⟩) (K42_f (by omega)) (K42_f (by omega)) (K42_f (by omega))
        obtain ⟨s3, q1, q2⟩ := fc_round (s0 := s) (v := s1.1 21 2) (n := n) (l := l) p3 n2 l2 n 1 FU s2 (by omega) (by omega) (lt_FU (by omega)) hX2 (b3.arr fun _ => K42_f (by omega)) (fun o ho j hj => by
          rw [show o = 0 by omega]
          exact b2 j hj) (p5.trans (b3.mono fun _ _ _ => K42_KS))
        have h3 := INV_KS h q2
        have e14 : s3.1 14 0 = s.1 14 0 := q2.arr fun _ => rfl
        have e21 : s3.1 21 0 = s.1 21 0 := q2.arr fun _ => rfl
        obtain ⟨t1, u1, u2, u3⟩ := fm_begin (v := s1.1 21 2) h3 (by rw [e21]; exact p4)
        rw [e14] at u2
        obtain ⟨t2, w1, w2, w3⟩ := fm_writeLook (k := 0) (s := t1) p3 (by omega) u2.1.2.1.1 u2.2.1
        have o : ∀ c i, ¬ c = 94 → t2.1 c i = t1.1 c i := fun c i h => w3.arr fun _ => K94_f h
        have hM2 : MK5 I T B W (s.1 14 0) (s1.1 21 2) 0 t2 := ⟨MX_fr u2.1 w3 (fun _ => ⟨K94_f (by omega), K94_f (by omega), K94_f (by omega), K94_f (by omega), K94_f (by omega), K94_f (by omega), K94_f (by omega), K94_f (by omega), K94_f (by omega), K94_f (by omega)⟩) ⟨K94_f (by omega), K94_f (by omega), K94_f (by omega), K94_f (by omega), K94_f (by omega), K94_f (by omega)⟩, RS_fr u2.2.1 (o _ _ (by omega)) (o _ _ (by omega)) (o _ _ (by omega)) (o _ _ (by omega)) (o _ _ (by omega)) (o _ _ (by omega)) (o _ _ (by omega)) (congrFun (o _ _ (by omega)) 36) (congrFun (o _ _ (by omega)) 37), SV_fr u2.2.2 (o _ _ (by omega))⟩
        obtain ⟨t3, x1, x2, x3⟩ := fm_round (s0 := s3) (n := n) (l := l) p3 n2 n 1 FU t2 (by omega) (by omega) (lt_FU (by omega)) hM2 (fun o ho j hj => by
          rw [show o = 0 by omega]
          exact w2 j hj) (u3.trans (w3.mono fun _ _ _ => K94_MS))
        obtain ⟨t4, y1, y2⟩ := fm_end h3 (by rw [e21]; exact p4) x3 x2
        refine ⟨s3, raS l (roS I (seS I T B W (s.1 14 0) (s1.1 21 2)) n 1), t4, ?_, ?_, y2⟩
        · have key : f_Forecast_roundBehind (nI n) (nI l) s = some (s3, raS l (roS I (seS I T B W (s.1 14 0) (s1.1 21 2)) n 1)) := by
            unfold f_Forecast_roundBehind
            rw [p1, Option.bind_some, show Int32.ofInt 0 = nI 0 from of_0, b1, Option.bind_some, of_1, q1]
          rw [ifT, ifT, ifT]
          rcases (show l = 0 ∨ l = 1 by omega) with rfl | rfl
          · rw [if_neg (show ¬ nI 0 = nI 1 by decide), key]; rfl
          · rw [if_pos rfl, key]; rfl
        · unfold f_M_round
          rw [v_seasons h3, decide_eq_true cI, of_1, of_60, c1, Bool.true_and, ifT, g_M_in_eq, show Int32.ofInt 0 = nI 0 from of_0, c2, ifT, u1, Option.bind_some, w1, Option.bind_some, of_m1, x1]
          unfold f_M_round_L105
          rw [y1, Option.bind_some, of_m1]
          cases c : roS I (seS I T B W (s.1 14 0) (s1.1 21 2)) n 1 with
          | none => exact if_pos rfl
          | some p =>
            have hp := roS_lt n 1 p c
            show (if nI p.1 = -1 then _ else if nI l = 0 then some (t4, nI p.1) else some (t4, nI p.1 - nI p.2)) = some (t4, if l = 0 then nI p.1 else nI (p.1 - p.2))
            rw [if_neg (show ¬ nI p.1 = -1 from cdO_nm1 p.1 (by omega)), sub_nI (by omega)]
            rcases (show l = 0 ∨ l = 1 by omega) with rfl | rfl
            · rw [if_pos nI_0]; rfl
            · rw [if_neg (show ¬ nI 1 = 0 by decide)]; rfl
end
