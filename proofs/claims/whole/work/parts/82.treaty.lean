/-! ===== treaties: the class ===== -/
section
variable {I T B R : Nat} {W : Option WF6} {s s0 : S2} {w v : Nat → Int32} {on : Nat → Bool}
def Kad (c i k : Nat) : Bool := i == 0 && (c == 37 || (c == 38 || (c == 39 || (c == 40 || (c == 31 && k == 13)))))
theorem fc_addTie {x : XT} {e a b : Nat} {k st : Int32} (hX : CX I T B W on x e w s) (he : e < 3) (hx : x e = (a, b, k, st)) (ha : a < I) (hb : b < I) : ∃ s', f_Course_addTie (nI a) (nI b) k st s = some s' ∧ CX I T B W on x (e + 1) w s' ∧ Fr Kad s s' := by
  obtain ⟨g1, g2, g3, ⟨g4, g5, g6, g7⟩, g8⟩ := hX
  obtain ⟨t, ht⟩ : ∃ t, pkS (pkS (pkS (pkS (pkS s 37 0 e (nI a)) 38 0 e (nI b)) 39 0 e k) 40 0 e st) 31 0 13 (nI (e + 1)) = t := ⟨_, rfl⟩
  have F : Fr Kad s t := by
    rw [← ht]
    exact (((((Fr.refl Kad s).pk' _ rfl).pk' _ rfl).pk' _ rfl).pk' _ rfl).pk' _ rfl
  refine ⟨t, ?_, ⟨g1, (F.arr fun _ => rfl).trans g2, ?_, ⟨?_, ?_, by omega, fun j hj => ?_⟩, HC_fr g8 (F.1 31 0 11 rfl) (fun n => F.arr fun _ => by unfold Kad; simp) (fun n => F.arr fun _ => by unfold Kad; simp)⟩, F⟩
  · unfold f_Course_addTie
    rw [g5, of_3, if_neg (nI_ge he (by omega)), ix_nI (n := 3) (k := e) (by omega) (by omega), Option.bind_some, Option.bind_some, show (pkS s 37 0 e (nI a)).1 31 0 13 = nI e by rw [pkS_v, if_neg (by omega)]; exact g5, ix_nI (n := 3) (k := e) (by omega) (by omega), Option.bind_some, Option.bind_some, show (pkS (pkS s 37 0 e (nI a)) 38 0 e (nI b)).1 31 0 13 = nI e by rw [pkS_v, if_neg (by omega), pkS_v, if_neg (by omega)]; exact g5, ix_nI (n := 3) (k := e) (by omega) (by omega), Option.bind_some, Option.bind_some, show (pkS (pkS (pkS s 37 0 e (nI a)) 38 0 e (nI b)) 39 0 e k).1 31 0 13 = nI e by rw [pkS_v, if_neg (by omega), pkS_v, if_neg (by omega), pkS_v, if_neg (by omega)]; exact g5, ix_nI (n := 3) (k := e) (by omega) (by omega), Option.bind_some, Option.bind_some, show (pkS (pkS (pkS (pkS s 37 0 e (nI a)) 38 0 e (nI b)) 39 0 e k) 40 0 e st).1 31 0 13 = nI e by rw [pkS_v, if_neg (by omega), pkS_v, if_neg (by omega), pkS_v, if_neg (by omega), pkS_v, if_neg (by omega)]; exact g5, of_1, nI_add, Option.bind_some, ht]
  · unfold CN at g3 ⊢
    rw [F.arr fun _ => rfl]; exact g3
  · rw [F.1 31 0 12 rfl]; exact g4
  · rw [← ht, pkS_v, if_pos ⟨rfl, rfl, rfl⟩]
  · by_cases c : j = e
    · rw [c, hx, ← ht]
      refine ⟨?_, ?_, ?_, ?_, ha, hb⟩
      · rw [pkS_v, if_neg (by omega), pkS_v, if_neg (by omega), pkS_v, if_neg (by omega), pkS_v, if_neg (by omega), pkS_v, if_pos ⟨rfl, rfl, rfl⟩]
      · rw [pkS_v, if_neg (by omega), pkS_v, if_neg (by omega), pkS_v, if_neg (by omega), pkS_v, if_pos ⟨rfl, rfl, rfl⟩]
      · rw [pkS_v, if_neg (by omega), pkS_v, if_neg (by omega), pkS_v, if_pos ⟨rfl, rfl, rfl⟩]
      · rw [pkS_v, if_neg (by omega), pkS_v, if_pos ⟨rfl, rfl, rfl⟩]
    · have := g7 j (by omega)
      rw [← ht]
      simp only [pkS_v, Nat.reduceEqDiff, false_and, if_false, true_and, c]
      exact this
theorem CX_x {x x' : XT} (h : CX I T B W on x 0 w s) : CX I T B W on x' 0 w s := by
  obtain ⟨g1, g2, g3, ⟨g4, g5, g6, g7⟩, g8⟩ := h
  exact ⟨g1, g2, g3, ⟨g4, g5, g6, fun j hj => by omega⟩, g8⟩
/-- what is asked, as the class keeps it -/
def DSt (p q n : Nat) (lo hi st : Int32) (s : S2) : Prop := s.1 45 0 9 = nI p ∧ s.1 45 0 10 = nI q ∧ s.1 45 0 11 = lo ∧ s.1 45 0 12 = hi ∧ s.1 45 0 13 = nI n ∧ s.1 45 0 14 = st
def cod (L ps : List Nat) : List Nat := ps.map (fun i => L.getD i 0)
theorem cod_getD {L ps : List Nat} {j : Nat} (h : j < ps.length) : (cod L ps).getD j 0 = L.getD (ps.getD j 0) 0 := by
  unfold cod
  rw [List.getD_eq_getElem?_getD, List.getElem?_map, List.getElem?_eq_getElem h, List.getD_eq_getElem?_getD (l := ps), List.getElem?_eq_getElem h]
  rfl
/-- what the tries of the class write -/
def Kbr (c i k : Nat) : Bool := KP 3 c i k || (Kad c i k || (c == 31 && k == 12))
theorem Kbr_KS {c i k : Nat} (h : KS c i k = false) : Kbr c i k = false := by
  unfold Kbr
  rw [KPj_KS (Or.inr (Or.inl rfl)) h]
  unfold KS at h
  have key : ∀ x : Nat, 32 ≤ x → x ≤ 48 → (c == x) = false := fun x h1 h2 => by
    cases hq : c == x with
    | false => rfl
    | true =>
      have e := eq_of_beq hq
      rw [e, show Nat.ble 32 x = true from Nat.ble_eq_true_of_le h1, show Nat.ble x 48 = true from Nat.ble_eq_true_of_le h2] at h
      simp at h
  have k31 : (c == 31 && !(k == 11)) = false := by
    simp only [Bool.or_eq_false_iff] at h
    exact h.2.2.1
  unfold Kad
  rw [key 37 (by omega) (by omega), key 38 (by omega) (by omega), key 39 (by omega) (by omega), key 40 (by omega) (by omega)]
  cases q : c == 31 with
  | false => simp
  | true =>
    rw [q, Bool.true_and] at k31
    have : k = 11 := by simpa using k31
    rw [this]
    simp
theorem Kbr_KP {c i k : Nat} (h : Kbr c i k = false) : KP 3 c i k = false := (Bool.or_eq_false_iff.mp h).1
theorem Kbr_ad {c i k : Nat} (h : Kbr c i k = false) : Kad c i k = false := (Bool.or_eq_false_iff.mp (Bool.or_eq_false_iff.mp h).2).1
theorem DSt_fr {p q n : Nat} {lo hi st : Int32} {s' : S2} {K : Nat → Nat → Nat → Bool} (h : DSt p q n lo hi st s) (hF : Fr K s s') (hK : ∀ k, 9 ≤ k → K 45 0 k = false) : DSt p q n lo hi st s' := by
  unfold DSt at h ⊢
  rw [hF.1 45 0 9 (hK 9 (by omega)), hF.1 45 0 10 (hK 10 (by omega)), hF.1 45 0 11 (hK 11 (by omega)), hF.1 45 0 12 (hK 12 (by omega)), hF.1 45 0 13 (hK 13 (by omega)), hF.1 45 0 14 (hK 14 (by omega))]
  exact h
theorem PT_fr {L : List Nat} {s' : S2} {K : Nat → Nat → Nat → Bool} (h : PT I L s) (hF : Fr K s s') (h7 : K 45 0 7 = false) (hK : ∀ k, K 46 0 k = false ∧ K 47 0 k = false) : PT I L s' := by
  unfold PT at h ⊢
  rw [hF.1 45 0 7 h7, hF.arr fun k => (hK k).1, hF.arr fun k => (hK k).2]
  exact h
theorem PK_fr {N : Nat} {ps : List Nat} {s' : S2} {K : Nat → Nat → Nat → Bool} (h : PK N ps s) (hF : Fr K s s') (h8 : K 45 0 8 = false) (hK : ∀ k, K 48 0 k = false) : PK N ps s' := by
  unfold PK at h ⊢
  rw [hF.1 45 0 8 h8, hF.arr hK]
  exact h
theorem cod_len (L ps : List Nat) : (cod L ps).length = ps.length := List.length_map _
theorem fc_brA {L ps : List Nat} {st : Int32} (h6 : I ≤ 6) : ∀ (m j fu : Nat) (s : S2), j + m = ps.length → m < fu → PT I L s → PK L.length ps s → s.1 45 0 14 = st → CX I T B W onA (xlS st (cod L ps)) j w s → Fr Kbr s0 s → ∃ s', f_Deals_bringsTogether_L20 fu (nI j) s = f_Deals_bringsTogether_L70 FU (nI 0) s' ∧ CX I T B W onA (xlS st (cod L ps)) (cod L ps).length w s' ∧ s'.1 21 3 = s.1 21 3 ∧ Fr Kbr s0 s' := by
  intro m
  induction m with
  | zero =>
    intro j fu s hj hf hL hp hst hX hF
    obtain ⟨f, rfl, hf'⟩ := suc_of hf
    refine ⟨s, ?_, by rw [cod_len, show ps.length = j by omega]; exact hX, rfl, hF⟩
    show b_Deals_bringsTogether_L20 _ _ _ = _
    unfold b_Deals_bringsTogether_L20
    have := hp.1
    rw [hp.2.2.1, if_pos (nI_le (by omega) (by omega)), show Int32.ofInt 0 = nI 0 from of_0]
  | succ m ih =>
    intro j fu s hj hf hL hp hst hX hF
    obtain ⟨f, rfl, hf'⟩ := suc_lt hf
    have h3 := hp.1
    have h15 := hL.1
    obtain ⟨pj, qj⟩ := hp.2.2.2 j (by omega)
    obtain ⟨l1, l2, l3, l4⟩ := hL.2.2 (ps.getD j 0) pj
    have eg := cod_getD (L := L) (ps := ps) (j := j) (by omega)
    obtain ⟨t, a1, a2, a3⟩ := fc_addTie (a := L.getD (ps.getD j 0) 0 / 10) (b := L.getD (ps.getD j 0) 0 % 10) (k := 0) (st := st) hX (by omega) (by unfold xlS; rw [eg]) l1 l2
    have F1 : Fr Kbr s t := a3.mono fun _ _ _ => Kbr_ad
    obtain ⟨s', b1, b2, b3, b4⟩ := ih (j + 1) f t (by omega) hf' (PT_fr hL a3 rfl fun _ => ⟨rfl, rfl⟩) (PK_fr hp a3 rfl fun _ => rfl) ((a3.1 45 0 14 rfl).trans hst) a2 (hF.trans F1)
    refine ⟨s', ?_, b2, b3.trans (a3.arr fun _ => by unfold Kad; simp), b4⟩
    show b_Deals_bringsTogether_L20 _ _ _ = _
    unfold b_Deals_bringsTogether_L20
    rw [hp.2.2.1, if_neg (nI_ge (by omega) (by omega)), ix_nI (n := 3) (k := j) (by omega) (by omega), Option.bind_some, qj, ix_nI (n := 15) (k := ps.getD j 0) (by omega) (by omega), Option.bind_some, Option.bind_some, qj, ix_nI (n := 15) (k := ps.getD j 0) (by omega) (by omega), Option.bind_some, l3, l4, hst, of_0, a1, Option.bind_some, of_1, nI_add]
    exact b1
theorem fc_brP {x : XT} {e p q n : Nat} {lo hi st : Int32} (hv : VS I v) (hp : p < I) (hq : q < I) (hn : n ≤ 20) : ∀ (m j fu : Nat) (s : S2), j + m = n → m < fu → DSt p q n lo hi st s → CX I T B W onA x e w s → s.1 21 3 = seX I T B W onA x e w v j → Fr Kbr s0 s → ∃ s', f_Deals_bringsTogether_L70 fu (nI j) s = some (s', !decide (hi < apS (seX I T B W onA x e w v n) p q)) ∧ s'.1 21 3 = seX I T B W onA x e w v n ∧ Fr Kbr s0 s' := by
  intro m
  induction m with
  | zero =>
    intro j fu s hj hf hD hX hs hF
    obtain ⟨f, rfl, hf'⟩ := suc_of hf
    have ej : j = n := by omega
    subst ej
    have hvs : VS I (s.1 21 3) := by rw [hs]; exact VS_sx hv j
    refine ⟨s, ?_, hs, hF⟩
    show b_Deals_bringsTogether_L70 _ _ _ = _
    unfold b_Deals_bringsTogether_L70
    rw [hD.2.2.2.2.1, if_pos (nI_le (by omega) (by omega)), hD.1, hD.2.1, fc_apart hvs hp hq, Option.bind_some, hD.2.2.2.1, hs]
    by_cases c : hi < apS (seX I T B W onA x e w v j) p q
    · rw [if_pos c, decide_eq_true c]; rfl
    · rw [if_neg c, decide_eq_false c]; rfl
  | succ m ih =>
    intro j fu s hj hf hD hX hs hF
    obtain ⟨f, rfl, hf'⟩ := suc_lt hf
    obtain ⟨s1, a1, a2, -, -, -, a6⟩ := fc_pass (i := 3) (by rw [hs]; exact VS_sx hv j) hX
    rw [hs] at a2
    obtain ⟨s', b1, b2, b3⟩ := ih (j + 1) f s1 (by omega) hf' (DSt_fr hD a6 fun k _ => rfl) (CX_KP hX a6) a2 (hF.trans (a6.mono fun _ _ _ => Kbr_KP))
    refine ⟨s', ?_, b2, b3⟩
    show b_Deals_bringsTogether_L70 _ _ _ = _
    unfold b_Deals_bringsTogether_L70
    rw [hD.2.2.2.2.1, if_neg (nI_ge (by omega) (by omega)), a1, Option.bind_some, of_1, nI_add]
    exact b1
/-- whether a row brings the two together -/
def trG (I T B : Nat) (W : Option WF6) (w v : Nat → Int32) (p q n : Nat) (hi st : Int32) (L : List Nat) : Bool := !decide (hi < apS (seR I T B W w v st L n) p q)
theorem fc_brings {L ps : List Nat} {p q n : Nat} {lo hi st : Int32} (h : INV I T B R W s0) (hF : Fr KS s0 s) (hD : DSt p q n lo hi st s) (hL : PT I L s) (hP : PK L.length ps s) (hv : VS I v) (hm : mkV (s0.1 21 0) (s.1 21 3) = v) (hp : p < I) (hq : q < I) (hn : n ≤ 20) : ∃ s', f_Deals_bringsTogether s = some (s', trG I T B W (s0.1 14 0) v p q n hi st (cod L ps)) ∧ Fr Kbr s s' ∧ mkV (s0.1 21 0) (s'.1 21 3) = v := by
  obtain ⟨h6, h8, h4⟩ := h.1.2.2.1.1
  obtain ⟨t0, ht0⟩ : ∃ t, cpS s 21 3 (s.1 21 0) 0 0 49 = t := ⟨_, rfl⟩
  have F0 : Fr Kbr s t0 := by rw [← ht0]; exact Fr_cp (fun k => by unfold Kbr; rw [KP_21]; rfl) s _ 0 0 49
  obtain ⟨t, ht⟩ : ∃ t, pkS (pkS t0 31 0 12 (nI 255)) 31 0 13 (nI 0) = t := ⟨_, rfl⟩
  have Ft : Fr Kbr s t := by rw [← ht]; exact (F0.pk' _ (by unfold Kbr; simp)).pk' _ (by unfold Kbr Kad; simp)
  have hX : CX I T B W onA (xlS st (cod L ps)) 0 (s0.1 14 0) t := CX_x (CX_told h (hF.trans (Ft.mono fun _ _ _ => Kbr_KS)) (by rw [← ht, pkS_v, if_neg (by omega), pkS_v, if_pos ⟨rfl, rfl, rfl⟩]) (by rw [← ht, pkS_v, if_pos ⟨rfl, rfl, rfl⟩, nI_0]))
  have e3 : t.1 21 3 = v := by
    rw [← ht, pkS_1, if_neg (by omega), pkS_1, if_neg (by omega), ← ht0, mkV_cp, show s.1 21 0 = s0.1 21 0 from hF.arr fun _ => rfl, hm]
  obtain ⟨t2, a1, a2, a3, a4⟩ := fc_brA (s0 := s) (st := st) h6 ps.length 0 FU t (by omega) (lt_FU (by have := hP.1; omega)) (PT_fr hL Ft rfl fun _ => ⟨rfl, rfl⟩) (PK_fr hP Ft rfl fun _ => rfl) ((Ft.1 45 0 14 rfl).trans hD.2.2.2.2.2) hX Ft
  obtain ⟨s', b1, b2, b3⟩ := fc_brP (s0 := s) (v := v) hv hp hq hn n 0 FU t2 (by omega) (lt_FU (by omega)) (DSt_fr hD a4 fun k _ => by unfold Kbr Kad KP KD; simp) a2 (a3.trans e3) a4
  refine ⟨s', ?_, b3, ?_⟩
  · unfold f_Deals_bringsTogether f_Course_drawByTold
    rw [fc_copy, Option.bind_some, ht0, of_255, show Int32.ofInt 0 = nI 0 from of_0, Option.bind_some, Option.bind_some, Option.bind_some, ht, a1, b1]
    rfl
  · rw [b2, ← hm]
    funext j
    unfold mkV
    by_cases d : j < 49
    · rw [if_pos d, if_pos d]
    · rw [if_neg d, if_neg d, seX_o h6 h4 (by omega)]
      exact if_neg d
/-- a row as a number -/
def rowC (L : List Nat) : Nat := L.foldl (fun r c => 100 * r + c) 0
def rowR : List Nat → Nat
  | [] => 0
  | c :: cs => 100 * rowR cs + c
theorem rowC_rev : ∀ Q : List Nat, rowC Q.reverse = rowR Q := by
  intro Q
  induction Q with
  | nil => rfl
  | cons c cs ih =>
    unfold rowC at ih ⊢
    rw [List.reverse_cons, List.foldl_append, ih]
    rfl
theorem rowR_lt : ∀ (Q : List Nat), (∀ c, c ∈ Q → c < 100) → rowR Q < 100 ^ Q.length := by
  intro Q
  induction Q with
  | nil => intro _; decide
  | cons c cs ih =>
    intro h
    have h1 := ih fun x hx => h x (List.mem_cons_of_mem c hx)
    have h2 := h c List.mem_cons_self
    show 100 * rowR cs + c < 100 ^ (cs.length + 1)
    rw [Nat.pow_succ]
    omega
theorem fc_rowL {L ps : List Nat} (h6 : I ≤ 6) (hL : PT I L s) (hP : PK L.length ps s) : ∀ (m j fu r : Nat), j + m = ps.length → m < fu → ∀ r, f_Deals_pickedRow_L4 fu (nI r) (nI j) s = some (nI (((cod L ps).drop j).foldl (fun r c => 100 * r + c) r)) := by
  have h3 := hP.1
  have h15 := hL.1
  intro m
  induction m with
  | zero =>
    intro j fu _ hj hf r
    obtain ⟨f, rfl, hf'⟩ := suc_of hf
    show b_Deals_pickedRow_L4 _ _ _ _ = _
    unfold b_Deals_pickedRow_L4
    rw [hP.2.2.1, if_pos (nI_le (by omega) (by omega)), List.drop_of_length_le (by rw [cod_len]; omega)]
    rfl
  | succ m ih =>
    intro j fu _ hj hf r
    obtain ⟨f, rfl, hf'⟩ := suc_lt hf
    obtain ⟨pj, qj⟩ := hP.2.2.2 j (by omega)
    obtain ⟨l1, l2, l3, l4⟩ := hL.2.2 (ps.getD j 0) pj
    have eg := cod_getD (L := L) (ps := ps) (j := j) (by omega)
    have hjl : j < (cod L ps).length := by rw [cod_len]; omega
    show b_Deals_pickedRow_L4 _ _ _ _ = _
    unfold b_Deals_pickedRow_L4
    rw [hP.2.2.1, if_neg (nI_ge (by omega) (by omega)), ix_nI (n := 3) (k := j) (by omega) (by omega), Option.bind_some, qj, ix_nI (n := 15) (k := ps.getD j 0) (by omega) (by omega), Option.bind_some, Option.bind_some, qj, ix_nI (n := 15) (k := ps.getD j 0) (by omega) (by omega), Option.bind_some, l3, l4, of_100, of_10, mul_nI, mul_nI, nI_add, nI_add, of_1, nI_add, ih (j + 1) f 0 (by omega) hf', List.drop_eq_getElem_cons hjl]
    show _ = some (nI (((cod L ps).drop (j + 1)).foldl (fun r c => 100 * r + c) (100 * r + (cod L ps)[j])))
    rw [show (cod L ps)[j] = L.getD (ps.getD j 0) 0 by rw [← eg, List.getD_eq_getElem?_getD, List.getElem?_eq_getElem hjl, Option.getD_some]]
    rw [show r * 100 + 10 * (L.getD (ps.getD j 0) 0 / 10) + L.getD (ps.getD j 0) 0 % 10 = 100 * r + L.getD (ps.getD j 0) 0 by omega]
def cdT : Option (List Nat) → Int32
  | none => -1
  | some L => nI (rowC L)
theorem fc_treatL {L : List Nat} {p q n : Nat} {lo hi st : Int32} (h : INV I T B R W s0) (hv : VS I v) (hp : p < I) (hq : q < I) (hn : n ≤ 20) : ∀ (m tr fu : Nat) (ps : List Nat) (s : S2), tr + m = 576 → m < fu → Fr KS s0 s → DSt p q n lo hi st s → PT I L s → PK L.length ps s → mkV (s0.1 21 0) (s.1 21 3) = v → ∃ s', f_D_treaty_L65 fu (nI tr) s = some (s', cdT (((enL L.length m ps).map (cod L)).find? (trG I T B W (s0.1 14 0) v p q n hi st))) ∧ Fr KS s0 s' := by
  have h6 := h.1.2.2.1.1.1
  intro m
  induction m with
  | zero =>
    intro tr fu ps s ht hf hF hD hL hP hm
    obtain ⟨f, rfl, hf'⟩ := suc_of hf
    refine ⟨s, ?_, hF⟩
    show b_D_treaty_L65 _ _ _ = _
    unfold b_D_treaty_L65
    rw [of_576, if_pos (nI_le (by omega) (by omega)), of_m1]
    rfl
  | succ m ih =>
    intro tr fu ps s ht hf hF hD hL hP hm
    obtain ⟨f, rfl, hf'⟩ := suc_lt hf
    obtain ⟨s1, a1, a2, a3⟩ := fc_brings h hF hD hL hP hv hm hp hq hn
    have hF1 : Fr KS s0 s1 := hF.trans (a2.mono fun _ _ _ => Kbr_KS)
    have hD1 := DSt_fr hD a2 fun k _ => by unfold Kbr Kad KP KD; simp
    have hL1 := PT_fr hL a2 rfl fun _ => ⟨rfl, rfl⟩
    have hP1 := PK_fr hP a2 rfl fun _ => rfl
    show ∃ s', b_D_treaty_L65 _ _ _ = some (s', cdT (((ps :: (match nxP L.length ps with
      | none => []
      | some ps' => enL L.length m ps')).map (cod L)).find? (trG I T B W (s0.1 14 0) v p q n hi st))) ∧ _
    unfold b_D_treaty_L65
    rw [of_576, if_neg (nI_ge (by omega) (by omega)), a1, Option.bind_some, List.map_cons, List.find?_cons, of_1, nI_add]
    cases c : trG I T B W (s0.1 14 0) v p q n hi st (cod L ps) with
    | true =>
      rw [ifT]
      have := fc_rowL h6 hL1 hP1 ps.length 0 FU 0 (by omega) (lt_FU (by have := hP1.1; omega)) 0
      rw [List.drop_zero] at this
      unfold f_Deals_pickedRow
      rw [show Int32.ofInt 0 = nI 0 from of_0, this]
      exact ⟨s1, rfl, hF1⟩
    | false =>
      obtain ⟨s2, b1, b2, b3⟩ := fc_pickNext hL1.2.1 hL1.1 hP1
      have hF2 : Fr KS s0 s2 := hF1.trans (b3.mono fun _ _ _ => K48_KS)
      rw [ifF, b1, Option.bind_some]
      cases d : nxP L.length ps with
      | none =>
        rw [d] at b1
        refine ⟨s2, ?_, hF2⟩
        rw [show (s2, (none : Option (List Nat)).isSome).2 = false from rfl, ifF, of_m1]
        rfl
      | some ps' =>
        rw [show (s2, (some ps').isSome).2 = true from rfl, ifT]
        exact ih (tr + 1) f ps' s2 (by omega) hf' hF2 (DSt_fr hD1 b3 fun k hk => by unfold K48; simp; omega) (PT_fr hL1 b3 rfl fun _ => ⟨rfl, rfl⟩) (b2 ps' d) (by rw [b3.arr fun _ => rfl]; exact a3)
end
