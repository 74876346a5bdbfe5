/-! ===== treaties: the reference, and both ===== -/
section
variable {I T B R : Nat} {W : Option WF6} {s s0 : S2} {w v u : Nat → Int32} {on : Nat → Bool}
/-- what a try of the reference writes -/
def Kdt (T c i k : Nat) : Bool := MP c i k || (KDl T c i k || (KTB c i k || (c == 91 || c == 96)))
theorem Kdt_MP {c i k : Nat} (h : Kdt T c i k = false) : MP c i k = false := (Bool.or_eq_false_iff.mp h).1
theorem Kdt_Dl {c i k : Nat} (h : Kdt T c i k = false) : KDl T c i k = false := (Bool.or_eq_false_iff.mp (Bool.or_eq_false_iff.mp h).2).1
theorem Kdt_TB {c i k : Nat} (h : Kdt T c i k = false) : KTB c i k = false := (Bool.or_eq_false_iff.mp (Bool.or_eq_false_iff.mp (Bool.or_eq_false_iff.mp h).2).2).1
theorem Kdt_91 {c i k : Nat} (h : Kdt T c i k = false) : (c == 91) = false := (Bool.or_eq_false_iff.mp (Bool.or_eq_false_iff.mp (Bool.or_eq_false_iff.mp (Bool.or_eq_false_iff.mp h).2).2).2).1
theorem Kdt_c {c i k : Nat} (h : MP c i k = false) (h' : ¬ c = 79 ∧ ¬ c = 80 ∧ ¬ c = 81 ∧ ¬ c = 82 ∧ ¬ c = 83 ∧ ¬ c = 76 ∧ ¬ c = 77 ∧ ¬ c = 60 ∧ ¬ c = 91 ∧ ¬ c = 96) : Kdt T c i k = false := by
  unfold Kdt
  rw [h, KDl_f (by omega) (by omega), KTB_c (by omega)]
  simp [h']
theorem Kdt_60 {k : Nat} (h : MP 60 0 k = false) (h' : ¬ k = 36 ∧ ¬ k = 37 ∧ ¬ k = 41 ∧ ¬ k = 42) : Kdt T 60 0 k = false := by
  unfold Kdt
  rw [h, KDl_f (by omega) (by omega), KTB_60 (by omega)]
  rfl
theorem fm_putA {v : Nat → Int32} (h : INV I T B R W s) (hA : AG (s.1 21 0) v) : ∃ s', f_M_putAside s = some s' ∧ MK5 I T B W (s.1 14 0) v 0 s' ∧ Fr (MS T) s s' ∧ Fr (Kdt T) s s' := by
  obtain ⟨h6, h8, h4⟩ := h.1.2.2.1.1
  obtain ⟨s', a1, a2, a3⟩ := fm_begin h hA
  have hr := RS_ag h6 h8 h4 h.1.2.2.2.2.2.2.2.2 hA
  obtain ⟨s2, b1, b2, b3⟩ := fm_write (s := s) (c := 91) (n := 46) (off := 0) (Or.inl rfl) (by omega) (by omega) h8 h6 hr
  have e : s2 = s' := by
    unfold f_M_putAside at a1
    rw [of_0, ← nI_0, b1] at a1
    exact Option.some.inj a1
  refine ⟨s', a1, a2, a3, ?_⟩
  rw [← e]
  exact b3.mono fun c i k hk => Ksv_f fun z => by
    have := Kdt_91 hk
    rw [z] at this
    cases this
theorem fm_passX {x : XT} {e n : Nat} (hv : VS I v) (hn : n < 100) : ∀ (m k fu : Nat) (s : S2), k + m = n → m < fu → MX I T B W onA x e w s → RS I T B (seX I T B W onA x e w v k) s → Fr MP s0 s → ∃ s', f_M_passAll_L2 fu (nI n) (nI k) s = some s' ∧ RS I T B (seX I T B W onA x e w v n) s' ∧ Fr MP s0 s' := by
  intro m
  induction m with
  | zero =>
    intro k fu s hk hf hX hr hF
    obtain ⟨f, rfl, hf'⟩ := suc_of hf
    have ek : k = n := by omega
    subst ek
    refine ⟨s, ?_, hr, hF⟩
    show b_M_passAll_L2 _ _ _ _ = _
    unfold b_M_passAll_L2
    rw [if_pos (nI_le (by omega) (by omega))]
  | succ m ih =>
    intro k fu s hk hf hX hr hF
    obtain ⟨f, rfl, hf'⟩ := suc_lt hf
    obtain ⟨s1, a1, a2, -, -, -, a6⟩ := fm_pass (VS_sx hv k) hX hr
    obtain ⟨s', b1, b2, b3⟩ := ih (k + 1) f s1 (by omega) hf' (MX_MP hX a6) a2 (hF.trans a6)
    refine ⟨s', ?_, b2, b3⟩
    show b_M_passAll_L2 _ _ _ _ = _
    unfold b_M_passAll_L2
    rw [if_neg (nI_ge (by omega) (by omega)), a1, Option.bind_some, of_1, nI_add]
    exact b1
/-- codes of pairs -/
def okT (I k : Nat) : Bool := decide (k / 10 < k % 10) && decide (k % 10 < I)
theorem fm_dealL {Q : List Nat} {st hi : Int32} {p q n : Nat} (h6 : I ≤ 6) (h3 : Q.length ≤ 3) (hQ : ∀ c, c ∈ Q → okT I c = true) : ∀ (rest : List Nat) (j fu : Nat) (s : S2), Q.drop j = rest → j + rest.length = Q.length → rest.length < fu → MX I T B W onA (xlS st Q) j w s → RS I T B v s → Fr (Kdt T) s0 s → Fr (MS T) s0 s → ∃ s' f', f_M_doesTreat_L10 fu (nI Q.length) st (nI (10 * p + q)) hi (nI n) (nI (rowR rest)) (nI j) s = b_M_doesTreat_L10 (f_M_doesTreat_L10 f') (nI Q.length) st (nI (10 * p + q)) hi (nI n) 0 (nI Q.length) s' ∧ MX I T B W onA (xlS st Q) Q.length w s' ∧ RS I T B v s' ∧ s'.1 91 0 = s.1 91 0 ∧ Fr (Kdt T) s0 s' ∧ Fr (MS T) s0 s' := by
  intro rest
  induction rest with
  | nil =>
    intro j fu s hd hl hf hX hr hF hG
    obtain ⟨f, rfl, hf'⟩ := suc_of hf
    have ej : j = Q.length := by simpa using hl
    subst ej
    exact ⟨s, f, by rw [show rowR [] = 0 from rfl, nI_0]; rfl, hX, hr, rfl, hF, hG⟩
  | cons c cs ih =>
    intro j fu s hd hl hf hX hr hF hG
    obtain ⟨f, rfl, hf'⟩ := suc_lt (show cs.length + 1 < fu from hf)
    have hl' : j + (cs.length + 1) = Q.length := hl
    have hj : j < Q.length := by omega
    have hdd := List.drop_eq_getElem_cons hj
    rw [hd] at hdd
    obtain ⟨e1, e2⟩ := List.cons.inj hdd
    have eg : Q.getD j 0 = c := by rw [List.getD_eq_getElem?_getD, List.getElem?_eq_getElem hj, Option.getD_some, e1]
    have hc := hQ c (by rw [e1]; exact List.getElem_mem hj)
    unfold okT at hc
    obtain ⟨c1, c2⟩ := Bool.and_eq_true_iff.mp hc
    have c1 := of_decide_eq_true c1
    have c2 := of_decide_eq_true c2
    have hrow : rowR cs < 100 ^ cs.length := rowR_lt cs fun x hx => by
      have : x ∈ Q := by
        have : x ∈ Q.drop j := by rw [hd]; exact List.mem_cons_of_mem c hx
        exact List.mem_of_mem_drop this
      have := hQ x this
      unfold okT at this
      obtain ⟨d1, d2⟩ := Bool.and_eq_true_iff.mp this
      have d1 := of_decide_eq_true d1
      have d2 := of_decide_eq_true d2
      omega
    have hrow2 : rowR cs < 10000 := Nat.lt_of_lt_of_le hrow (Nat.pow_le_pow_right (by omega) (show cs.length ≤ 2 by omega))
    have er : rowR (c :: cs) = 100 * rowR cs + c := rfl
    obtain ⟨t, a1, a2, a3, a4⟩ := fm_deal (a := c / 10) (b := c % 10) (y := 0) (z := st) (by omega) hX (by omega) c2 (by unfold xlS; rw [eg])
    obtain ⟨s', f', b1, b2, b3, b4, b5, b6⟩ := ih (j + 1) f t e2.symm (by omega) hf' a2 (RS_deal hr a3 a4) (hF.trans (a3.mono fun _ _ _ => Kdt_Dl)) (hG.trans (a3.mono fun _ _ _ => KDl_MS))
    refine ⟨s', f', ?_, b2, b3, b4.trans (a3.arr fun _ => KDl_f (by omega) (by omega)), b5, b6⟩
    rw [← b1]
    show b_M_doesTreat_L10 _ _ _ _ _ _ _ _ _ = _
    unfold b_M_doesTreat_L10
    rw [if_neg (nI_ge (by omega) (by omega)), of_10, div_nI (by omega) (by omega) (by omega), jrem_nI (by omega) (by omega) (by omega), jrem_nI (by omega) (by omega) (by omega), of_100, div_nI (by omega) (by omega) (by omega), show rowR (c :: cs) / 10 % 10 = c / 10 by omega, show rowR (c :: cs) % 10 = c % 10 by omega, show rowR (c :: cs) / 100 = rowR cs by omega, of_0, a1, Option.bind_some, of_1, nI_add]
theorem fm_doesTreat {Q : List Nat} {st hi : Int32} {p q n : Nat} (h : INV I T B R W s) (hv : VS I v) (hu : s.1 21 0 = u) (hw : s.1 14 0 = w) (hA : AG u v) (h3 : Q.length ≤ 3) (hQ : ∀ c, c ∈ Q → okT I c = true) (hp : p < I) (hq : q < I) (hn : n ≤ 20) : ∃ s', f_M_doesTreat (nI (rowR Q)) (nI Q.length) st (nI (10 * p + q)) hi (nI n) s = some (s', trG I T B W w v p q n hi st Q.reverse) ∧ INV I T B R W s' ∧ Fr (Kdt T) s s' := by
  obtain ⟨h6, h8, h4⟩ := h.1.2.2.1.1
  obtain ⟨t1, u1, ⟨u2, u4, u5⟩, u3, u6⟩ := fm_putA (v := v) h (by rw [hu]; exact hA)
  rw [hw] at u2
  obtain ⟨t2, f', a1, a2, a3, a4, a5, a6⟩ := fm_dealL (s0 := s) (st := st) (hi := hi) (p := p) (q := q) (n := n) h6 h3 hQ Q 0 FU t1 (by rw [List.drop_zero]) (by omega) (lt_FU (by omega)) (MX_x u2) u4 u6 u3
  obtain ⟨t3, b1, b2, b3⟩ := fm_passX (s0 := t2) (v := v) hv (show n < 100 by omega) n 0 FU t2 (by omega) (lt_FU (by omega)) a2 a3 (Fr.refl _ _)
  have F3 : Fr (MS T) s t3 := a6.trans (b3.mono fun _ _ _ => MP_MS)
  have G3 : Fr (Kdt T) s t3 := a5.trans (b3.mono fun _ _ _ => Kdt_MP)
  obtain ⟨t4, c1, c2, c3⟩ := fm_endF h (by rw [hu]; exact hA) F3 (SV_fr (s := t1) u5 ((b3.arr fun _ => rfl).trans a4))
  have ef : f_M_farOf (nI p) (nI q) t3 = some (apS (seX I T B W onA (xlS st Q) Q.length w v n) p q) := fm_farOf (VS_sx hv n) b2 hp hq
  have eR : seX I T B W onA (xlS st Q) Q.length w v n = seR I T B W w v st Q.reverse n := by
    have := seR_rev (I := I) (T := T) (B := B) (W := W) (w := w) (v := v) st Q.reverse n
    rw [List.reverse_reverse] at this
    exact this
  refine ⟨t4, ?_, c2, G3.trans (c3.mono fun _ _ _ => Kdt_TB)⟩
  unfold f_M_doesTreat
  rw [u1, Option.bind_some, show Int32.ofInt 0 = nI 0 from of_0, a1]
  unfold b_M_doesTreat_L10 f_M_passAll
  rw [if_pos (nI_le (Nat.le_refl _) (by omega)), show Int32.ofInt 0 = nI 0 from of_0, b1, Option.bind_some, of_10, div_nI (by omega) (by omega) (by omega), jrem_nI (by omega) (by omega) (by omega), show (10 * p + q) / 10 = p by omega, show (10 * p + q) % 10 = q by omega, ef, Option.bind_some]
  unfold f_M_doesTreat_L78 trG
  rw [c1, Option.bind_some, Option.bind_some, eR]
  by_cases d : hi < apS (seR I T B W w v st Q.reverse n) p q
  · rw [if_pos d, decide_eq_true d]; rfl
  · rw [if_neg d, decide_eq_false d, of_1]; rfl
/-- all codes of pairs from k on -/
def rgT (I : Nat) : Nat → Nat → List Nat
  | 0, _ => []
  | m + 1, k => if okT I k then k :: rgT I m (k + 1) else rgT I m (k + 1)
theorem rgT_al : ∀ I, I < 7 → rgT I (10 * I) 0 = alA I I 0 := by decide +kernel
theorem rgT_ok (I : Nat) : ∀ m k c, c ∈ rgT I m k → okT I c = true := by
  intro m
  induction m with
  | zero => intro k c h; cases h
  | succ m ih =>
    intro k c h
    unfold rgT at h
    cases d : okT I k with
    | true =>
      rw [d, if_pos rfl] at h
      rcases List.mem_cons.mp h with e | e
      · rw [e]; exact d
      · exact ih _ _ e
    | false =>
      rw [d, if_neg (by decide)] at h
      exact ih _ _ h
/-- the first row of so many pairs more that serves -/
def tsR (g : List Nat → Bool) (m : Nat) (l : List Nat) (Q : List Nat) : Option (List Nat) := ((cmb m l).map (Q.reverse ++ ·)).find? g
theorem tsR_cons (g : List Nat → Bool) (m c : Nat) (l : List Nat) (Q : List Nat) : tsR g (m + 1) (c :: l) Q = (tsR g m l (c :: Q)).or (tsR g (m + 1) l Q) := by
  unfold tsR
  show (((cmb m l).map (c :: ·) ++ cmb (m + 1) l).map (Q.reverse ++ ·)).find? g = _
  rw [List.map_append, List.find?_append, List.map_map]
  congr 2
  apply List.map_congr_left
  intro r _
  show Q.reverse ++ (c :: r) = (c :: Q).reverse ++ r
  rw [List.reverse_cons, List.append_assoc]
  rfl
theorem tsR_0 (g : List Nat → Bool) (l : List Nat) (Q : List Nat) : tsR g 0 l Q = if g Q.reverse then some Q.reverse else none := by
  unfold tsR
  rw [cmb_0]
  show List.find? g [Q.reverse ++ []] = _
  rw [List.append_nil, List.find?_cons]
  cases g Q.reverse <;> rfl
theorem cdT_n1 (L : List Nat) (h : rowC L < 2 ^ 31) : ¬ cdT (some L) = -1 := cdO_nm1 (rowC L) h
def ASK (p q n : Nat) (hi st : Int32) (s : S2) : Prop := s.1 95 0 0 = st ∧ s.1 95 0 1 = nI (10 * p + q) ∧ s.1 95 0 2 = hi ∧ s.1 95 0 3 = nI n
/-- once it is found, nothing is tried any more -/
theorem fm_tryD {fu : Nat} (hne : ¬ s.1 60 0 62 = -1) (a b c d : Int32) : f_M_tryTreaties (fu + 1) a b c d 95 0 4 s = some s := by
  show fb_M_tryTreaties _ _ _ _ _ _ _ _ _ = _
  unfold fb_M_tryTreaties
  rw [of_m1, if_neg hne]
theorem fm_tryDL {fu : Nat} (hne : ¬ s.1 60 0 62 = -1) (hI : s.1 60 0 28 = nI I) (h6 : I ≤ 6) (b c d : Int32) : ∀ (m k f : Nat), k + m = 10 * I → m < f → f_M_tryTreaties_L53 95 0 4 (f_M_tryTreaties (fu + 1)) f b c d (nI k) s = some s := by
  intro m
  induction m with
  | zero =>
    intro k f hk hf
    obtain ⟨f, rfl, hf'⟩ := suc_of hf
    show b_M_tryTreaties_L53 _ _ _ _ _ _ _ _ _ _ = _
    unfold b_M_tryTreaties_L53
    rw [hI, of_10, mul_nI, if_pos (nI_le (by omega) (by omega))]
  | succ m ih =>
    intro k f hk hf
    obtain ⟨f, rfl, hf'⟩ := suc_lt hf
    have n0 := ih (k + 1) f (by omega) hf'
    show b_M_tryTreaties_L53 _ _ _ _ _ _ _ _ _ _ = _
    unfold b_M_tryTreaties_L53 f_M_tryTreaties_L112
    rw [hI, of_10, mul_nI, if_neg (nI_ge (by omega) (by omega)), fm_tryD hne, Option.bind_some, of_1, nI_add, n0]
    split
    · rfl
    · split <;> rfl
theorem okT_lt {c : Nat} (h6 : I ≤ 6) (h : okT I c = true) : c < 60 ∧ c / 10 < I ∧ c % 10 < I ∧ c / 10 < c % 10 := by
  unfold okT at h
  obtain ⟨d1, d2⟩ := Bool.and_eq_true_iff.mp h
  have d1 := of_decide_eq_true d1
  have d2 := of_decide_eq_true d2
  omega
theorem row_lt {L : List Nat} {m : Nat} (h6 : I ≤ 6) (hl : L.length ≤ 3) (h : ∀ c, c ∈ L → okT I c = true) : rowR L < 1000000 := by
  have h1 := rowR_lt L fun c hc => by
    have := okT_lt h6 (h c hc)
    omega
  exact Nat.lt_of_lt_of_le h1 (Nat.pow_le_pow_right (by omega) hl : 100 ^ L.length ≤ 100 ^ 3)
theorem fm_try {wt p q n : Nat} {hi st : Int32} (hwt : wt ≤ 3) (hv : VS I v) (hA : AG u v) (hp : p < I) (hq : q < I) (hn : n ≤ 20) : ∀ (m k fu : Nat) (Q : List Nat) (s : S2), Q.length + m = wt → k ≤ 10 * I → m < fu → (∀ c, c ∈ Q → okT I c = true) → INV I T B R W s → s.1 21 0 = u → s.1 14 0 = w → ASK p q n hi st s → s.1 60 0 62 = -1 → ∃ s', f_M_tryTreaties fu (nI k) (nI (rowR Q)) (nI Q.length) (nI wt) 95 0 4 s = some s' ∧ INV I T B R W s' ∧ s'.1 21 0 = u ∧ s'.1 14 0 = w ∧ ASK p q n hi st s' ∧ s'.1 60 0 62 = cdT (tsR (trG I T B W w v p q n hi st) m (rgT I (10 * I - k) k) Q) := by
  have h6 := hv.1
  intro m
  induction m with
  | zero =>
    intro k fu Q s hl hk hf hQ h hu hw ha hb
    obtain ⟨f, rfl, hf'⟩ := suc_of hf
    have hrow := row_lt (m := 0) h6 (show Q.length ≤ 3 by omega) hQ
    obtain ⟨t, a1, a2, a3⟩ := fm_doesTreat (st := st) (hi := hi) (p := p) (q := q) (n := n) h hv hu hw hA (by omega) hQ hp hq hn
    obtain ⟨x1, x2, x3, x4⟩ := ha
    have ea : ASK p q n hi st t := by
      unfold ASK
      rw [a3.arr (c := 95) (i := 0) fun _ => Kdt_c rfl (by omega)]
      exact ⟨x1, x2, x3, x4⟩
    have hu' : t.1 21 0 = u := (a3.arr fun _ => Kdt_c rfl (by omega)).trans hu
    have hw' : t.1 14 0 = w := (a3.arr fun _ => Kdt_c rfl (by omega)).trans hw
    have h62 : t.1 60 0 62 = -1 := (a3.1 60 0 62 (Kdt_60 rfl (by omega))).trans hb
    rw [tsR_0]
    have inv62 : ∀ y : Int32, INV I T B R W (pkS t 60 0 62 y) := fun y => INV_MS a2 ((Fr.refl (MS T) t).pk' _ (by unfold MS; simp)) (RS_52 (by rw [hu']; rw [← hu']; exact a2.1.2.2.2.2.2.2.2.2) (by omega) (by omega) _) (by rw [pkS_v, if_neg (by omega)]; exact a2.1.2.2.2.2.2.2.2.1.1) (by rw [pkS_v, if_neg (by omega)]; exact a2.1.2.2.2.2.2.2.2.1.2)
    have ask62 : ∀ y : Int32, ASK p q n hi st (pkS t 60 0 62 y) := fun y => by
      unfold ASK at ea ⊢
      rw [pkS_1, if_neg (by omega)]
      exact ea
    show ∃ s', fb_M_tryTreaties _ _ _ _ _ _ _ _ _ = _ ∧ _
    unfold fb_M_tryTreaties f_M_tryTreaties_L46
    rw [of_m1, if_pos hb, if_pos (show nI Q.length = nI wt by rw [show wt = Q.length by omega]), show Int32.ofInt 0 = nI 0 from of_0, of_1, of_2, of_3, ix_nI (n := 4) (k := 0) (by omega) (by omega), Option.bind_some, ix_nI (n := 4) (k := 1) (by omega) (by omega), Option.bind_some, ix_nI (n := 4) (k := 2) (by omega) (by omega), Option.bind_some, ix_nI (n := 4) (k := 3) (by omega) (by omega), Option.bind_some, x1, x2, x3, x4, a1, Option.bind_some]
    cases c : trG I T B W w v p q n hi st Q.reverse with
    | false =>
      rw [ifF, Option.bind_some]
      exact ⟨_, rfl, inv62 _, by rw [pkS_1, if_neg (by omega)]; exact hu', by rw [pkS_1, if_neg (by omega)]; exact hw', ask62 _, by rw [pkS_v, if_pos ⟨rfl, rfl, rfl⟩]; rfl⟩
    | true =>
      rw [ifT, Option.bind_some]
      refine ⟨_, rfl, inv62 _, by rw [pkS_1, if_neg (by omega)]; exact hu', by rw [pkS_1, if_neg (by omega)]; exact hw', ask62 _, ?_⟩
      rw [pkS_v, if_pos ⟨rfl, rfl, rfl⟩, if_pos rfl]
      show nI (rowR Q) = nI (rowC Q.reverse)
      rw [rowC_rev]
  | succ m ih =>
    intro k fu Q s hl hk hf hQ h hu hw ha hb
    obtain ⟨f, rfl, hf'⟩ := suc_lt hf
    obtain ⟨f0, rfl, -⟩ := suc_of (show 0 < f by omega)
    have hrow := row_lt (m := 0) h6 (show Q.length ≤ 3 by omega) hQ
    have loop : ∀ (r k fu : Nat) (s : S2), k + r = 10 * I → r < fu → INV I T B R W s → s.1 21 0 = u → s.1 14 0 = w → ASK p q n hi st s → s.1 60 0 62 = -1 → ∃ s', f_M_tryTreaties_L53 95 0 4 (f_M_tryTreaties (f0 + 1)) fu (nI (rowR Q)) (nI Q.length) (nI wt) (nI k) s = some s' ∧ INV I T B R W s' ∧ s'.1 21 0 = u ∧ s'.1 14 0 = w ∧ ASK p q n hi st s' ∧ s'.1 60 0 62 = cdT (tsR (trG I T B W w v p q n hi st) (m + 1) (rgT I r k) Q) := by
      intro r
      induction r with
      | zero =>
        intro k fu s hk hf h hu hw ha hb
        obtain ⟨g, rfl, hg⟩ := suc_of hf
        refine ⟨s, ?_, h, hu, hw, ha, hb⟩
        show b_M_tryTreaties_L53 _ _ _ _ _ _ _ _ _ _ = _
        unfold b_M_tryTreaties_L53
        rw [h.1.2.2.2.2.2.1.1, of_10, mul_nI, if_pos (nI_le (by omega) (by omega))]
      | succ r ihr =>
        intro k fu s hk hf h hu hw ha hb
        obtain ⟨g, rfl, hg⟩ := suc_lt hf
        have n0 := ihr (k + 1) g s (by omega) hg h hu hw ha hb
        show ∃ s', b_M_tryTreaties_L53 _ _ _ _ _ _ _ _ _ _ = _ ∧ INV I T B R W s' ∧ s'.1 21 0 = u ∧ s'.1 14 0 = w ∧ ASK p q n hi st s' ∧ s'.1 60 0 62 = cdT (tsR (trG I T B W w v p q n hi st) (m + 1) (if okT I k then k :: rgT I r (k + 1) else rgT I r (k + 1)) Q)
        unfold b_M_tryTreaties_L53 f_M_tryTreaties_L112
        rw [h.1.2.2.2.2.2.1.1, of_10, mul_nI, if_neg (nI_ge (by omega) (by omega)), jrem_nI (by omega) (by omega) (by omega), div_nI (by omega) (by omega) (by omega), of_1, nI_add, nI_add]
        by_cases c1 : k / 10 < k % 10
        · rw [if_neg (nI_ge c1 (by omega))]
          by_cases c2 : k % 10 < I
          · have hok : okT I k = true := by unfold okT; rw [decide_eq_true c1, decide_eq_true c2]; rfl
            rw [if_neg (nI_ge c2 (by omega)), hok, if_pos rfl, tsR_cons, of_100, mul_nI, nI_add]
            obtain ⟨t, a1, a2, a3, a4, a5, a6⟩ := ih (k + 1) (f0 + 1) (k :: Q) s (by rw [List.length_cons]; omega) (by omega) (by omega) (fun c hc => by
              rcases List.mem_cons.mp hc with e | e
              · rw [e]; exact hok
              · exact hQ c e) h hu hw ha hb
            rw [show (10 * I - (k + 1)) = r by omega] at a6
            rw [show nI (100 * rowR Q + k) = nI (rowR (k :: Q)) from rfl, show nI (Q.length + 1) = nI (k :: Q).length from rfl, a1, Option.bind_some]
            cases d : tsR (trG I T B W w v p q n hi st) m (rgT I r (k + 1)) (k :: Q) with
            | none =>
              rw [d] at a6
              exact ihr (k + 1) g t (by omega) hg a2 a3 a4 a5 a6
            | some L =>
              rw [d] at a6
              have hL : rowC L < 2 ^ 31 := by
                unfold tsR at d
                have hm := List.mem_of_find?_eq_some d
                obtain ⟨r', hr', e⟩ := List.mem_map.mp hm
                obtain ⟨z1, z2⟩ := (cmb_mem _ _ _).mp hr'
                have := row_lt (L := L.reverse) (m := 0) h6 (by
                  rw [List.length_reverse, ← e, List.length_append, List.length_reverse, List.length_cons, z2]
                  omega) (fun c hc => by
                  rw [List.mem_reverse, ← e] at hc
                  rcases List.mem_append.mp hc with y | y
                  · rw [List.mem_reverse] at y
                    rcases List.mem_cons.mp y with e' | e'
                    · rw [e']; exact hok
                    · exact hQ c e'
                  · exact rgT_ok I r (k + 1) c (z1.subset y))
                rw [← rowC_rev, List.reverse_reverse] at this
                omega
              have hne : ¬ t.1 60 0 62 = -1 := by rw [a6]; exact cdT_n1 L hL
              have := fm_tryDL (fu := f0) hne a2.1.2.2.2.2.2.1.1 h6 (nI (rowR Q)) (nI Q.length) (nI wt) r (k + 1) g (by omega) hg
              exact ⟨t, this, a2, a3, a4, a5, a6⟩
          · rw [if_pos (nI_le (by omega) (by omega)), show okT I k = false by unfold okT; rw [decide_eq_false c2]; simp]
            exact n0
        · rw [if_pos (nI_le (by omega) (by omega)), show okT I k = false by unfold okT; rw [decide_eq_false c1]; simp]
          exact n0
    show ∃ s', fb_M_tryTreaties _ _ _ _ _ _ _ _ _ = _ ∧ _
    unfold fb_M_tryTreaties
    rw [of_m1, if_pos hb, if_neg (fun z => by have := (nI_eq (by omega) (by omega)).mp z; omega)]
    exact loop (10 * I - k) k FU s (by omega) (lt_FU (by omega)) h hu hw ha hb
end
