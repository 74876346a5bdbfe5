/-! ===== a rule's text: the reference's reading, and the fault ===== -/
section
variable {I T B R : Nat} {W : Option WF6} {s s0 s' t : S2} {tp : Nat → Nat} {n N : Nat}
def Klw (N c i k : Nat) : Bool := Ksm N c i k || (((c == 66 || (c == 67 || c == 68)) && (Nat.ble (140 * N) k && Nat.blt k (140 * N + 140))) || (c == 65 && k == N))
theorem fr_cl {j : Nat} (hj : j < 140) (h : Fr (Kcl N j) s t) : Fr (Klw N) s t := h.mono fun c i k hk => by
  unfold Klw at hk
  unfold Kcl
  obtain ⟨h1, h2⟩ := Bool.or_eq_false_iff.mp hk
  obtain ⟨h3, h4⟩ := Bool.or_eq_false_iff.mp h2
  rw [h1, h4, Bool.false_or, Bool.or_false]
  by_cases e : k = 140 * N + j
  · subst e
    have e1 : Nat.ble (140 * N) (140 * N + j) = true := Nat.ble_eq_true_of_le (by omega)
    have e2 : Nat.blt (140 * N + j) (140 * N + 140) = true := Nat.ble_eq_true_of_le (by show 140 * N + j + 1 ≤ _; omega)
    rw [e1, e2, Bool.and_true, Bool.and_true] at h3
    rw [h3, Bool.false_and]
  · rw [show (k == 140 * N + j) = false from beq_eq_false_iff_ne.mpr e, Bool.and_false]
theorem fr_smw (h : Fr (Ksm N) s t) : Fr (Klw N) s t := fr_cl (j := 0) (by omega) (fr_sm h)
theorem mcl_fr {j' : Nat} (hF : Fr (Kcl N j') s t) : ∀ (l : List CLA) (p j : Nat), j + l.length ≤ j' → MCl N p j l s → MCl N p j l t := by
  intro l
  induction l with
  | nil => intro p j _ _; trivial
  | cons c l ih =>
    intro p j hj h
    have hj : j + (l.length + 1) ≤ j' := hj
    obtain ⟨⟨h1, h2, h3⟩, h4⟩ := h
    have e : ∀ x, x = 66 ∨ x = 67 ∨ x = 68 → t.1 x 0 (140 * N + j) = s.1 x 0 (140 * N + j) := fun x hx => hF.1 x 0 _ (by
      unfold Kcl Ksm
      have e1 : (140 * N + j == 140 * N + j') = false := beq_eq_false_iff_ne.mpr (by omega)
      rw [e1]
      rcases hx with rfl | rfl | rfl <;> rfl)
    exact ⟨⟨(e 66 (by omega)).trans h1, (e 67 (by omega)).trans h2, (e 68 (by omega)).trans h3⟩, ih _ _ (by omega) h4⟩
theorem mcl_app {c : CLA} : ∀ (l : List CLA) (p j : Nat), MCl N p j l t → (t.1 66 0 (140 * N + (j + l.length)) = nI (p + (encM l).length) ∧ t.1 67 0 (140 * N + (j + l.length)) = nI (p + (encM l).length + (c.1.getD []).length) ∧ t.1 68 0 (140 * N + (j + l.length)) = nI (p + (encM l).length + (mlC c).length)) → MCl N p j (l ++ [c]) t := by
  intro l
  induction l with
  | nil => intro p j _ h; exact ⟨h, trivial⟩
  | cons d l ih =>
    intro p j h h2
    refine ⟨h.1, ih _ _ h.2 ?_⟩
    have e1 : j + (d :: l).length = j + 1 + l.length := by show j + (l.length + 1) = _; omega
    have e2 : p + (encM (d :: l)).length = p + (mlC d).length + (encM l).length := by
      show p + (mlC d ++ encM l).length = _
      rw [List.length_append]; omega
    rw [e1, e2] at h2
    exact h2
theorem enM_app {c : CLA} : ∀ (l : List CLA), encM (l ++ [c]) = encM l ++ mlC c := by
  intro l
  induction l with
  | nil => show mlC c ++ [] = [] ++ mlC c; rw [List.append_nil, List.nil_append]
  | cons d l ih => show mlC d ++ encM (l ++ [c]) = (mlC d ++ encM l) ++ mlC c; rw [ih, List.append_assoc]
def LW (s : S2) (N : Nat) (l : List CLA) (i : Nat) (t : S2) : Prop := Fr (Klw N) s t ∧ LM t N 0 (encM l) i t ∧ t.1 65 0 N = nI l.length ∧ MCl N 0 0 l t
def CWr (n : Nat) (s : S2) (N : Nat) (l : List CLA) (i : Nat) (t' : S2) : Nat ⊕ (Nat × CLA) → Prop
  | Sum.inl q => q ≤ n ∧ Fr (Klw N) s t' ∧ t'.1 60 0 4 = nI q
  | Sum.inr q => q.1 ≤ n ∧ i + 2 + (mlC q.2).length ≤ q.1 ∧ LW s N (l ++ [q.2]) q.1 t'
theorem klw_tp (h : Fr (Klw N) s t) (hp : TPm n tp s) : TPm n tp t := by
  unfold TPm at hp ⊢
  rw [h.1 60 0 2 rfl, h.arr (c := 61) (i := 0) fun _ => rfl]
  exact hp
theorem pk3_bad {q : Nat} {x : Int32} (h : Fr (Klw N) s t ∧ t.1 60 0 4 = nI q) : Fr (Klw N) s (pkS t 60 0 3 x) ∧ (pkS t 60 0 3 x).1 60 0 4 = nI q := ⟨h.1.pk' _ rfl, by rw [pkS_v, if_neg (by omega)]; exact h.2⟩
theorem l71_bad {q : Nat} {x : Int32} (hq : q < 1000) (h : Fr (Klw N) s t ∧ t.1 60 0 4 = nI q) : ∃ t', f_M_clause_L71 x t = some t' ∧ Fr (Klw N) s t' ∧ t'.1 60 0 4 = nI q := by
  have h2 := pk3_bad (x := t.1 60 0 3 + Int32.ofInt 1) h
  unfold f_M_clause_L71
  rw [Option.bind_some, h2.2, of_m1, if_neg (m1_ne hq)]
  exact ⟨_, rfl, h2⟩
theorem lw_clause {l : List CLA} {i : Nat} (ht : TOK n tp) (hp : TPm n tp s) (hb : LB N s) (h : LW s N l i t) (hi : i ≤ n) (hL : (encM l).length ≤ i) (hl : 2 * l.length ≤ i) : ∃ t', f_M_clause t = some t' ∧ CWr n s N l i t' (clR tp n i) := by
  have h240 := ht.1
  have hN := hb.1
  obtain ⟨hF, hM, h65, hC⟩ := h
  have hk := skN_le (tp := tp) hi
  have hpt := klw_tp hF hp
  have h14 : t.1 60 0 14 = nI N := (hF.1 60 0 14 rfl).trans hb.2
  have is1 : (hmN tp n (skN tp n i) = nI 121) = (chN tp n (skN tp n i) = 121) := hm_is ht (by omega) (by omega)
  unfold f_M_clause clR
  rw [h14, ix_nI (n := 5) (k := N) hN (by omega), Option.bind_some, hM.2.2.2.2.1, of_m1, if_pos rfl, lm_look ht hpt hM hi, Option.bind_some, of_140, mul_nI, h65, nI_add, of_121]
  show ∃ t', (if hmN tp n (skN tp n i) = nI 121 then f_M_clause_L40 (nI (140 * N + l.length)) (mA t (skN tp n i)) else (f_M_bad (mA t (skN tp n i))).bind _) = _ ∧ _
  by_cases c : chN tp n (skN tp n i) = 121
  · have hlt := chN_p c (by omega)
    have hk2 := skN_le (tp := tp) (show skN tp n i + 1 ≤ n by omega)
    have is2 : (hmN tp n (skN tp n (skN tp n i + 1)) = nI 58) = (chN tp n (skN tp n (skN tp n i + 1)) = 58) := hm_is ht (by omega) (by omega)
    have hA := LM_at hM (skN tp n i + 1)
    rw [if_pos (is1.mpr c), if_pos c]
    unfold f_M_clause_L40
    rw [mA_at, of_1, nI_add, Option.bind_some, show pkS (mA t (skN tp n i)) 60 0 3 (nI (skN tp n i + 1)) = mA t (skN tp n i + 1) from mA_mA t _ _, hA.2.2.2.2.1, of_m1, if_pos rfl, lm_look ht hpt hA (by omega), Option.bind_some, mA_mA, of_58]
    show ∃ t', (if hmN tp n (skN tp n (skN tp n i + 1)) = nI 58 then f_M_clause_L71 (nI (140 * N + l.length)) (mA t (skN tp n (skN tp n i + 1))) else (f_M_bad (mA t (skN tp n (skN tp n i + 1)))).bind _) = _ ∧ _
    by_cases c2 : chN tp n (skN tp n (skN tp n i + 1)) = 58
    · have hlt2 := chN_p c2 (by omega)
      rw [if_pos (is2.mpr c2), if_pos c2]
      unfold f_M_clause_L71
      have hB := LM_at hM (skN tp n (skN tp n i + 1) + 1)
      have eB14 : (mA t (skN tp n (skN tp n i + 1) + 1)).1 60 0 14 = nI N := (mA_o (by omega)).trans h14
      have eB65 : (mA t (skN tp n (skN tp n i + 1) + 1)).1 65 0 N = nI l.length := (mA_o (by omega)).trans h65
      rw [mA_at, of_1, nI_add, Option.bind_some, show pkS (mA t (skN tp n (skN tp n i + 1))) 60 0 3 (nI (skN tp n (skN tp n i + 1) + 1)) = mA t (skN tp n (skN tp n i + 1) + 1) from mA_mA t _ _, hB.2.2.2.2.1, of_m1, if_pos rfl, eB14, ix_nI (n := 5) (k := N) hN (by omega), Option.bind_some, ix_nI (n := 700) (k := 140 * N + l.length) (by omega) (by omega), Option.bind_some, Option.bind_some, hB.2.1]
      have hD := LM_pk (c := 66) (k := 140 * N + l.length) (x := nI (encM l).length) (LM_self hB) (by omega)
      have fD : Fr (Kcl N l.length) t (pkS (mA t (skN tp n (skN tp n i + 1) + 1)) 66 0 (140 * N + l.length) (nI (encM l).length)) := (fr_sm hB.1).pk' _ (kcl_c (by omega))
      obtain ⟨t', a1, a2⟩ := lm_body (n := n) (tp := tp) (j := l.length) ht (klw_tp (fr_cl (by omega) fD) hpt) ⟨hN, by rw [pkS_v, if_neg (by omega)]; exact eB14⟩ (by omega) (by rw [pkS_v, if_neg (by omega)]; exact eB65) (show skN tp n (skN tp n i + 1) + 1 ≤ n by omega) (by omega) hD (by rw [pkS_v, if_pos ⟨rfl, rfl, rfl⟩])
      refine ⟨t', a1, ?_⟩
      cases e : bdS tp n (skN tp n (skN tp n i + 1) + 1) with
      | inl q =>
        rw [e] at a2
        obtain ⟨x1, x2, x3⟩ := a2
        exact ⟨x1, hF.trans (fr_cl (by omega) (fD.trans x2)), x3⟩
      | inr q =>
        rw [e] at a2
        obtain ⟨x1, x2, x3, x4, x5, x6, x7, x8⟩ := a2
        have fE := fD.trans x3
        refine ⟨x1, by omega, hF.trans (fr_cl (by omega) fE), by rw [enM_app]; exact x4, by rw [x5, List.length_append]; rfl, mcl_app l 0 0 (mcl_fr fE l 0 0 (by omega) hC) ?_⟩
        rw [Nat.zero_add, Nat.zero_add]
        exact ⟨x6, x7, x8⟩
    · rw [if_neg (fun z => c2 (is2.mp z)), if_neg c2, lm_bad hM, Option.bind_some]
      have hb1 := LM_bad (q := skN tp n (skN tp n i + 1)) hM
      obtain ⟨t', r1, r2, r3⟩ := l71_bad (x := nI (140 * N + l.length)) (show skN tp n (skN tp n i + 1) < 1000 by omega) ⟨hF.trans (fr_smw hb1.1), hb1.2.1⟩
      exact ⟨t', r1, hk2.2, r2, r3⟩
  · rw [if_neg (fun z => c (is1.mp z)), if_neg c, lm_bad hM, Option.bind_some]
    have hb1 := LM_bad (q := skN tp n i) hM
    have hb2 : Fr (Klw N) s (bad4 t (skN tp n i)) ∧ (bad4 t (skN tp n i)).1 60 0 4 = nI (skN tp n i) := ⟨hF.trans (fr_smw hb1.1), hb1.2.1⟩
    have hb3 := pk3_bad (x := (bad4 t (skN tp n i)).1 60 0 3 + Int32.ofInt 1) hb2
    obtain ⟨t', r1, r2, r3⟩ := l71_bad (x := nI (140 * N + l.length)) (show skN tp n i < 1000 by omega) hb3
    refine ⟨t', ?_, hk.2, r2, r3⟩
    unfold f_M_clause_L40
    rw [Option.bind_some, hb3.2, of_m1, if_neg (m1_ne (by omega))]
    exact r1
/-- what the reference tells of a rule -/
def SLr (n : Nat) (s : S2) (N : Nat) (l : List CLA) (t' : S2) (r : Int32) : Nat ⊕ List CLA → Prop
  | Sum.inl q => q ≤ n ∧ r = nI q ∧ Fr (Klw N) s t'
  | Sum.inr l' => r = -1 ∧ ∃ k, LW s N (l ++ l') k t'
theorem lw_lawL (ht : TOK n tp) (hp : TPm n tp s) (hb : LB N s) : ∀ (m fu i : Nat) (l : List CLA) (t : S2), m ≤ fu → n < i + m → i ≤ n → (encM l).length ≤ i → 2 * l.length ≤ i → LW s N l i t → ∃ t' r, (f_M_clause t).bind (fun q => f_M_readLaw_L9 fu q) = some (t', r) ∧ SLr n s N l t' r (lawS tp n m i) := by
  have h240 := ht.1
  intro m
  induction m with
  | zero => intro fu i l t h1 h2 h3; omega
  | succ m ih =>
    intro fu i l t h1 h2 h3 h4 h5 h
    obtain ⟨g, rfl⟩ : ∃ g, fu = g + 1 := ⟨fu - 1, by omega⟩
    obtain ⟨t1, a1, a2⟩ := lw_clause ht hp hb h h3 h4 h5
    rw [a1, Option.bind_some]
    show ∃ t' r, b_M_readLaw_L9 _ _ = _ ∧ _
    unfold b_M_readLaw_L9 f_M_readLaw_L43 f_M_atEnd f_M_atEnd_L20
    cases e : clR tp n i with
    | inl q =>
      rw [e] at a2
      rw [la_bad e]
      obtain ⟨x1, x2, x3⟩ := a2
      rw [x3, of_m1, if_neg (m1_ne (by omega)), if_neg (m1_ne (by omega)), Option.bind_some]
      exact ⟨t1, nI q, rfl, x1, rfl, x2⟩
    | inr q =>
      rw [e] at a2
      rw [la_eq e]
      obtain ⟨x1, x2, x3⟩ := a2
      obtain ⟨y1, y2, y3, y4⟩ := x3
      have hkq := skN_le (tp := tp) x1
      have hpt := klw_tp y1 hp
      have hat := LM_at y2 (skN tp n q.1)
      have hl2 := lm_look ht hpt hat hkq.2
      rw [skN_2 x1, mA_mA] at hl2
      have is59 : (hmN tp n (skN tp n q.1) = nI 59) = (chN tp n (skN tp n q.1) = 59) := hm_is ht (by omega) (by omega)
      have hW : ∀ j, LW s N (l ++ [q.2]) j (mA t1 j) := fun j => by
        have hj := LM_at y2 j
        refine ⟨y1.trans (fr_smw hj.1), LM_self hj, (mA_o (by omega)).trans y3, mcl_fr (j' := (l ++ [q.2]).length) (fr_sm hj.1) _ 0 0 (by omega) y4⟩
      rw [y2.2.2.2.2.1, of_m1, if_pos rfl, lm_look ht hpt y2 x1, Option.bind_some, of_59]
      show ∃ t' r, (if hmN tp n (skN tp n q.1) = nI 59 then (some (pkS (mA t1 (skN tp n q.1)) 60 0 3 ((mA t1 (skN tp n q.1)).1 60 0 3 + Int32.ofInt 1))).bind _ else (if (mA t1 (skN tp n q.1)).1 60 0 4 = -1 then (f_M_look (mA t1 (skN tp n q.1))).bind _ else _).bind _) = _ ∧ _
      by_cases z : chN tp n (skN tp n q.1) = 0
      · rw [if_neg (fun w => by have := is59.mp w; omega), if_pos z, hat.2.2.2.2.1, if_pos rfl, hl2, Option.bind_some]
        refine ⟨mA t1 (skN tp n q.1), -1, ?_, rfl, _, hW _⟩
        show (if hmN tp n (skN tp n q.1) = -1 then some (mA t1 (skN tp n q.1), (mA t1 (skN tp n q.1)).1 60 0 4) else _).bind _ = _
        rw [if_pos ((hm_end ht).mpr z), Option.bind_some, hat.2.2.2.2.1]
      · rw [if_neg z]
        by_cases y : chN tp n (skN tp n q.1) = 59
        · have hlt := chN_p y (by omega)
          rw [if_pos (is59.mpr y), if_pos y, mA_at, of_1, nI_add, Option.bind_some, show pkS (mA t1 (skN tp n q.1)) 60 0 3 (nI (skN tp n q.1 + 1)) = mA t1 (skN tp n q.1 + 1) from mA_mA t1 _ _]
          obtain ⟨t', r, r1, r2⟩ := ih g (skN tp n q.1 + 1) (l ++ [q.2]) (mA t1 (skN tp n q.1 + 1)) (by omega) (by omega) (by omega) (by rw [enM_app, List.length_append]; omega) (by rw [List.length_append]; show 2 * (l.length + 1) ≤ _; omega) (hW _)
          refine ⟨t', r, r1, ?_⟩
          cases w : lawS tp n m (skN tp n q.1 + 1) with
          | inl v => rw [w] at r2; exact r2
          | inr v =>
            rw [w] at r2
            obtain ⟨v1, k, v2⟩ := r2
            rw [List.append_assoc] at v2
            exact ⟨v1, k, v2⟩
        · rw [if_neg (fun w => y (is59.mp w)), if_neg y, hat.2.2.2.2.1, if_pos rfl, hl2, Option.bind_some]
          have hbd := LM_bad (q := skN tp n q.1) y2
          refine ⟨bad4 t1 (skN tp n q.1), nI (skN tp n q.1), ?_, hkq.2, rfl, y1.trans (fr_smw hbd.1)⟩
          show (if hmN tp n (skN tp n q.1) = -1 then _ else (f_M_bad (mA t1 (skN tp n q.1))).bind fun q2 => some (q2, q2.1 60 0 4)).bind _ = _
          rw [if_neg (fun w => z ((hm_end ht).mp w)), lm_bad y2, Option.bind_some, Option.bind_some, hbd.2.1]
/-- the base a reading starts from -/
theorem fm_readLaw (ht : TOK n tp) (hp : TPm n tp s) (hN : N < 5) : ∃ t' r, f_M_readLaw (nI N) s = some (t', r) ∧ SLr n (pkS s 60 0 14 (nI N)) N [] t' r (lawS tp n 241 0) := by
  have h240 := ht.1
  have hb : LB N (pkS s 60 0 14 (nI N)) := ⟨hN, by rw [pkS_v, if_pos ⟨rfl, rfl, rfl⟩]⟩
  have hp' : TPm n tp (pkS s 60 0 14 (nI N)) := by
    unfold TPm at hp ⊢
    rw [pkS_v, if_neg (by omega), pkS_1, if_neg (by omega)]
    exact hp
  have h0 : LW (pkS s 60 0 14 (nI N)) N [] 0 (pkS (pkS (pkS (pkS (pkS (pkS s 60 0 14 (nI N)) 60 0 3 (nI 0)) 60 0 4 (-1)) 60 0 5 (nI 0)) 64 0 N (nI 0)) 65 0 N (nI 0)) := by
    refine ⟨((((Fr.pk rfl _ _).pk' _ rfl).pk' _ rfl).pk' _ ?_).pk' _ ?_, ⟨Fr.refl _ _, ?_, fun k hk => absurd hk (Nat.not_lt_zero _), ?_, ?_, ?_⟩, ?_, trivial⟩
    · unfold Klw; rw [ksm_4]; rfl
    · unfold Klw; simp
    · rw [pkS_v, if_neg (by omega), pkS_v, if_pos ⟨rfl, rfl, rfl⟩]; rfl
    · simp [pkS_v]
    · simp [pkS_v]
    · simp [pkS_v]
    · rw [pkS_v, if_pos ⟨rfl, rfl, rfl⟩]; rfl
  obtain ⟨t', r, a1, a2⟩ := lw_lawL ht hp' hb 241 FU 0 [] _ (by show 241 ≤ 100000; omega) (by omega) (by omega) (Nat.le_refl _) (Nat.le_refl _) h0
  refine ⟨t', r, ?_, a2⟩
  unfold f_M_readLaw f_M_open
  rw [Option.bind_some, Option.bind_some, Option.bind_some, Option.bind_some, ix_nI (n := 5) (k := N) hN (by omega), Option.bind_some, Option.bind_some, Option.bind_some, Option.bind_some, Option.bind_some, show Int32.ofInt 0 = nI 0 from of_0, of_m1]
  exact a1
/-- what a rule's reading writes, both sides -/
def Kla (N c i k : Nat) : Bool := Klc c i k || (Klw N c i k || (c == 60 && k == 14))
theorem Kla_c {c i k : Nat} (h : Kla N c i k = false) : Klc c i k = false ∧ Klw N c i k = false ∧ (c == 60 && k == 14) = false := by
  unfold Kla at h
  simp only [Bool.or_eq_false_iff] at h
  exact ⟨h.1, h.2.1, h.2.2⟩
theorem klw_row {c k m : Nat} (hm : m < N) (h : (c = 62 ∨ c = 63) ∧ k < 520 * m + 520 ∨ (c = 66 ∨ c = 67 ∨ c = 68) ∧ k < 140 * m + 140 ∨ c = 65 ∧ k = m) : Kla N c 0 k = false := by
  rcases h with ⟨hc, h⟩ | ⟨hc, h⟩ | ⟨hc, h⟩
  · have e : Nat.ble (520 * N) k = false := by
      cases z : Nat.ble (520 * N) k with
      | false => rfl
      | true => have := Nat.le_of_ble_eq_true z; omega
    unfold Kla Klc Klw Ksm
    rw [e]
    rcases hc with rfl | rfl <;> rfl
  · have e : Nat.ble (140 * N) k = false := by
      cases z : Nat.ble (140 * N) k with
      | false => rfl
      | true => have := Nat.le_of_ble_eq_true z; omega
    unfold Kla Klc Klw Ksm
    rw [e]
    rcases hc with rfl | rfl | rfl <;> rfl
  · subst hc
    have e : (k == N) = false := beq_eq_false_iff_ne.mpr (by omega)
    unfold Kla Klc Klw Ksm
    rw [e]
    rfl
theorem kla_rule {m : Nat} (hF : Fr (Kla N) s s') (hm : m < N) : mruleN m s s' := by
  refine ⟨fun k h1 h2 => ⟨hF.1 62 0 k (klw_row hm (Or.inl ⟨by omega, by omega⟩)), hF.1 63 0 k (klw_row hm (Or.inl ⟨by omega, by omega⟩))⟩, hF.1 65 0 m (klw_row hm (Or.inr (Or.inr ⟨rfl, rfl⟩))), fun k h1 h2 => ⟨hF.1 66 0 k (klw_row hm (Or.inr (Or.inl ⟨by omega, by omega⟩))), hF.1 67 0 k (klw_row hm (Or.inr (Or.inl ⟨by omega, by omega⟩))), hF.1 68 0 k (klw_row hm (Or.inr (Or.inl ⟨by omega, by omega⟩)))⟩⟩
theorem INV_la (h : INV I T B R W s) (hF : Fr (Kla N) s s') (hN : R ≤ N) : INV I T B R W s' := by
  obtain ⟨h1, h2, h3, h4, h5, h6, h7, h8⟩ := h
  have h4R := h4.1
  have e17 : ∀ m, m < R → s'.1 17 m = s.1 17 m := fun m hm => hF.arr fun k => by
    unfold Kla Klc
    rw [show (m == 4) = false from beq_eq_false_iff_ne.mpr (by omega)]
    rfl
  have e18 : ∀ m, m < R → s'.1 18 m = s.1 18 m := fun m hm => hF.arr fun k => by
    unfold Kla Klc
    rw [show (m == 4) = false from beq_eq_false_iff_ne.mpr (by omega)]
    rfl
  have em : ∀ m, m < R → mruleN m s s' := fun m hm => kla_rule hF (by omega)
  refine ⟨?_, ?_, ?_, ?_, ?_, ?_, ?_, ?_⟩
  · exact iSea_fr h1 hF (fun _ => ⟨rfl, rfl, rfl, rfl, rfl, rfl, rfl, rfl, rfl, rfl, rfl, rfl⟩) ⟨rfl, rfl, rfl, rfl, rfl, rfl, rfl⟩
  · exact HLD_fr h2 (hF.1 _ _ _ rfl) (hF.1 _ _ _ rfl) e17 e18 em
  · exact iTape_fk h3 hF (fun _ => ⟨rfl, rfl⟩) ⟨rfl, rfl⟩
  · exact iRule_fr h4 (hF.1 _ _ _ rfl) (hF.1 _ _ _ rfl) (hF.1 _ _ _ rfl) (hF.1 _ _ _ rfl) e17 e18 em
  · exact iPast_fk h5 hF (fun _ => ⟨rfl, rfl, rfl, rfl⟩) (fun _ _ => rfl) ⟨rfl, rfl⟩
  · exact iWea_fk h6 hF ⟨rfl, rfl, rfl, rfl⟩
  · exact iImg_fk h7 hF (fun _ => ⟨rfl, rfl⟩) ⟨rfl, rfl⟩
  · exact iCha_fk h8 hF (fun _ => ⟨rfl, rfl, rfl, rfl, rfl, rfl, rfl, rfl⟩) ⟨rfl, rfl⟩
theorem fr_lcA (h : Fr Klc s s') : Fr (Kla N) s s' := h.mono fun _ _ _ hk => (Kla_c hk).1
theorem fr_lwA (h : Fr (Klw N) (pkS s 60 0 14 (nI N)) s') : Fr (Kla N) s s' := (Fr.pk (K := Kla N) rfl s (nI N)).trans (h.mono fun _ _ _ hk => (Kla_c hk).2.1)
theorem tpm_lc (h : Fr Klc s s') (hp : TPm n tp s) : TPm n tp s' := by
  unfold TPm at hp ⊢
  rw [h.1 60 0 2 rfl, h.arr (c := 61) (i := 0) fun _ => rfl]
  exact hp
/-- the fault in a rule's text -/
theorem q_fault1 (h : INV I T B R W s) : ∃ s1 r s2, f_D_fault (nI 1) s = some (s1, r) ∧ f_M_fault (nI 1) s1 = some (s2, r) ∧ INV I T B R W s2 := by
  obtain ⟨n, tp, ht, hpc, hpm⟩ := tape_of h.2.2.1
  have h240 := ht.1
  have hR := h.2.2.2.1.1
  obtain ⟨t1, b, a1, a2⟩ := fc_ruleRead ht hpc
  have hk : Fr Klc s t1 := by
    cases e : lawS tp n 241 0 with
    | inl q => rw [e] at a2; obtain ⟨_, _, L', g⟩ := a2; exact g.1
    | inr q => rw [e] at a2; obtain ⟨_, ⟨j, g⟩, _⟩ := a2; exact g.1
  obtain ⟨t2, r, b1, b2⟩ := fm_readLaw (N := 4) ht (tpm_lc hk hpm) (by omega)
  have hm : Fr (Klw 4) (pkS t1 60 0 14 (nI 4)) t2 := by
    cases e : lawS tp n 241 0 with
    | inl q => rw [e] at b2; exact b2.2.2
    | inr q => rw [e] at b2; obtain ⟨_, k, g⟩ := b2; exact g.1
  refine ⟨t1, r, t2, ?_, ?_, INV_la h ((fr_lcA hk).trans (fr_lwA hm)) (by omega)⟩
  · unfold f_D_fault
    rw [if_neg (show ¬ nI 1 = 0 by decide), of_1, if_pos rfl, a1, Option.bind_some]
    cases e : lawS tp n 241 0 with
    | inl q =>
      rw [e] at a2 b2
      obtain ⟨rfl, _, L', g⟩ := a2
      show (if bI false = 0 then some (t1, g_Tape_place t1) else _) = _
      rw [ifF, b2.2.1]
      unfold g_Tape_place
      rw [g.2.2.2]
    | inr q =>
      rw [e] at a2 b2
      obtain ⟨rfl, _, _⟩ := a2
      show (if bI true = 0 then _ else some (t1, Int32.ofInt (-1))) = _
      rw [ifT, b2.1, of_m1]
  · unfold f_M_fault
    rw [if_neg (show ¬ nI 1 = 0 by decide), of_1, if_pos rfl, of_4, b1, Option.bind_some]
/-- the fault in a text -/
theorem q_fault (x : Int32) (h : INV I T B R W s) : ∃ s1 r s2, f_D_fault x s = some (s1, r) ∧ f_M_fault x s1 = some (s2, r) ∧ INV I T B R W s2 := by
  by_cases c0 : x = 0
  · subst c0; exact q_fault0 h
  · by_cases c1 : x = nI 1
    · subst c1; exact q_fault1 h
    · refine ⟨s, -2, s, ?_, ?_, h⟩
      · unfold f_D_fault
        rw [if_neg c0, of_1, if_neg c1]
        rfl
      · unfold f_M_fault
        rw [if_neg c0, of_1, if_neg c1]
        rfl
end
