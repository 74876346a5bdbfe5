/-! ===== a rule's text: the reference's clauses and the whole ===== -/
section
variable {s s0 t : S2} {tp : Nat → Nat} {n N : Nat}
def mlC (c : CLA) : List Nat := (c.1.getD []) ++ c.2
def encM : List CLA → List Nat
  | [] => []
  | c :: l => mlC c ++ encM l
def MCl (N : Nat) : Nat → Nat → List CLA → S2 → Prop
  | _, _, [], _ => True
  | p, j, c :: l, t => (t.1 66 0 (140 * N + j) = nI p ∧ t.1 67 0 (140 * N + j) = nI (p + (c.1.getD []).length) ∧ t.1 68 0 (140 * N + j) = nI (p + (mlC c).length)) ∧ MCl N (p + (mlC c).length) (j + 1) l t
def Kcl (N j c i k : Nat) : Bool := Ksm N c i k || (((c == 66 || (c == 67 || c == 68)) && k == 140 * N + j) || (c == 65 && k == N))
theorem kcl_sm {j c i k : Nat} (h : Kcl N j c i k = false) : Ksm N c i k = false := by
  unfold Kcl at h
  exact (Bool.or_eq_false_iff.mp h).1
theorem fr_sm {j : Nat} (h : Fr (Ksm N) s t) : Fr (Kcl N j) s t := h.mono fun _ _ _ hk => kcl_sm hk
theorem kcl_c {j c : Nat} (hc : c = 66 ∨ c = 67 ∨ c = 68) : Kcl N j c 0 (140 * N + j) = true := by
  unfold Kcl
  rcases hc with rfl | rfl | rfl <;> simp
theorem kc65 {j : Nat} : Kcl N j 65 0 N = true := by unfold Kcl; simp
theorem LM_self {L : List Nat} {d i : Nat} (h : LM s N d L i t) : LM t N d L i t := ⟨Fr.refl _ _, h.2⟩
theorem LM_pk {L : List Nat} {d i c k : Nat} {x : Int32} (h : LM t N d L i t) (hc : c = 65 ∨ c = 66 ∨ c = 67 ∨ c = 68) : LM (pkS t c 0 k x) N d L i (pkS t c 0 k x) := by
  obtain ⟨-, h2, h3, h4, h5, h6⟩ := h
  exact ⟨Fr.refl _ _, by rw [pkS_v, if_neg (by omega)]; exact h2, fun k hk => ⟨by rw [pkS_v, if_neg (by omega)]; exact (h3 k hk).1, by rw [pkS_v, if_neg (by omega)]; exact (h3 k hk).2⟩, by rw [pkS_v, if_neg (by omega)]; exact h4, by rw [pkS_v, if_neg (by omega)]; exact h5, by rw [pkS_v, if_neg (by omega)]; exact h6⟩
theorem tpm_pk {c k : Nat} {x : Int32} (hp : TPm n tp t) (hc : c = 65 ∨ c = 66 ∨ c = 67 ∨ c = 68) : TPm n tp (pkS t c 0 k x) := by
  unfold TPm at hp ⊢
  rw [pkS_v, if_neg (by omega), pkS_1, if_neg (by omega)]
  exact hp
def CMr (n : Nat) (s : S2) (N : Nat) (L : List Nat) (j i : Nat) (t' : S2) : Nat ⊕ (Nat × CLA) → Prop
  | Sum.inl q => q ≤ n ∧ Fr (Kcl N j) s t' ∧ t'.1 60 0 4 = nI q
  | Sum.inr q => q.1 ≤ n ∧ i + (mlC q.2).length ≤ q.1 ∧ Fr (Kcl N j) s t' ∧ LM t' N 0 (L ++ mlC q.2) q.1 t' ∧ t'.1 65 0 N = nI (j + 1) ∧ t'.1 66 0 (140 * N + j) = nI L.length ∧ t'.1 67 0 (140 * N + j) = nI (L.length + (q.2.1.getD []).length) ∧ t'.1 68 0 (140 * N + j) = nI (L.length + (mlC q.2).length)
theorem cmr_tr {L : List Nat} {j i : Nat} {t' : S2} {r : Nat ⊕ (Nat × CLA)} (hF : Fr (Kcl N j) s t) (h : CMr n t N L j i t' r) : CMr n s N L j i t' r := by
  cases r with
  | inl q => exact ⟨h.1, hF.trans h.2.1, h.2.2⟩
  | inr q =>
    obtain ⟨h1, h2, h3, h4⟩ := h
    exact ⟨h1, h2, hF.trans h3, h4⟩
theorem l251 {j : Nat} (hN : N < 5) (hj : j < 140) (h14 : t.1 60 0 14 = nI N) (h65 : t.1 65 0 N = nI j) : f_M_clause_L251 (nI (140 * N + j)) t = some (pkS (pkS t 68 0 (140 * N + j) (t.1 64 0 N)) 65 0 N (nI (j + 1))) := by
  unfold f_M_clause_L251
  rw [h14, ix_nI (n := 5) (k := N) hN (by omega), Option.bind_some, ix_nI (n := 700) (k := 140 * N + j) (by omega) (by omega), Option.bind_some, Option.bind_some]
  rw [pkS_v, if_neg (by omega), h14, ix_nI (n := 5) (k := N) hN (by omega), Option.bind_some, Option.bind_some, Option.bind_some, pkS_v, if_neg (by omega), h65, of_1, nI_add]
/-- the end of a clause that is wrong -/
theorem l184B {j q : Nat} {y : Int32} (hN : N < 5) (hj : j < 140) (hq : q < 1000) (h14 : t.1 60 0 14 = nI N) (h65 : t.1 65 0 N = nI j) (h4 : t.1 60 0 4 = nI q) : ∃ t', f_M_clause_L184 (nI (140 * N + j)) y t = some t' ∧ Fr (Kcl N j) t t' ∧ t'.1 60 0 4 = nI q := by
  have e14 : (pkS t 67 0 (140 * N + j) (t.1 66 0 (140 * N + j))).1 60 0 14 = nI N := by rw [pkS_v, if_neg (by omega)]; exact h14
  have e4 : (pkS t 67 0 (140 * N + j) (t.1 66 0 (140 * N + j))).1 60 0 4 = nI q := by rw [pkS_v, if_neg (by omega)]; exact h4
  have e65 : (pkS t 67 0 (140 * N + j) (t.1 66 0 (140 * N + j))).1 65 0 N = nI j := by rw [pkS_v, if_neg (by omega)]; exact h65
  have hl := l251 hN hj e14 e65
  refine ⟨pkS (pkS (pkS t 67 0 (140 * N + j) (t.1 66 0 (140 * N + j))) 68 0 (140 * N + j) ((pkS t 67 0 (140 * N + j) (t.1 66 0 (140 * N + j))).1 64 0 N)) 65 0 N (nI (j + 1)), ?_, ((Fr.pk (kcl_c (by omega)) t _).pk' _ (kcl_c (by omega))).pk' _ kc65, by rw [pkS_v, if_neg (by omega), pkS_v, if_neg (by omega)]; exact e4⟩
  unfold f_M_clause_L184
  rw [ix_nI (n := 700) (k := 140 * N + j) (by omega) (by omega), Option.bind_some, Option.bind_some, Option.bind_some, e4, of_m1, if_neg (m1_ne hq), hl]
  by_cases c : y = 0
  · rw [if_pos c]
  · rw [if_neg c]
/-- the end of a clause without a test -/
theorem l184N {L S : List Nat} {j k i : Nat} (hN : N < 5) (hj : j < 140) (h14 : t.1 60 0 14 = nI N) (h65 : t.1 65 0 N = nI j) (h66 : t.1 66 0 (140 * N + j) = nI L.length) (hk : k ≤ n) (hik : i + S.length ≤ k) (h : LM t N 0 (L ++ S) k t) : ∃ t', f_M_clause_L184 (nI (140 * N + j)) (nI 0) t = some t' ∧ CMr n t N L j i t' (Sum.inr (k, none, S)) := by
  have e14 : (pkS t 67 0 (140 * N + j) (t.1 66 0 (140 * N + j))).1 60 0 14 = nI N := by rw [pkS_v, if_neg (by omega)]; exact h14
  have e65 : (pkS t 67 0 (140 * N + j) (t.1 66 0 (140 * N + j))).1 65 0 N = nI j := by rw [pkS_v, if_neg (by omega)]; exact h65
  have hl := l251 hN hj e14 e65
  have e64 : (pkS t 67 0 (140 * N + j) (t.1 66 0 (140 * N + j))).1 64 0 N = nI (L ++ S).length := by rw [pkS_v, if_neg (by omega)]; exact h.2.1
  rw [e64] at hl
  refine ⟨pkS (pkS (pkS t 67 0 (140 * N + j) (t.1 66 0 (140 * N + j))) 68 0 (140 * N + j) (nI (L ++ S).length)) 65 0 N (nI (j + 1)), ?_, hk, hik, ((Fr.pk (kcl_c (by omega)) t _).pk' _ (kcl_c (by omega))).pk' _ kc65, LM_pk (LM_pk (LM_pk h (by omega)) (by omega)) (by omega), ?_, ?_, ?_, ?_⟩
  · unfold f_M_clause_L184
    rw [ix_nI (n := 700) (k := 140 * N + j) (by omega) (by omega), Option.bind_some, Option.bind_some, Option.bind_some, if_pos nI_0, hl]
  · rw [pkS_v, if_pos ⟨rfl, rfl, rfl⟩]
  · rw [pkS_v, if_neg (by omega), pkS_v, if_neg (by omega), pkS_v, if_neg (by omega)]; exact h66
  · rw [pkS_v, if_neg (by omega), pkS_v, if_neg (by omega), pkS_v, if_pos ⟨rfl, rfl, rfl⟩, h66]; rfl
  · rw [pkS_v, if_neg (by omega), pkS_v, if_pos ⟨rfl, rfl, rfl⟩, List.length_append]; rfl
/-- the end of a clause with a test -/
theorem l184T {L T : List Nat} {j k i : Nat} (ht : TOK n tp) (hp : TPm n tp t) (hN : N < 5) (hj : j < 140) (h14 : t.1 60 0 14 = nI N) (h65 : t.1 65 0 N = nI j) (h66 : t.1 66 0 (140 * N + j) = nI L.length) (hk : k ≤ n) (hik : i + T.length ≤ k) (hLk : (L ++ T).length ≤ k) (h : LM t N 0 (L ++ T) k t) : ∃ t', f_M_clause_L184 (nI (140 * N + j)) (nI 1) t = some t' ∧ CMr n t N L j i t' (tlS tp n (Sum.inr (k, T))) := by
  have h240 := ht.1
  have hkk := skN_le (tp := tp) hk
  have hA := LM_pk (c := 67) (k := 140 * N + j) (x := t.1 66 0 (140 * N + j)) h (by omega)
  have hpA := tpm_pk (c := 67) (k := 140 * N + j) (x := t.1 66 0 (140 * N + j)) hp (by omega)
  have fA : Fr (Kcl N j) t (pkS t 67 0 (140 * N + j) (t.1 66 0 (140 * N + j))) := Fr.pk (kcl_c (by omega)) t _
  have eA14 : (pkS t 67 0 (140 * N + j) (t.1 66 0 (140 * N + j))).1 60 0 14 = nI N := by rw [pkS_v, if_neg (by omega)]; exact h14
  have eA65 : (pkS t 67 0 (140 * N + j) (t.1 66 0 (140 * N + j))).1 65 0 N = nI j := by rw [pkS_v, if_neg (by omega)]; exact h65
  have eA66 : (pkS t 67 0 (140 * N + j) (t.1 66 0 (140 * N + j))).1 66 0 (140 * N + j) = nI L.length := by rw [pkS_v, if_neg (by omega)]; exact h66
  unfold f_M_clause_L184
  rw [ix_nI (n := 700) (k := 140 * N + j) (by omega) (by omega), Option.bind_some, Option.bind_some, Option.bind_some, if_neg (show ¬ nI 1 = 0 by decide)]
  generalize pkS t 67 0 (140 * N + j) (t.1 66 0 (140 * N + j)) = A at hA hpA fA eA14 eA65 eA66 ⊢
  have is63 : (hmN tp n (skN tp n k) = nI 63) = (chN tp n (skN tp n k) = 63) := hm_is ht (by omega) (by omega)
  rw [hA.2.2.2.2.1, of_m1, if_pos rfl, lm_look ht hpA hA hk, Option.bind_some, of_63]
  show ∃ t', (if hmN tp n (skN tp n k) = nI 63 then (some (pkS (mA A (skN tp n k)) 60 0 3 ((mA A (skN tp n k)).1 60 0 3 + Int32.ofInt 1))).bind _ else (f_M_bad (mA A (skN tp n k))).bind _) = _ ∧ CMr n t N L j i t' (if chN tp n (skN tp n k) = 63 then (match sumS tp n 9 0 (skN tp n k + 1) with
    | Sum.inl y => Sum.inl y
    | Sum.inr y => Sum.inr (y.1, some T, y.2)) else Sum.inl (skN tp n k))
  by_cases c : chN tp n (skN tp n k) = 63
  · have hlt := chN_p c (by omega)
    have hB := LM_self (LM_at hA (skN tp n k + 1))
    have eB14 : (mA A (skN tp n k + 1)).1 60 0 14 = nI N := (mA_o (by omega)).trans eA14
    have eB65 : (mA A (skN tp n k + 1)).1 65 0 N = nI j := (mA_o (by omega)).trans eA65
    have eB66 : (mA A (skN tp n k + 1)).1 66 0 (140 * N + j) = nI L.length := (mA_o (by omega)).trans eA66
    have hpB : TPm n tp (mA A (skN tp n k + 1)) := by
      unfold TPm at hpA ⊢
      rw [mA_o (by omega)]
      exact ⟨hpA.1, fun k hk => (mA_o (by omega)).trans (hpA.2 k hk)⟩
    have fB : Fr (Kcl N j) t (mA A (skN tp n k + 1)) := fA.trans (fr_sm (Fr.pk rfl A _))
    rw [if_pos (is63.mpr c), if_pos c, mA_at, of_1, nI_add, Option.bind_some, show pkS (mA A (skN tp n k)) 60 0 3 (nI (skN tp n k + 1)) = mA A (skN tp n k + 1) from mA_mA A _ _, eB14, ix_nI (n := 5) (k := N) hN (by omega), Option.bind_some, Option.bind_some, hB.2.1]
    have hC := LM_pk (c := 67) (k := 140 * N + j) (x := nI (L ++ T).length) hB (by omega)
    have hpC := tpm_pk (c := 67) (k := 140 * N + j) (x := nI (L ++ T).length) hpB (by omega)
    have fC : Fr (Kcl N j) t (pkS (mA A (skN tp n k + 1)) 67 0 (140 * N + j) (nI (L ++ T).length)) := fB.pk' _ (kcl_c (by omega))
    have eC14 : (pkS (mA A (skN tp n k + 1)) 67 0 (140 * N + j) (nI (L ++ T).length)).1 60 0 14 = nI N := by rw [pkS_v, if_neg (by omega)]; exact eB14
    have eC65 : (pkS (mA A (skN tp n k + 1)) 67 0 (140 * N + j) (nI (L ++ T).length)).1 65 0 N = nI j := by rw [pkS_v, if_neg (by omega)]; exact eB65
    have eC66 : (pkS (mA A (skN tp n k + 1)) 67 0 (140 * N + j) (nI (L ++ T).length)).1 66 0 (140 * N + j) = nI L.length := by rw [pkS_v, if_neg (by omega)]; exact eB66
    have eC67 : (pkS (mA A (skN tp n k + 1)) 67 0 (140 * N + j) (nI (L ++ T).length)).1 67 0 (140 * N + j) = nI (L ++ T).length := by rw [pkS_v, if_pos ⟨rfl, rfl, rfl⟩]
    rw [Option.bind_some]
    generalize pkS (mA A (skN tp n k + 1)) 67 0 (140 * N + j) (nI (L ++ T).length) = C at hC hpC fC eC14 eC65 eC66 eC67 ⊢
    obtain ⟨t3, a1, a2⟩ := pmm_sumS ht hpC ⟨hN, eC14⟩ 9 0 (by omega) (by omega) C (L ++ T) (skN tp n k + 1) hC (by omega) (by omega)
    rw [a1, Option.bind_some]
    have hst : Fr (Ksm N) C t3 := by
      cases e : sumS tp n 9 0 (skN tp n k + 1) with
      | inl q => rw [e] at a2; obtain ⟨_, x, _, x3⟩ := a2; exact x3.1
      | inr q => rw [e] at a2; exact a2.1.1
    have e65 : t3.1 65 0 N = nI j := (hst.1 65 0 N rfl).trans eC65
    have hl := l251 hN hj (ksm_14 hst ⟨hN, eC14⟩) e65
    have fD : Fr (Kcl N j) t (pkS (pkS t3 68 0 (140 * N + j) (t3.1 64 0 N)) 65 0 N (nI (j + 1))) := ((fC.trans (fr_sm hst)).pk' _ (kcl_c (by omega))).pk' _ kc65
    refine ⟨_, hl, ?_⟩
    cases e : sumS tp n 9 0 (skN tp n k + 1) with
    | inl q =>
      rw [e] at a2
      obtain ⟨x1, x, x2, x3⟩ := a2
      exact ⟨x1, fD, by rw [pkS_v, if_neg (by omega), pkS_v, if_neg (by omega)]; exact x3.2.1⟩
    | inr q =>
      rw [e] at a2
      obtain ⟨x2, x3, x4, x5⟩ := a2
      have x2' : LM C N 0 (L ++ (T ++ q.2)) q.1 t3 := by rw [← List.append_assoc]; exact x2
      refine ⟨x5, by show i + (T ++ q.2).length ≤ q.1; rw [List.length_append]; omega, fD, LM_pk (LM_pk (LM_self x2') (by omega)) (by omega), ?_, ?_, ?_, ?_⟩
      · rw [pkS_v, if_pos ⟨rfl, rfl, rfl⟩]
      · rw [pkS_v, if_neg (by omega), pkS_v, if_neg (by omega)]; exact (hst.1 66 0 _ rfl).trans eC66
      · rw [pkS_v, if_neg (by omega), pkS_v, if_neg (by omega), hst.1 67 0 _ rfl, eC67, List.length_append]; rfl
      · rw [pkS_v, if_neg (by omega), pkS_v, if_pos ⟨rfl, rfl, rfl⟩, x2'.2.1, List.length_append]; rfl
  · rw [if_neg (fun z => c (is63.mp z)), if_neg c, lm_bad hA, Option.bind_some]
    exact ⟨_, rfl, hkk.2, fA.trans (fr_sm (LM_bad hA).1), (LM_bad (q := skN tp n k) hA).2.1⟩
/-- a test and what follows it -/
theorem lm_test {L q0 : List Nat} {j i i0 : Nat} {f : S2 → Option S2} {sp : Nat → RES} (ht : TOK n tp) (hp : TPm n tp s) (hb : LB N s) (hj : j < 140) (h65 : s.1 65 0 N = nI j) (h66 : s.1 66 0 (140 * N + j) = nI L.length) (hf : PMm n s N 0 f sp) (hi : i ≤ n) (hL : (L ++ q0).length ≤ i) (hi0 : i0 + q0.length ≤ i) (h : LM s N 0 (L ++ q0) i t) : ∃ t', (f t).bind (fun q3 => f_M_clause_L184 (nI (140 * N + j)) (nI 1) q3) = some t' ∧ CMr n s N L j i0 t' (tlS tp n (pre1 q0 (sp i))) := by
  have h240 := ht.1
  obtain ⟨t1, a1, a2⟩ := hf t (L ++ q0) i h hi hL
  rw [a1, Option.bind_some]
  cases e : sp i with
  | inl q =>
    rw [e] at a2
    obtain ⟨x1, x, x2, x3⟩ := a2
    obtain ⟨t', r1, r2, r3⟩ := l184B (y := nI 1) hb.1 hj (show q < 1000 by omega) (ksm_14 x3.1 hb) ((x3.1.1 65 0 N rfl).trans h65) x3.2.1
    exact ⟨t', r1, x1, (fr_sm x3.1).trans r2, r3⟩
  | inr q =>
    rw [e] at a2
    obtain ⟨x2, x3, x4, x5⟩ := a2
    have x2' : LM s N 0 (L ++ (q0 ++ q.2)) q.1 t1 := by rw [← List.append_assoc]; exact x2
    obtain ⟨t', r1, r2⟩ := l184T (i := i0) ht (ksm_tp x2.1 hp) hb.1 hj (ksm_14 x2.1 hb) ((x2.1.1 65 0 N rfl).trans h65) ((x2.1.1 66 0 _ rfl).trans h66) x5 (by rw [List.length_append]; omega) (by rw [List.length_append] at hL ⊢; rw [List.length_append]; omega) (LM_self x2')
    exact ⟨t', r1, cmr_tr (fr_sm x2.1) r2⟩
theorem pre1_nil {r : RES} : pre1 [] r = r := by cases r <;> rfl
/-- a clause behind its beginning -/
theorem lm_body {L : List Nat} {j i : Nat} (ht : TOK n tp) (hp : TPm n tp s) (hb : LB N s) (hj : j < 140) (h65 : s.1 65 0 N = nI j) (hi : i ≤ n) (hL : L.length ≤ i) (h : LM s N 0 L i s) (h66 : s.1 66 0 (140 * N + j) = nI L.length) : ∃ t', ((f_M_look s).bind fun q5 => (if q5.2 = (Int32.ofInt 33) then (f_M_clause_L123 (nI (140 * N + j)) q5.1) else ((f_M_look q5.1).bind fun q6 => (if q6.2 = (Int32.ofInt 40) then (f_M_clause_L123 (nI (140 * N + j)) q6.1) else (f_M_clause_L128 (nI (140 * N + j)) (Int32.ofInt 0) q6.1))))) = some t' ∧ CMr n s N L j i t' (bdS tp n i) := by
  have h240 := ht.1
  have hk := skN_le (tp := tp) hi
  have hat := LM_at h (skN tp n i)
  have hu : PMm n s N 0 (f_M_unit 9) (unS tp n 9 0) := pmm_unS ht hp hb 9 0 (by omega) (by omega)
  have is33 : (hmN tp n (skN tp n i) = nI 33) = (chN tp n (skN tp n i) = 33) := hm_is ht (by omega) (by omega)
  have is40 : (hmN tp n (skN tp n i) = nI 40) = (chN tp n (skN tp n i) = 40) := hm_is ht (by omega) (by omega)
  have hl2 := lm_look ht hp hat hk.2
  rw [skN_2 hi, mA_mA] at hl2
  rw [lm_look ht hp h hi, Option.bind_some]
  show ∃ t', (if hmN tp n (skN tp n i) = Int32.ofInt 33 then f_M_clause_L123 (nI (140 * N + j)) (mA s (skN tp n i)) else (f_M_look (mA s (skN tp n i))).bind _) = _ ∧ _
  rw [hl2, Option.bind_some]
  show ∃ t', (if hmN tp n (skN tp n i) = Int32.ofInt 33 then f_M_clause_L123 (nI (140 * N + j)) (mA s (skN tp n i)) else (if hmN tp n (skN tp n i) = Int32.ofInt 40 then f_M_clause_L123 (nI (140 * N + j)) (mA s (skN tp n i)) else f_M_clause_L128 (nI (140 * N + j)) (Int32.ofInt 0) (mA s (skN tp n i)))) = _ ∧ _
  rw [of_33, of_40]
  unfold bdS
  by_cases c : chN tp n (skN tp n i) = 33 ∨ chN tp n (skN tp n i) = 40
  · have e0 : ∀ (A B : Option S2), (if hmN tp n (skN tp n i) = nI 33 then A else (if hmN tp n (skN tp n i) = nI 40 then A else B)) = A := fun A B => by
      by_cases c' : chN tp n (skN tp n i) = 33
      · rw [if_pos (is33.mpr c')]
      · rw [if_neg (fun z => c' (is33.mp z)), if_pos (is40.mpr (by omega))]
    rw [e0, if_pos c]
    unfold f_M_clause_L123 f_M_clause_L128
    rw [if_neg (show ¬ Int32.ofInt 1 = 0 by decide), of_1]
    obtain ⟨t', a1, a2⟩ := lm_test (L := L) (q0 := []) (i0 := i) ht hp hb hj h65 h66 (pmm_cdS ht hp hb hu) hk.2 (by rw [List.append_nil]; omega) (by show i + 0 ≤ _; omega) (by rw [List.append_nil]; exact hat)
    rw [pre1_nil] at a2
    exact ⟨t', a1, a2⟩
  · rw [if_neg (fun z => c (Or.inl (is33.mp z))), if_neg (fun z => c (Or.inr (is40.mp z))), if_neg c]
    unfold f_M_clause_L128
    rw [if_pos (show Int32.ofInt 0 = 0 from of_0)]
    obtain ⟨t1, a1, a2⟩ := pmm_sumS ht hp hb 9 0 (by omega) (by omega) _ L (skN tp n i) hat hk.2 (by omega)
    rw [a1, Option.bind_some]
    unfold f_M_clause_L166
    cases e : sumS tp n 9 0 (skN tp n i) with
    | inl q =>
      rw [e] at a2
      obtain ⟨x1, x, x2, x3⟩ := a2
      obtain ⟨t', r1, r2, r3⟩ := l184B (y := Int32.ofInt 0) hb.1 hj (show q < 1000 by omega) (ksm_14 x3.1 hb) ((x3.1.1 65 0 N rfl).trans h65) x3.2.1
      rw [x3.2.1, of_m1, if_neg (m1_ne (by omega))]
      unfold f_M_clause_L167
      rw [if_pos (show Int32.ofInt 0 = 0 from of_0)]
      exact ⟨t', r1, x1, (fr_sm x3.1).trans r2, r3⟩
    | inr q =>
      rw [e] at a2
      obtain ⟨x2, x3, x4, x5⟩ := a2
      have hkq := skN_le (tp := tp) x5
      rw [x2.2.2.2.2.1, of_m1, if_pos rfl, lm_look ht hp x2 x5, Option.bind_some]
      show ∃ t', (if bI (g_M_isSign (hmN tp n (skN tp n q.1)) (mA t1 (skN tp n q.1))) = 0 then f_M_clause_L167 (nI (140 * N + j)) (Int32.ofInt 0) (mA t1 (skN tp n q.1)) else f_M_clause_L167 (nI (140 * N + j)) (Int32.ofInt 1) (mA t1 (skN tp n q.1))) = _ ∧ CMr n s N L j i t' (if isC (chN tp n (skN tp n q.1)) then tlS tp n (pre1 q.2 (cd1 tp n (unS tp n 9) 0 (skN tp n q.1))) else Sum.inr (skN tp n q.1, none, q.2))
      rw [gm_isC ht]
      have hB := LM_at x2 (skN tp n q.1)
      unfold f_M_clause_L167
      cases y : isC (chN tp n (skN tp n q.1)) with
      | false =>
        rw [ifF, if_neg (show ¬ (false = true) by decide), if_pos (show Int32.ofInt 0 = 0 from of_0), show Int32.ofInt 0 = nI 0 from of_0]
        obtain ⟨t', r1, r2⟩ := l184N (n := n) (i := i) hb.1 hj (ksm_14 hB.1 hb) ((hB.1.1 65 0 N rfl).trans h65) ((hB.1.1 66 0 _ rfl).trans h66) hkq.2 (by omega) (LM_self hB)
        exact ⟨t', r1, cmr_tr (fr_sm hB.1) r2⟩
      | true =>
        rw [ifT, if_pos rfl, if_neg (show ¬ Int32.ofInt 1 = 0 by decide), of_1]
        have hcd : PMm n s N 0 (fun t => ((f_M_compare t).bind (f_M_goOnAnd (f_M_unit 9))).bind (f_M_goOnOr (f_M_unit 9))) (cd1 tp n (unS tp n 9) 0) := by
          refine pmm_ext (pmm_cond (us := unS tp n 9) ht hp hb (pmm_cmp ht hp hb (by omega)) hu) (fun _ => rfl) fun i => ?_
          unfold cd1
          cases cmS tp n 0 i <;> rfl
        obtain ⟨t', r1, r2⟩ := lm_test (L := L) (q0 := q.2) (i0 := i) ht hp hb hj h65 h66 hcd hkq.2 (by rw [List.length_append]; omega) (by omega) hB
        refine ⟨t', ?_, r2⟩
        rw [← r1]
        show (f_M_compare (mA t1 (skN tp n q.1))).bind (fun q1 => (f_M_goOnAnd (f_M_unit 9) q1).bind fun q2 => (f_M_goOnOr (f_M_unit 9) q2).bind fun q3 => _) = (((f_M_compare (mA t1 (skN tp n q.1))).bind (f_M_goOnAnd (f_M_unit 9))).bind (f_M_goOnOr (f_M_unit 9))).bind _
        rw [Option.bind_assoc, Option.bind_assoc]
end
