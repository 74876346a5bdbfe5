/-! ===== a rule's text is taken: both sides ===== -/
section
variable {I T B R : Nat} {W : Option WF6} {s s0 s' t : S2} {tp : Nat → Nat} {n : Nat}
def Kt1 (R c i k : Nat) : Bool := (Kla R c i k || ((c == 17 || c == 18) && i == R)) || (((c == 11 && k == 1) || (c == 10 && k == 14)) || (c == 60 && (k == 2 || k == 13)))
theorem kt1_la {c i k : Nat} (h : Kt1 R c i k = false) : Kla R c i k = false := by
  unfold Kt1 at h
  simp only [Bool.or_eq_false_iff] at h
  exact h.1.1
theorem kt1_r : Kt1 R 17 R 2 = true ∧ ∀ k, Kt1 R 18 R k = true := by
  unfold Kt1
  constructor
  · simp
  · intro k; simp
theorem len_l : ∀ (l : List CLA), (∀ c, c ∈ l → CLQ QX c) → 2 * l.length ≤ (encL l).length ∧ (encM l).length ≤ (encL l).length := by
  intro l
  induction l with
  | nil => intro _; exact ⟨Nat.le_refl _, Nat.le_refl _⟩
  | cons c l ih =>
    intro h
    obtain ⟨h1, h2⟩ := ih fun d hd => h d (List.mem_cons_of_mem _ hd)
    obtain ⟨-, q2⟩ := h c List.mem_cons_self
    have hS : 0 < c.2.length := q2.2.1
    have e1 : (encL (c :: l)).length = (enC c).length + ((encL l).length + 1) := by
      show (enC c ++ 59 :: encL l).length = _
      rw [List.length_append, List.length_cons]
    have e2 : (encM (c :: l)).length = (mlC c).length + (encM l).length := by
      show (mlC c ++ encM l).length = _
      rw [List.length_append]
    have e3 : c.2.length ≤ (enC c).length ∧ (mlC c).length ≤ (enC c).length := by
      obtain ⟨T?, S⟩ := c
      cases T? with
      | none => exact ⟨Nat.le_refl _, Nat.le_refl _⟩
      | some T =>
        have a1 : (enC (some T, S)).length = T.length + (S.length + 1) := by
          show (T ++ 63 :: S).length = _
          rw [List.length_append, List.length_cons]
        have a2 : (mlC (some T, S)).length = T.length + S.length := by
          show (T ++ S).length = _
          rw [List.length_append]
        rw [a1, a2]
        exact ⟨by show S.length ≤ _; omega, by omega⟩
    rw [e1, e2, List.length_cons]
    omega
theorem mcl_row {t t' : S2} (h : mruleN R t t') : ∀ (l : List CLA) (p j : Nat), j + l.length ≤ 140 → MCl R p j l t → MCl R p j l t' := by
  intro l
  induction l with
  | nil => intro p j _ _; trivial
  | cons c l ih =>
    intro p j hj hc
    rw [List.length_cons] at hj
    have e := h.2.2 (140 * R + j) (by omega) (by omega)
    exact ⟨⟨e.1.trans hc.1.1, e.2.1.trans hc.1.2.1, e.2.2.trans hc.1.2.2⟩, ih _ _ (by omega) hc.2⟩
/-- a new rule's worth, both sides -/
theorem new_rule {l : List CLA} {k : Nat} (hR : R < 4) (hq : ∀ c, c ∈ l → CLQ QX c) (hn : (encL l).length ≤ 240) (h17 : t.1 17 R 2 = nI (encL l).length) (h18 : COD R 0 (encL l) t) (h65 : t.1 65 0 R = nI l.length) (hC : MCl R 0 0 l t) (hM : LM s0 R 0 (encM l) k t) : ∃ w, WC R w t ∧ WM R w t := by
  obtain ⟨F, f1, f2⟩ := law_w l hq
  obtain ⟨l1', l2'⟩ := len_l l hq
  refine ⟨fun a b c d e g => F (e6 a b c d e g), fun s'' k1 k2 => ?_, fun s'' hr => ?_⟩
  · obtain ⟨t', a1, a2⟩ := f1 R 0 FU (encL l).length s'' (lt_FU (by omega)) (by rw [k1]; exact h17) (by omega) (by omega) (fun k hk => by rw [k2]; exact h18 k hk)
    refine ⟨t', ?_, a2⟩
    unfold f_Rule_worth
    rw [show Int32.ofInt 0 = nI 0 from of_0]
    exact a1
  · obtain ⟨t', a1, a2⟩ := f2 R 0 0 FU s'' (by omega) (lt_FU (by omega)) (by omega) (by omega) (by rw [hr.2.1, Nat.zero_add]; exact h65) (mcl_row hr l 0 0 (by omega) hC) (fun k hk => by
      have e := hr.1 (520 * R + (0 + k)) (by omega) (by omega)
      rw [e.1, e.2, Nat.zero_add]
      exact hM.2.2.1 k hk)
    refine ⟨t', ?_, a2⟩
    unfold f_M_worthOf
    rw [of_140, mul_nI]
    exact a1
theorem HLD_up (h : HLD R W s) : HLD (R + 1) W s := by
  cases W with
  | none => exact h
  | some w =>
    obtain ⟨n, h1, h2⟩ := h
    exact ⟨n, by omega, h2⟩
theorem INV_t1 {w : WF6} (h : INV I T B R W s) (hF : Fr (Kt1 R) s s') (hR : R < 4) (hw : WC R w s' ∧ WM R w s') (h11 : s'.1 11 0 1 = 0) (h2 : s'.1 60 0 2 = 0) (h14 : s'.1 10 0 14 = nI (R + 1)) (h13 : s'.1 60 0 13 = nI (R + 1)) : INV I T B (R + 1) W s' := by
  obtain ⟨h1, hh2, h3, h4, h5, h6, h7, h8⟩ := h
  have e17 : ∀ m, m < R → s'.1 17 m = s.1 17 m := fun m hm => hF.arr fun k => by
    unfold Kt1 Kla Klc
    rw [show (m == 4) = false from beq_eq_false_iff_ne.mpr (by omega), show (m == R) = false from beq_eq_false_iff_ne.mpr (by omega)]
    rfl
  have e18 : ∀ m, m < R → s'.1 18 m = s.1 18 m := fun m hm => hF.arr fun k => by
    unfold Kt1 Kla Klc
    rw [show (m == 4) = false from beq_eq_false_iff_ne.mpr (by omega), show (m == R) = false from beq_eq_false_iff_ne.mpr (by omega)]
    rfl
  have row : ∀ c k m, m < R → ((c = 62 ∨ c = 63) ∧ k < 520 * m + 520 ∨ (c = 66 ∨ c = 67 ∨ c = 68) ∧ k < 140 * m + 140 ∨ c = 65 ∧ k = m) → s'.1 c 0 k = s.1 c 0 k := fun c k m hm hc => hF.1 c 0 k (by
    unfold Kt1
    rw [klw_row hm hc]
    rcases hc with ⟨hc, -⟩ | ⟨hc, -⟩ | ⟨hc, -⟩
    · rcases hc with rfl | rfl <;> rfl
    · rcases hc with rfl | rfl | rfl <;> rfl
    · subst hc; rfl)
  have em : ∀ m, m < R → mruleN m s s' := fun m hm => ⟨fun k h1 h2 => ⟨row 62 k m hm (Or.inl ⟨by omega, by omega⟩), row 63 k m hm (Or.inl ⟨by omega, by omega⟩)⟩, row 65 m m hm (Or.inr (Or.inr ⟨rfl, rfl⟩)), fun k h1 h2 => ⟨row 66 k m hm (Or.inr (Or.inl ⟨by omega, by omega⟩)), row 67 k m hm (Or.inr (Or.inl ⟨by omega, by omega⟩)), row 68 k m hm (Or.inr (Or.inl ⟨by omega, by omega⟩))⟩⟩
  refine ⟨?_, ?_, ?_, ?_, ?_, ?_, ?_, ?_⟩
  · exact iSea_fr h1 hF (fun _ => ⟨rfl, rfl, rfl, rfl, rfl, rfl, rfl, rfl, rfl, rfl, rfl, rfl⟩) ⟨rfl, rfl, rfl, rfl, rfl, rfl, rfl⟩
  · exact HLD_up (HLD_fr hh2 (hF.1 _ _ _ rfl) (hF.1 _ _ _ rfl) e17 e18 em)
  · exact ⟨0, by omega, by rw [h11, nI_0], by rw [h2, nI_0], fun k hk => absurd hk (by omega)⟩
  · obtain ⟨g1, g2, g3, g4, g5⟩ := h4
    refine ⟨by omega, h14, h13, by rw [hF.1 10 0 15 rfl, hF.1 60 0 40 rfl]; exact g4, fun m hm => ?_⟩
    by_cases c : m = R
    · subst c; exact ⟨w, hw.1, hw.2⟩
    · obtain ⟨w', k1, k2⟩ := g5 m (by omega)
      exact ⟨w', fun s'' q1 q2 => k1 s'' (q1.trans (e17 m (by omega))) (q2.trans (e18 m (by omega))), fun s'' q => k2 s'' (mruleN_tr (em m (by omega)) q)⟩
  · exact iPast_fk h5 hF (fun _ => ⟨rfl, rfl, rfl, rfl⟩) (fun _ _ => rfl) ⟨rfl, rfl⟩
  · exact iWea_fk h6 hF ⟨rfl, rfl, rfl, rfl⟩
  · exact iImg_fk h7 hF (fun _ => ⟨rfl, rfl⟩) ⟨rfl, rfl⟩
  · exact iCha_fk h8 hF (fun _ => ⟨rfl, rfl, rfl, rfl, rfl, rfl, rfl, rfl⟩) ⟨rfl, rfl⟩
theorem q_text1 (h : INV I T B R W s) : ∃ s1 r s2 R', f_D_text (nI 1) s = some (s1, r) ∧ f_M_text (nI 1) s1 = some (s2, r) ∧ INV I T B R' W s2 := by
  obtain ⟨n, tp, ht, hpc, hpm⟩ := tape_of h.2.2.1
  have h240 := ht.1
  obtain ⟨hR4, c14, c13, -, -⟩ := h.2.2.2.1
  have n10 : ¬ nI 1 = 0 := by decide
  unfold f_D_text f_D_addRule
  rw [if_neg n10, of_1, if_pos rfl, g_D_isWithin_eq, c14, show Int32.ofInt 0 = 0 from of_0, of_3, of_m1]
  by_cases hR : R < 4
  · have hin : inS (nI R) 0 (nI 3) = true := decide_eq_true ⟨nI_pos' (by omega), nI_le (by omega) (by omega)⟩
    rw [hin, ifT]
    obtain ⟨t1, b, a1, a2⟩ := fc_ruleRead ht hpc
    rw [a1, Option.bind_some]
    cases e : lawS tp n 241 0 with
    | inl q =>
      rw [e] at a2
      obtain ⟨rfl, x1, L', g⟩ := a2
      obtain ⟨t2, r, b1, b2⟩ := fm_readLaw (N := R) ht (tpm_lc g.1 hpm) (by omega)
      rw [e] at b2
      obtain ⟨y1, rfl, y3⟩ := b2
      refine ⟨t1, -1, t2, R, ?_, ?_, INV_la h ((fr_lcA g.1).trans (fr_lwA y3)) (Nat.le_refl _)⟩
      · show (if bI false = 0 then some (t1, (-1 : Int32)) else _).bind _ = _
        rw [ifF, Option.bind_some]
      · unfold f_M_text f_M_text_L22
        rw [if_neg n10, of_1, if_pos rfl, (g.1.1 60 0 13 rfl).trans c13, of_4, if_neg (nI_ge (by omega) (by omega)), b1, Option.bind_some, of_m1]
        show (if nI q = -1 then _ else some (t2, (-1 : Int32))) = _
        rw [if_neg (m1_ne (by omega))]
    | inr l =>
      rw [e] at a2
      obtain ⟨rfl, ⟨j, g1, g2, g3, g4⟩, x3⟩ := a2
      have hq := sx_law ht QC_QX 241 0 l (by omega) e
      have e14 : t1.1 10 0 14 = nI R := (g1.1 10 0 14 rfl).trans c14
      obtain ⟨t2, ht2⟩ : ∃ t2, pkS (cpS t1 18 R (t1.1 18 4) 0 0 241) 17 R 2 ((cpS t1 18 R (t1.1 18 4) 0 0 241).1 17 4 2) = t2 := ⟨_, rfl⟩
      have ecp : f_Rule_copy R 4 t1 = some t2 := by
        unfold f_Rule_copy
        rw [show Int32.ofInt 0 = nI 0 from of_0, nx_nI (k := 241) (by omega), Option.bind_some, nx_nI (k := 0) (by omega), Option.bind_some, Option.bind_some, if_pos (by omega), Option.bind_some, Option.bind_some, ht2]
      have k17 : t2.1 17 R 2 = nI (encL l).length := by
        rw [← ht2, pkS_v, if_pos ⟨rfl, rfl, rfl⟩, cpS_1, if_neg (by omega)]
        exact g2
      have k18 : ∀ k, k < 241 → t2.1 18 R k = t1.1 18 4 k := fun k hk => by
        rw [← ht2, pkS_v, if_neg (by omega), cpS_1, if_pos ⟨rfl, rfl⟩]
        unfold va_cpy
        rw [if_pos (by omega), show 0 + (k - 0) = k by omega]
      have f2 : Fr (Kt1 R) t1 t2 := by
        rw [← ht2]
        exact (Fr_cp kt1_r.2 t1 _ _ _ _).pk' _ kt1_r.1
      have fA : Fr (Kt1 R) s (pkS (pkS t2 11 0 1 0) 10 0 14 (nI (R + 1))) := ((((g1.mono fun _ _ _ hk => (Kla_c (kt1_la hk)).1).trans f2).pk' _ rfl).pk' _ rfl)
      have e14' : (pkS t2 11 0 1 0).1 10 0 14 = nI R := by
        rw [pkS_v, if_neg (by omega), ← ht2, pkS_v, if_neg (by omega), cpS_1, if_neg (by omega)]
        exact e14
      obtain ⟨s1, hs1⟩ : ∃ s1, pkS (pkS t2 11 0 1 0) 10 0 14 (nI (R + 1)) = s1 := ⟨_, rfl⟩
      have o60 : ∀ c, c = 60 ∨ c = 61 → s1.1 c 0 = s.1 c 0 := fun c hc => by
        rw [← hs1, pkS_1, if_neg (by omega), pkS_1, if_neg (by omega), ← ht2, pkS_1, if_neg (by omega), cpS_1, if_neg (by omega)]
        rcases hc with rfl | rfl
        · exact g1.arr fun _ => rfl
        · exact g1.arr fun _ => rfl
      have hpm1 : TPm n tp s1 := by
        unfold TPm at hpm ⊢
        rw [o60 60 (by omega), o60 61 (by omega)]
        exact hpm
      obtain ⟨t3, r, b1, b2⟩ := fm_readLaw (N := R) ht hpm1 (by omega)
      rw [e] at b2
      obtain ⟨rfl, k, hF3, hM3, h65, hC3⟩ := b2
      rw [List.nil_append] at hM3 h65 hC3
      have fB : Fr (Kla R) s1 t3 := fr_lwA hF3
      have d13 : t3.1 60 0 13 = nI R := by
        rw [hF3.1 60 0 13 rfl, pkS_v, if_neg (by omega), o60 60 (by omega)]
        exact c13
      have k17' : t3.1 17 R = t2.1 17 R := by
        rw [hF3.arr (c := 17) (i := R) fun _ => rfl, pkS_1, if_neg (by omega), ← hs1, pkS_1, if_neg (by omega), pkS_1, if_neg (by omega)]
      have k18' : t3.1 18 R = t2.1 18 R := by
        rw [hF3.arr (c := 18) (i := R) fun _ => rfl, pkS_1, if_neg (by omega), ← hs1, pkS_1, if_neg (by omega), pkS_1, if_neg (by omega)]
      obtain ⟨w, w1, w2⟩ := new_rule (t := t3) hR hq (by omega) (by rw [k17']; exact k17) (fun k hk => by
        rw [k18', k18 (0 + k) (by omega), Nat.zero_add]
        exact g3 k hk) h65 hC3 hM3
      have o3 : ∀ c i, ¬ c = 60 → (pkS (pkS t3 60 0 2 0) 60 0 13 (nI (R + 1))).1 c i = t3.1 c i := fun c i hc => by
        rw [pkS_1, if_neg (by omega), pkS_1, if_neg (by omega)]
      have hr : mruleN R t3 (pkS (pkS t3 60 0 2 0) 60 0 13 (nI (R + 1))) := by
        unfold mruleN
        rw [o3 62 0 (by omega), o3 63 0 (by omega), o3 65 0 (by omega), o3 66 0 (by omega), o3 67 0 (by omega), o3 68 0 (by omega)]
        exact ⟨fun _ _ _ => ⟨rfl, rfl⟩, rfl, fun _ _ _ => ⟨rfl, rfl, rfl⟩⟩
      have fC : Fr (Kt1 R) s (pkS (pkS t3 60 0 2 0) 60 0 13 (nI (R + 1))) := (((hs1 ▸ fA).trans (fB.mono fun _ _ _ hk => kt1_la hk)).pk' _ (by unfold Kt1; simp)).pk' _ (by unfold Kt1; simp)
      refine ⟨s1, nI R, pkS (pkS t3 60 0 2 0) 60 0 13 (nI (R + 1)), R + 1, ?_, ?_, INV_t1 (w := w) h fC hR ⟨fun s'' q1 q2 => w1 s'' (q1.trans (o3 17 R (by omega))) (q2.trans (o3 18 R (by omega))), fun s'' q => w2 s'' (mruleN_tr hr q)⟩ ?_ ?_ ?_ ?_⟩
      · show (if bI true = 0 then _ else (ix 4 (t1.1 10 0 14)).bind _).bind _ = _
        unfold f_Tape_cut
        rw [ifT, e14, ix_nI (n := 4) (k := R) hR (by omega), Option.bind_some, ecp, Option.bind_some, Option.bind_some, Option.bind_some, e14', nI_add, Option.bind_some, hs1, Option.bind_some, ← hs1, pkS_v, if_pos ⟨rfl, rfl, rfl⟩, sub_nI (by omega), show R + 1 - 1 = R by omega]
      · unfold f_M_text f_M_text_L22
        rw [if_neg n10, of_1, if_pos rfl, o60 60 (by omega), c13, of_4, if_neg (nI_ge (by omega) (by omega)), b1, Option.bind_some, of_m1]
        show (if (-1 : Int32) = -1 then (some (pkS t3 60 0 2 (Int32.ofInt 0))).bind _ else _) = _
        rw [if_pos rfl, Option.bind_some, show Int32.ofInt 0 = 0 from of_0, pkS_v, if_neg (by omega), d13, nI_add, Option.bind_some, pkS_v, if_pos ⟨rfl, rfl, rfl⟩, sub_nI (by omega), show R + 1 - 1 = R by omega]
      · rw [o3 11 0 (by omega), hF3.1 11 0 1 rfl, pkS_v, if_neg (by omega), ← hs1, pkS_v, if_neg (by omega), pkS_v, if_pos ⟨rfl, rfl, rfl⟩]
      · rw [pkS_v, if_neg (by omega), pkS_v, if_pos ⟨rfl, rfl, rfl⟩]
      · rw [o3 10 0 (by omega), hF3.1 10 0 14 rfl, pkS_v, if_neg (by omega), ← hs1, pkS_v, if_pos ⟨rfl, rfl, rfl⟩]
      · rw [pkS_v, if_pos ⟨rfl, rfl, rfl⟩]
  · have hin : inS (nI R) 0 (nI 3) = false := decide_eq_false fun z => nI_ge (show 3 < R by omega) (by omega) z.2
    rw [hin, ifF]
    refine ⟨s, -1, s, R, rfl, ?_, h⟩
    unfold f_M_text f_M_text_L22
    rw [if_neg n10, of_1, if_pos rfl, c13, of_4, if_pos (nI_le (by omega) (by omega)), of_m1]
/-- a text -/
theorem q_text (x : Int32) (h : INV I T B R W s) : ∃ s1 r s2 I' T' B' R', f_D_text x s = some (s1, r) ∧ f_M_text x s1 = some (s2, r) ∧ INV I' T' B' R' W s2 := by
  by_cases c0 : x = 0
  · subst c0
    obtain ⟨s1, r, s2, I', T', B', a1, a2, a3⟩ := q_text0 h
    exact ⟨s1, r, s2, I', T', B', R, a1, a2, a3⟩
  · by_cases c1 : x = nI 1
    · subst c1
      obtain ⟨s1, r, s2, R', a1, a2, a3⟩ := q_text1 h
      exact ⟨s1, r, s2, I, T, B, R', a1, a2, a3⟩
    · refine ⟨s, -1, s, I, T, B, R, ?_, ?_, h⟩
      · unfold f_D_text
        rw [if_neg c0, of_1, if_neg c1, of_m1]
      · unfold f_M_text f_M_text_L22
        rw [if_neg c0, of_1, if_neg c1, of_m1]
end
