/-! ===== a sea's text is taken: both sides ===== -/
section
variable {I T B R : Nat} {W : Option WF6} {s s0 s' t : S2} {tp : Nat → Nat} {n : Nat}
def Kbg (c i k : Nat) : Bool := Kst c i k || ((c == 14 || (c == 15 || (c == 21 || ((c == 22 && (k == 2 || k == 4)) || ((c == 49 && k == 8) || ((c == 10 && k == 16) || (c == 11 && k == 1))))))) && i == 0)
theorem fc_begG {c : CNT} {D : Nat → Int32} {j : Nat} (hT : CT s c D j t) (hc : cOK c) (hrd : f_Sea_read 1 s = some (t, true)) : ∃ s1, f_D_beginSea s = some (s1, nI (c 1)) ∧ Fr Kbg s s1 ∧ (∀ k, k < 152 → s1.1 14 0 k = D k) ∧ CN (c 1) (c 2) (c 3) s1 ∧ BG (c 1) (c 2) (s1.1 14 0) 6 (c 2) (s1.1 21 0) ∧ (∀ j, j < 4 → s1.1 21 0 (38 + j) = nI 1) ∧ (s1.1 22 0 2 = 0 ∧ s1.1 22 0 4 = 0 ∧ s1.1 49 0 8 = 0 ∧ s1.1 10 0 16 = 0 ∧ s1.1 11 0 1 = 0) := by
  obtain ⟨m0, m1, m2, m3⟩ := mx_v
  have hc1 := hc 1 (by omega)
  have hc2 := hc 2 (by omega)
  obtain ⟨h1, h2, h3, h4⟩ := hT
  obtain ⟨t2, ht2⟩ : ∃ t2, cpS (cpS t 14 0 (t.1 14 1) 0 0 152) 15 0 ((cpS t 14 0 (t.1 14 1) 0 0 152).1 15 1) 0 0 4 = t2 := ⟨_, rfl⟩
  have ecp : f_Sea_copy 0 1 t = some t2 := by
    unfold f_Sea_copy
    rw [show Int32.ofInt 0 = nI 0 from of_0, nx_nI (k := 152) (by omega), Option.bind_some, nx_nI (k := 0) (by omega), Option.bind_some, Option.bind_some, if_pos (by omega), Option.bind_some, nx_nI (k := 4) (by omega), Option.bind_some, Option.bind_some, Option.bind_some, if_pos (by omega), Option.bind_some, ht2]
  have e14 : ∀ k, k < 152 → t2.1 14 0 k = D k := fun k hk => by
    rw [← ht2, cpS_1, if_neg (by omega), cpS_1, if_pos ⟨rfl, rfl⟩, h2]
    unfold va_cpy
    rw [if_pos (by omega), show 0 + (k - 0) = k by omega]
  have e15 : ∀ k, k < 4 → t2.1 15 0 k = nI (c k) := fun k hk => by
    rw [← ht2, cpS_1, if_pos ⟨rfl, rfl⟩, cpS_1, if_neg (by omega)]
    unfold va_cpy
    rw [if_pos (by omega), show 0 + (k - 0) = k by omega]
    exact h3 k hk
  have f2 : Fr Kbg t t2 := by
    rw [← ht2]
    exact (Fr_cp (fun k => rfl) t _ _ _ _).trans (Fr_cp (fun k => rfl) _ _ _ _ _)
  obtain ⟨t3, a1, a2, a3, a4⟩ := fc_stBegin (s := t2) (I := c 1) (T := c 2) (by omega) (by omega) (e15 1 (by omega)) (e15 2 (by omega))
  have f3 : Fr Kbg s t3 := (h1.mono fun c i k hk => by
      unfold Kbg at hk
      exact (Bool.or_eq_false_iff.mp hk).1).trans (f2.trans (a2.mono fun c i k hk => by
      cases e : Kar 21 0 c i k with
      | false => rfl
      | true =>
        exfalso
        unfold Kar at e
        simp only [Bool.and_eq_true, beq_iff_eq] at e
        obtain ⟨rfl, rfl⟩ := e
        exact absurd hk (by rw [show Kbg 21 0 k = true from rfl]; decide)))
  have e314 : t3.1 14 0 = t2.1 14 0 := a2.arr fun _ => rfl
  have e315 : t3.1 15 0 = t2.1 15 0 := a2.arr fun _ => rfl
  refine ⟨pkS (pkS (pkS (pkS (pkS t3 22 0 2 0) 22 0 4 0) 49 0 8 0) 10 0 16 0) 11 0 1 0, ?_, ((((f3.pk' _ rfl).pk' _ rfl).pk' _ rfl).pk' _ rfl).pk' _ rfl, fun k hk => ?_, ?_, ?_, fun j hj => ?_, ?_⟩
  · unfold f_D_beginSea f_Past_clear f_Past_forgetStates f_Charts_clear f_Tape_cut
    rw [hrd, Option.bind_some]
    show (if bI true = 0 then _ else _) = _
    rw [ifT]
    show (f_Sea_copy 0 1 t).bind _ = _
    rw [ecp, Option.bind_some, a1, show Int32.ofInt 0 = 0 from of_0]
    simp only [Option.bind_some]
    unfold g_Sea_isles
    simp only [pkS_v, show ¬ (15 = 11) by decide, show ¬ (15 = 10) by decide, show ¬ (15 = 49) by decide, show ¬ (15 = 22) by decide, false_and, if_false, e315, e15 1 (by omega)]
  · simp only [pkS_v, show ¬ (14 = 11) by decide, show ¬ (14 = 10) by decide, show ¬ (14 = 49) by decide, show ¬ (14 = 22) by decide, false_and, if_false, e314]
    exact e14 k hk
  · unfold CN
    simp only [pkS_v, show ¬ (15 = 11) by decide, show ¬ (15 = 10) by decide, show ¬ (15 = 49) by decide, show ¬ (15 = 22) by decide, false_and, if_false, e315]
    exact ⟨e15 1 (by omega), e15 2 (by omega), e15 3 (by omega)⟩
  · have q21 : (pkS (pkS (pkS (pkS (pkS t3 22 0 2 0) 22 0 4 0) 49 0 8 0) 10 0 16 0) 11 0 1 0).1 21 0 = t3.1 21 0 := by
      rw [pkS_1, if_neg (by omega), pkS_1, if_neg (by omega), pkS_1, if_neg (by omega), pkS_1, if_neg (by omega), pkS_1, if_neg (by omega)]
    have q14 : (pkS (pkS (pkS (pkS (pkS t3 22 0 2 0) 22 0 4 0) 49 0 8 0) 10 0 16 0) 11 0 1 0).1 14 0 = t3.1 14 0 := by
      rw [pkS_1, if_neg (by omega), pkS_1, if_neg (by omega), pkS_1, if_neg (by omega), pkS_1, if_neg (by omega), pkS_1, if_neg (by omega)]
    rw [q21, q14, e314]
    exact a3
  · simp only [pkS_v, show ¬ (21 = 11) by decide, show ¬ (21 = 10) by decide, show ¬ (21 = 49) by decide, show ¬ (21 = 22) by decide, false_and, if_false]
    exact a4 j hj
  · simp [pkS_v]
theorem fc_begB (hrd : f_Sea_read 1 s = some (t, false)) : f_D_beginSea s = some (t, -1) := by
  unfold f_D_beginSea
  rw [hrd, Option.bind_some]
  show (if bI false = 0 then some (t, Int32.ofInt (-1)) else _) = _
  rw [ifF, of_m1]
/-- all that taking a sea's text writes -/
def Ktx (c i k : Nat) : Bool := (Kbg c i k || Kmr c i k) || (Ktk c i k || (c == 60 && k == 2))
theorem Ktx_c {c i k : Nat} (h : Ktx c i k = false) : Kbg c i k = false ∧ Kmr c i k = false ∧ Ktk c i k = false ∧ (c == 60 && k == 2) = false := by
  unfold Ktx at h
  simp only [Bool.or_eq_false_iff] at h
  exact ⟨h.1.1, h.1.2, h.2.1, h.2.2⟩
theorem tpm_bg (h : Fr Kbg s s') (hp : TPm n tp s) : TPm n tp s' := by
  unfold TPm at hp ⊢
  rw [h.1 60 0 2 rfl, h.arr (c := 61) (i := 0) fun _ => rfl]
  exact hp
/-- the invariant of a sea that begins -/
theorem INV_tx {c : CNT} {D : Nat → Int32} {s1 t2 : S2} {w : Nat → Int32} (h : INV I T B R W s) (hF : Fr Ktx s s') (hr : RNG c D) (hc : cOK c) (hw : wzS c D = true) (e14 : ∀ k, k < 152 → s'.1 14 0 k = D k) (hcn : CN (c 1) (c 2) (c 3) s') (hbg : BG (c 1) (c 2) (s'.1 14 0) 6 (c 2) (s'.1 21 0)) (hon : ∀ j, j < 4 → s'.1 21 0 (38 + j) = nI 1) (hz : s'.1 22 0 2 = 0 ∧ s'.1 22 0 4 = 0 ∧ s'.1 49 0 8 = 0 ∧ s'.1 10 0 16 = 0 ∧ s'.1 11 0 1 = 0) (h2 : s'.1 60 0 2 = 0) (hm : MSD c D t2) (htk : TKS (t2.1 71 0) (t2.1 72 0) (t2.1 73 0) (t2.1 74 0) (c 1) (c 2) (c 3) s') : INV (c 1) (c 2) (c 3) R W s' := by
  obtain ⟨h1, hh2, h3, h4, h5, h6, h7, h8⟩ := h
  obtain ⟨m0, m1, m2, m3⟩ := mx_v
  obtain ⟨z0, z1, z2, z3⟩ := szn_v
  obtain ⟨f0, f1, f2, f3⟩ := frn_v
  have hc1 := hc 1 (by omega)
  have hc2 := hc 2 (by omega)
  have hc3 := hc 3 (by omega)
  obtain ⟨g2, gSE, gM, gP⟩ := rg_SE hr hc hw e14
  obtain ⟨k75, k76, k77, k78, kst, ⟨k36, k37, k60, k55, k57, kim⟩, k28, k29, k30⟩ := htk
  obtain ⟨b1, b2, b3, b4, b5⟩ := hbg
  obtain ⟨y1, y2, y3, y4, y5⟩ := hz
  -- the reference's cells
  have d71 : ∀ k, k < 4 → t2.1 71 0 k = s'.1 14 0 k := fun k hk => by
    have := hm 0 0 k (by omega) (Or.inr ⟨rfl, rfl⟩) (by omega)
    rw [z0, f0, Nat.mul_zero, Nat.zero_add] at this
    exact this.trans (e14 k (by omega)).symm
  have d72 : ∀ a k, a < c 1 → k < 8 → t2.1 72 0 (8 * a + k) = s'.1 14 0 ((1 + a) * 8 + k) := fun a k ha hk => by
    have := hm 1 a k (by omega) (Or.inl ha) (by omega)
    rw [z1, f1] at this
    exact this.trans (e14 _ (by omega)).symm
  have d73 : ∀ a k, a < c 2 → k < 4 → t2.1 73 0 (4 * a + k) = s'.1 14 0 ((7 + a) * 8 + k) := fun a k ha hk => by
    have := hm 2 a k (by omega) (Or.inl ha) (by omega)
    rw [z2, f2] at this
    exact this.trans (e14 _ (by omega)).symm
  have d74 : ∀ a k, a < c 3 → k < 3 → t2.1 74 0 (3 * a + k) = s'.1 14 0 ((15 + a) * 8 + k) := fun a k ha hk => by
    have := hm 3 a k (by omega) (Or.inl ha) (by omega)
    rw [z3, f3] at this
    exact this.trans (e14 _ (by omega)).symm
  have hd : ∀ a, a < c 1 → hdS (s'.1 21 0) a = a := fun a ha => by
    unfold hdS
    rw [(b1 a (by omega) ha).2.2.2.1, nI_clamp (by omega)]
  have hVS : VS (c 1) (s'.1 21 0) := by
    refine ⟨by omega, fun a ha => ?_, fun a h1 h2 => b2 a h2 h1, fun a ha => ?_⟩
    · rw [hd a ha, hd a ha]
      exact ⟨(b1 a (by omega) ha).2.2.2.1, ha, rfl⟩
    · obtain ⟨m, x1, x2, x3⟩ := gM a ha
      exact ⟨m, x1, x2, (b1 a (by omega) ha).2.2.1.trans x3⟩
  have hPR : PR (c 1) (s'.1 21 0) := fun a ha => by
    obtain ⟨q, x1, x2⟩ := gP a ha
    exact ⟨q, x1, (b1 a (by omega) ha).2.2.2.2.trans x2⟩
  refine ⟨⟨⟨Or.inr g2, hPR⟩, fun z => absurd g2 (by omega), gSE, hcn, hVS, ⟨k28, k29, k30⟩, ?_, ?_, ?_⟩, ?_, ?_, ?_, ?_, ?_, ?_, ?_⟩
  · -- MR
    refine ⟨fun t ht => ?_, fun j hj => absurd hj (by omega), fun k hk => ?_, fun a ha k hk1 hk2 => ?_, fun b hb k hk => ?_⟩
    · have e0 := d73 t 0 ht (by omega)
      rw [Nat.add_zero, Nat.add_zero] at e0
      exact ⟨(k77 (4 * t) (by omega)).trans e0, (k77 (4 * t + 1) (by omega)).trans (d73 t 1 ht (by omega)), (k77 (4 * t + 3) (by omega)).trans (d73 t 3 ht (by omega))⟩
    · exact (k75 k hk).trans (d71 k hk)
    · exact (k76 (8 * a + k) (by omega)).trans (d72 a k ha (by omega))
    · exact (k78 (3 * b + k) (by omega)).trans (d74 b k hb hk)
  · obtain ⟨-, -, -, -, -, -, -, ⟨q1, q2⟩, -⟩ := h1
    exact ⟨(hF.1 60 0 41 rfl).trans q1, (hF.1 60 0 42 rfl).trans q2⟩
  · -- RS
    refine ⟨fun a ha => ?_, fun t ht => ?_, ⟨2 ^ c 3 - 1, ?_, k36, fun b hb => Or.inl ⟨hon b (by omega), ?_⟩⟩, by rw [b4, k37]⟩
    · obtain ⟨x1, x2, x3, x4, x5⟩ := kst a (by omega)
      obtain ⟨u1, u2, u3, u4, u5⟩ := b1 a (by omega) ha
      have e0 := d72 a 0 ha (by omega)
      rw [Nat.add_zero, Nat.add_zero] at e0
      refine ⟨?_, ?_, ?_, ?_, ?_, ?_⟩
      · rw [u1, x1, e0]
      · rw [u2, x2, d72 a 1 ha (by omega)]
      · rw [u3, x3, d72 a 2 ha (by omega)]
      · rw [u4, x4]
      · rw [b3 a (by omega), x5]
      · rw [u5, k76 (8 * a + 7) (by omega), d72 a 7 ha (by omega)]
    · rw [b5 t ht, k77 (4 * t + 2) (by omega), d73 t 2 ht (by omega)]
    · exact (pw_b (c 3) (by omega)).2.1
    · exact (pw_b (c 3) (by omega)).2.2 b hb
  · exact HLD_fk hh2 hF (fun _ => ⟨rfl, rfl, rfl, rfl, rfl, rfl⟩) (fun _ _ => ⟨rfl, rfl⟩) ⟨rfl, rfl⟩
  · exact ⟨0, by omega, by rw [y5, nI_0], by rw [h2, nI_0], fun k hk => absurd hk (by omega)⟩
  · exact iRule_fk h4 hF (fun _ => ⟨rfl, rfl, rfl, rfl, rfl, rfl⟩) (fun _ _ => ⟨rfl, rfl⟩) ⟨rfl, rfl, rfl, rfl⟩
  · obtain ⟨a, p, l, q, g1, g2, g3, g4, g5, g6, g7, g8, g9, g10, g11, g12, g13⟩ := h5
    exact ⟨0, p, 0, q, by omega, g2, by omega, g4, by omega, by rw [y1, nI_0], by rw [k55, nI_0], (hF.1 22 0 3 rfl).trans g8, by rw [y2, nI_0], by rw [k57, nI_0], (hF.1 22 0 5 rfl).trans g11, fun j hj => absurd hj (by omega), fun j hj => absurd hj (by omega)⟩
  · exact iWea_fk h6 hF ⟨rfl, rfl, rfl, rfl⟩
  · exact Or.inl ⟨y4, kim⟩
  · exact ⟨0, by omega, by rw [y3, nI_0], by rw [k60, nI_0], fun k hk => absurd hk (by omega)⟩
/-- a sea's text -/
theorem q_text0 (h : INV I T B R W s) : ∃ s1 r s2 I' T' B', f_D_text 0 s = some (s1, r) ∧ f_M_text 0 s1 = some (s2, r) ∧ INV I' T' B' R W s2 := by
  obtain ⟨n, tp, ht, hpc, hpm⟩ := tape_of h.2.2.1
  have h240 := ht.1
  obtain ⟨t1, a1, a2⟩ := fc_seaRead ht hpc
  cases e : seaS tp n 20 (fun _ => 0) (sea0 (s.1 14 1)) 0 with
  | inl q =>
    rw [e] at a1 a2
    obtain ⟨⟨c', D', g⟩, -⟩ := a2
    obtain ⟨t2, r, b1, b2⟩ := fm_readSea ht (tpm_cst g.1 hpm) (s.1 14 1)
    rw [show seaS tp n 20 cZ (sea0 (s.1 14 1)) 0 = Sum.inl q from e] at b2
    obtain ⟨hq, rfl, hfr⟩ := b2
    refine ⟨t1, -1, t2, I, T, B, ?_, ?_, INV_rd h ((fr_cst g.1).trans (fr_mr hfr))⟩
    · unfold f_D_text
      rw [if_pos rfl, fc_begB a1, Option.bind_some]
    · unfold f_M_text f_M_text_L22
      rw [if_pos rfl, b1, Option.bind_some]
      show (if nI q = Int32.ofInt (-1) then _ else _) = _
      rw [of_m1, if_neg (m1_ne (by omega)), if_neg (show ¬ (0 : Int32) = Int32.ofInt 1 by decide)]
  | inr q =>
    rw [e] at a1 a2
    obtain ⟨j, g⟩ := a2
    obtain ⟨r1, r2, r3⟩ := rg_sea ht 20 0 cZ _ q (by omega) (fun so _ => Nat.zero_le _) rg_z e
    obtain ⟨s1, b1, b2, b3, b4, b5, b6, b7⟩ := fc_begG g r2 a1
    obtain ⟨t2, r, d1, d2⟩ := fm_readSea ht (tpm_bg b2 hpm) (s.1 14 1)
    rw [show seaS tp n 20 cZ (sea0 (s.1 14 1)) 0 = Sum.inr q from e] at d2
    obtain ⟨rfl, hfr, hcn, hmd, -, -⟩ := d2
    have hmx := mx_v
    have hc3 := r2 3 (by omega)
    obtain ⟨t3, x1, x2, x3⟩ := fm_take (s := pkS t2 60 0 2 0) (I := q.1 1) (T := q.1 2) (B := q.1 3) (by omega) (by rw [pkS_v, if_neg (by omega)]; exact hcn.1) (by rw [pkS_v, if_neg (by omega)]; exact hcn.2.1) (by rw [pkS_v, if_neg (by omega)]; exact hcn.2.2)
    rw [pkS_1, if_neg (by omega), pkS_1, if_neg (by omega), pkS_1, if_neg (by omega), pkS_1, if_neg (by omega)] at x2
    have fA : Fr Ktx s1 t3 := (hfr.mono fun _ _ _ hk => (Ktx_c hk).2.1).trans (((Fr.pk (K := Ktx) rfl t2 0)).trans (x3.mono fun _ _ _ hk => (Ktx_c hk).2.2.1))
    have o : ∀ c, ¬ c = 60 → ¬ (71 ≤ c ∧ c ≤ 83) → t3.1 c 0 = s1.1 c 0 := fun c h1 h2 => by
      have k1 : ∀ k, Kmr c 0 k = false := fun k => by
        unfold Kmr; simp; omega
      have k2 : ∀ k, Ktk c 0 k = false := fun k => by
        unfold Ktk K79; simp; omega
      rw [x3.arr k2, pkS_1, if_neg (by omega), hfr.arr k1]
    refine ⟨s1, nI (q.1 1), t3, q.1 1, q.1 2, q.1 3, ?_, ?_, ?_⟩
    · unfold f_D_text
      rw [if_pos rfl, b1, Option.bind_some]
    · unfold f_M_text
      rw [if_pos rfl, d1, Option.bind_some]
      show (if (-1 : Int32) = Int32.ofInt (-1) then (some (pkS t2 60 0 2 (Int32.ofInt 0))).bind _ else _) = _
      rw [of_m1, if_pos rfl, Option.bind_some, show Int32.ofInt 0 = 0 from of_0, x1, Option.bind_some]
    · refine INV_tx (s1 := s1) (w := q.2) h ((b2.mono fun _ _ _ hk => (Ktx_c hk).1).trans fA) r1 r2 r3 ?_ ?_ ?_ ?_ ?_ ?_ hmd x2
      · rw [o 14 (by omega) (by omega)]; exact b3
      · unfold CN at b4 ⊢
        rw [o 15 (by omega) (by omega)]; exact b4
      · rw [o 14 (by omega) (by omega), o 21 (by omega) (by omega)]; exact b5
      · rw [o 21 (by omega) (by omega)]; exact b6
      · rw [o 22 (by omega) (by omega), o 49 (by omega) (by omega), o 10 (by omega) (by omega), o 11 (by omega) (by omega)]; exact b7
      · rw [x3.1 60 0 2 rfl, pkS_v, if_pos ⟨rfl, rfl, rfl⟩]
end
