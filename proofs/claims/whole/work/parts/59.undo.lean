/-! ===== undo ===== -/
section
variable {I T B R : Nat} {W : Option WF6} {s s' : S2}
theorem fc_copy43 {s : S2} {i j : Nat} : f_State_copyButPrices i j s = some (cpS s 21 i (s.1 21 j) 0 0 43) := by
  unfold f_State_copyButPrices
  rw [of_43, of_0, ← nI_0, nx_nI (by omega), Option.bind_some, nx_nI (by omega), Option.bind_some, Option.bind_some, if_pos (by omega), Option.bind_some]
theorem q_undo (h : INV I T B R W s) : ∃ s1 r s2, f_D_undo s = some (s1, r) ∧ f_M_undo s1 = some (s2, r) ∧ INV I T B R W s2 := by
  obtain ⟨h6, h8, h4⟩ := h.1.2.2.1.1
  have hv := h.1.2.2.2.2.1
  have hr := h.1.2.2.2.2.2.2.2.2
  obtain ⟨a, p, l, q, g1, g2, g3, g4, g5, g6, g7, g8, g9, g10, g11, g12, g13⟩ := h.2.2.2.2.1
  unfold f_D_undo f_Past_takeBack
  by_cases c : a = 0
  · subst c
    refine ⟨s, Int32.ofInt (-1), s, by rw [g6, nI_0, if_pos rfl, Option.bind_some, ifF], ?_, h⟩
    unfold f_M_undo
    rw [g7, nI_0, if_pos rfl]
  · have hp : (p + 30 - a + (a - 1)) % 30 = (p + 29) % 30 := by omega
    obtain ⟨gv, gs⟩ := g12 (a - 1) (by omega)
    rw [hp] at gv gs
    generalize hP : (p + 29) % 30 = P at gv gs
    have hP30 : P < 30 := by omega
    obtain ⟨t1, ht1⟩ : ∃ t1, pkS (pkS s 22 0 3 (nI P)) 22 0 2 (nI (a - 1)) = t1 := ⟨_, rfl⟩
    obtain ⟨t2, ht2⟩ : ∃ t2, cpS t1 21 0 (t1.1 21 (5 + P)) 0 0 43 = t2 := ⟨_, rfl⟩
    obtain ⟨s1, hs1⟩ : ∃ s1, pkS (pkS t2 22 0 5 (nI ((q + 59) % 60))) 22 0 4 (nI (l - 1)) = s1 := ⟨_, rfl⟩
    have F1 : Fr (Kgo T) s t1 := by
      rw [← ht1]
      exact ((Fr.refl _ s).pk' _ (Kgo_22 T 3)).pk' _ (Kgo_22 T 2)
    have F2 : Fr (Kgo T) s t2 := by
      rw [← ht2]
      exact F1.trans (Fr_cp (Kgo_210 T) t1 _ 0 0 43)
    have F3 : Fr (Kgo T) s s1 := by
      rw [← hs1]
      exact ((F2).pk' _ (Kgo_22 T 5)).pk' _ (Kgo_22 T 4)
    have e1 : t1.1 21 = s.1 21 := by
      rw [← ht1]
      funext i
      rw [pkS_1, if_neg (by omega), pkS_1, if_neg (by omega)]
    have e2 : s1.1 21 0 = va_cpy (s.1 21 (5 + P)) (s.1 21 0) 0 0 43 := by
      rw [← hs1, pkS_1, if_neg (by omega), pkS_1, if_neg (by omega), ← ht2, cpS_1, if_pos ⟨rfl, rfl⟩, e1]
    have e21 : ∀ j, s1.1 21 0 j = mxS false (s.1 21 (5 + P)) (s.1 21 0) j := fun j => by
      rw [e2]
      unfold va_cpy mxS
      by_cases cj : j < 43
      · rw [if_pos (by omega), if_pos (Or.inl cj), Nat.sub_zero, Nat.zero_add]
      · rw [if_neg (by omega), if_neg (fun z => z.elim cj (fun z => by cases z))]
    have e21f : s1.1 21 0 = mxS false (s.1 21 (5 + P)) (s.1 21 0) := funext e21
    have eP : ∀ i, s1.1 21 (5 + i) = s.1 21 (5 + i) := fun i => by
      rw [← hs1, pkS_1, if_neg (by omega), pkS_1, if_neg (by omega), ← ht2, cpS_1, if_neg (by omega), e1]
    have k222 : t1.1 22 0 2 = nI (a - 1) := by rw [← ht1, pkS_v, if_pos ⟨rfl, rfl, rfl⟩]
    have k223 : t1.1 22 0 3 = nI P := by rw [← ht1, pkS_v, if_neg (by omega), pkS_v, if_pos ⟨rfl, rfl, rfl⟩]
    have k224 : t2.1 22 0 4 = nI l := by rw [← ht2, cpS_1, if_neg (by omega), ← ht1, pkS_v, if_neg (by omega), pkS_v, if_neg (by omega), g9]
    have k225 : t2.1 22 0 5 = nI q := by rw [← ht2, cpS_1, if_neg (by omega), ← ht1, pkS_v, if_neg (by omega), pkS_v, if_neg (by omega), g11]
    have k60 : s1.1 60 0 = s.1 60 0 := by
      rw [← hs1, pkS_1, if_neg (by omega), pkS_1, if_neg (by omega), ← ht2, cpS_1, if_neg (by omega), ← ht1, pkS_1, if_neg (by omega), pkS_1, if_neg (by omega)]
    obtain ⟨m1, hm1⟩ : ∃ m1, pkS (pkS s1 60 0 55 (nI (a - 1))) 60 0 57 (nI (l - 1)) = m1 := ⟨_, rfl⟩
    have M1 : Fr (Kgo T) s m1 := by
      rw [← hm1]
      exact (F3.pk' _ (Kgo_55 T)).pk' _ (Kgo_57 T)
    have m92 : m1.1 92 0 = s.1 92 0 := by
      rw [← hm1, pkS_1, if_neg (by omega), pkS_1, if_neg (by omega), ← hs1, pkS_1, if_neg (by omega), pkS_1, if_neg (by omega), ← ht2, cpS_1, if_neg (by omega), ← ht1, pkS_1, if_neg (by omega), pkS_1, if_neg (by omega)]
    have m76 : m1.1 76 0 = s.1 76 0 := by
      rw [← hm1, pkS_1, if_neg (by omega), pkS_1, if_neg (by omega), ← hs1, pkS_1, if_neg (by omega), pkS_1, if_neg (by omega), ← ht2, cpS_1, if_neg (by omega), ← ht1, pkS_1, if_neg (by omega), pkS_1, if_neg (by omega)]
    obtain ⟨s2, a1, a2, a3⟩ := fm_read (s := m1) (c := 92) (n := 1380) (off := 46 * (a - 1)) (u := s.1 21 0) (fl := false) (Or.inr (Or.inl rfl)) (by omega) (by omega) h6 h8 h4 (SV_fr gs m92) (fun b hb => by rw [m76]; exact (hr.1 b hb).2.2.2.2.2)
    have F4 : Fr (Kgo T) s s2 := M1.trans (a3.mono fun _ _ _ => Kgo_KR)
    have e3 : s2.1 21 = s1.1 21 := by
      funext i
      rw [a3.arr fun _ => rfl, ← hm1, pkS_1, if_neg (by omega), pkS_1, if_neg (by omega)]
    have hv2 : VS I (s1.1 21 0) := VS_of gv fun j j1 j2 => by
      rw [e21]
      unfold mxS
      rw [if_pos (Or.inl (by omega))]
    have k2 : ∀ k, s2.1 22 0 k = s1.1 22 0 k := fun k => by
      rw [a3.1 22 0 k rfl, ← hm1, pkS_v, if_neg (by omega), pkS_v, if_neg (by omega)]
    refine ⟨s1, s.1 21 (5 + P) 42, s2, ?_, ?_, INV_go h F4 ?_ ?_ ?_ ?_ ⟨a - 1, P, l - 1, (q + 59) % 60, by omega, by omega, by omega, by omega, by omega, ?_, ?_, ?_, ?_, ?_, ?_, fun j hj => ?_, ?_⟩ ?_⟩
    · rw [g6, if_neg (fun z => c ((nI_eq (by omega) (by omega)).mp (z.trans nI_0.symm))), g8, of_30, nI_add, of_1, sub_nI (by omega), jrem_nI (by omega) (by omega) (by omega), show (p + 30 - 1) % 30 = P by omega, Option.bind_some, show (pkS s 22 0 3 (nI P)).1 22 0 2 = nI a by rw [pkS_v, if_neg (by omega), g6], sub_nI (by omega), ht1, Option.bind_some, k223, ix_nI (n := 30) (k := P) (by omega) (by omega), Option.bind_some, fc_copy43, ht2, Option.bind_some, k224, if_neg (nI_nle (by omega) (by omega)), k225, of_60, nI_add, sub_nI (by omega), jrem_nI (by omega) (by omega) (by omega), show (q + 60 - 1) % 60 = (q + 59) % 60 by omega, Option.bind_some, show (pkS t2 22 0 5 (nI ((q + 59) % 60))).1 22 0 4 = nI l by rw [pkS_v, if_neg (by omega), k224], sub_nI (by omega), hs1, Option.bind_some, Option.bind_some, ifT]
      unfold g_State_season
      rw [e21]
      unfold mxS
      rw [if_pos (Or.inl (by omega))]
    · unfold f_M_undo
      rw [k60, g7, if_neg (fun z => c ((nI_eq (by omega) (by omega)).mp (z.trans nI_0.symm))), of_1, sub_nI (by omega), Option.bind_some, show (pkS s1 60 0 55 (nI (a - 1))).1 60 0 57 = nI l by rw [pkS_v, if_neg (by omega), k60, g10], sub_nI (by omega), hm1, Option.bind_some, show m1.1 60 0 55 = nI (a - 1) by rw [← hm1, pkS_v, if_neg (by omega), pkS_v, if_pos ⟨rfl, rfl, rfl⟩], of_46, mul_nI, show Int32.ofInt 0 = bI false from rfl, a1, Option.bind_some, ← a2.2.2.2]
      unfold mxS
      rw [if_pos (Or.inl (by omega))]
    · rw [e3]; exact hv2
    · rw [e3, e21f]; exact a2
    · rw [a3.1 60 0 41 rfl, ← hm1, pkS_v, if_neg (by omega), pkS_v, if_neg (by omega), k60]
      exact h.1.2.2.2.2.2.2.2.1.1
    · rw [a3.1 60 0 42 rfl, ← hm1, pkS_v, if_neg (by omega), pkS_v, if_neg (by omega), k60]
      exact h.1.2.2.2.2.2.2.2.1.2
    · rw [k2, ← hs1, pkS_v, if_neg (by omega), pkS_v, if_neg (by omega), ← ht2, cpS_1, if_neg (by omega), k222]
    · rw [a3.1 60 0 55 rfl, ← hm1, pkS_v, if_neg (by omega), pkS_v, if_pos ⟨rfl, rfl, rfl⟩]
    · rw [k2, ← hs1, pkS_v, if_neg (by omega), pkS_v, if_neg (by omega), ← ht2, cpS_1, if_neg (by omega), k223]
    · rw [k2, ← hs1, pkS_v, if_pos ⟨rfl, rfl, rfl⟩]
    · rw [a3.1 60 0 57 rfl, ← hm1, pkS_v, if_pos ⟨rfl, rfl, rfl⟩]
    · rw [k2, ← hs1, pkS_v, if_neg (by omega), pkS_v, if_pos ⟨rfl, rfl, rfl⟩]
    · rw [e3, show (P + 30 - (a - 1) + j) % 30 = (p + 30 - a + j) % 30 by omega, eP]
      obtain ⟨z1, z2⟩ := g12 j (by omega)
      exact ⟨z1, SV_fr z2 ((a3.arr fun _ => rfl).trans m92)⟩
    · have e24 : s2.1 24 0 = s.1 24 0 := by
        rw [a3.arr fun _ => rfl, ← hm1, pkS_1, if_neg (by omega), pkS_1, if_neg (by omega), ← hs1, pkS_1, if_neg (by omega), pkS_1, if_neg (by omega), ← ht2, cpS_1, if_neg (by omega), ← ht1, pkS_1, if_neg (by omega), pkS_1, if_neg (by omega)]
      have e93 : s2.1 93 0 = s.1 93 0 := by
        rw [a3.arr fun _ => rfl, ← hm1, pkS_1, if_neg (by omega), pkS_1, if_neg (by omega), ← hs1, pkS_1, if_neg (by omega), pkS_1, if_neg (by omega), ← ht2, cpS_1, if_neg (by omega), ← ht1, pkS_1, if_neg (by omega), pkS_1, if_neg (by omega)]
      rw [e24, e93]
      intro j hj k hk
      rw [show ((q + 59) % 60 + 60 - (l - 1) + j) % 60 = (q + 60 - l + j) % 60 by omega]
      exact g13 j (by omega) k hk
    · rw [e3, e21f]
      intro b hb
      unfold mxS
      rw [if_neg (fun z => by rcases z with z | z; omega; cases z)]
      exact h.1.1.2 b hb
end
