/-! ===== feed, the reference and both ===== -/
section
variable {a b c d e : Int32}
theorem fm_feedW : ∀ (m k fu : Nat) (s : S2) (z : Nat × (Nat → Int32)), k + m = 20 → m < fu → tpM z s → z.1 + ntT a b c d e m k ≤ 240 → ∃ s', f_M_feed_L62 fu a b c d e (nI k) s = some (s', nI (apT a b c d e m k z).1) ∧ tpM (apT a b c d e m k z) s' ∧ Fr Kfm s s' := by
  intro m
  induction m with
  | zero =>
    intro k fu s z hk hf hz hn
    obtain ⟨f, rfl, hf'⟩ := suc_of hf
    refine ⟨s, ?_, hz, Fr.refl _ s⟩
    show b_M_feed_L62 _ _ _ _ _ _ _ _ = _
    unfold b_M_feed_L62
    rw [of_20, if_pos (nI_le (by omega) (by omega)), hz.1]
    rfl
  | succ m ih =>
    intro k fu s z hk hf hz hn
    obtain ⟨f, rfl, hf'⟩ := suc_lt hf
    obtain ⟨z1, z2⟩ := hz
    have hn' : z.1 + ((if byW (woS a b c d e k) (k % 4) = 0 then 0 else 1) + ntT a b c d e m (k + 1)) ≤ 240 := hn
    show ∃ s', b_M_feed_L62 _ _ _ _ _ _ _ _ = some (s', nI (apT a b c d e m (k + 1) (apB z (byW (woS a b c d e k) (k % 4)))).1) ∧ tpM (apT a b c d e m (k + 1) (apB z (byW (woS a b c d e k) (k % 4)))) s' ∧ _
    unfold b_M_feed_L62 f_M_feed_L109
    rw [of_20, if_neg (nI_ge (by omega) (by omega)), m_byteOf a b c d e (by omega), of_1, nI_add]
    unfold apB
    by_cases c1 : byW (woS a b c d e k) (k % 4) = 0
    · rw [if_pos c1] at hn'
      rw [if_pos c1, if_pos c1]
      exact ih (k + 1) f s z (by omega) hf' ⟨z1, z2⟩ (by omega)
    · rw [if_neg c1] at hn'
      rw [if_neg c1, if_neg c1, z1, ix_nI (n := 240) (k := z.1) (by omega) (by omega), Option.bind_some, Option.bind_some, show (pkS s 61 0 z.1 (byW (woS a b c d e k) (k % 4))).1 60 0 2 = nI z.1 by rw [pkS_v, if_neg (by omega), z1], nI_add, Option.bind_some]
      obtain ⟨s', g1, g2, g3⟩ := ih (k + 1) f (pkS (pkS s 61 0 z.1 (byW (woS a b c d e k) (k % 4))) 60 0 2 (nI (z.1 + 1))) (z.1 + 1, upd z.2 z.1 (byW (woS a b c d e k) (k % 4))) (by omega) hf' ⟨by rw [pkS_v, if_pos ⟨rfl, rfl, rfl⟩], fun j hj => by
        rw [pkS_v, if_neg (by omega)]
        show _ = upd z.2 z.1 (byW (woS a b c d e k) (k % 4)) j
        by_cases cj : j = z.1
        · rw [cj, upd_eq, pkS_v, if_pos ⟨rfl, rfl, rfl⟩]
        · rw [upd_ne _ _ cj, pkS_v, if_neg (by omega)]
          exact z2 j (by have : j < z.1 + 1 := hj; omega)⟩ (by
        show z.1 + 1 + ntT a b c d e m (k + 1) ≤ 240
        omega)
      exact ⟨s', g1, g2, (((Fr.refl _ s).pk' _ rfl).pk' _ rfl).trans g3⟩
theorem ntT_le : ∀ m k, ntT a b c d e m k ≤ m := by
  intro m
  induction m with
  | zero => intro k; exact Nat.le_refl 0
  | succ m ih =>
    intro k
    have := ih (k + 1)
    show (if byW (woS a b c d e k) (k % 4) = 0 then 0 else 1) + ntT a b c d e m (k + 1) ≤ m + 1
    split <;> omega
theorem fm_feedN {s : S2} {n : Nat} (hn : n ≤ 240) (h2 : s.1 60 0 2 = nI n) : ∀ (m k fu q : Nat), k + m = 20 → q ≤ k → m < fu → f_M_feed_L6 fu a b c d e (nI q) (nI k) s = if n + (q + ntT a b c d e m k) ≤ 240 then f_M_feed_L62 FU a b c d e (nI 0) s else some (s, -1) := by
  intro m
  induction m with
  | zero =>
    intro k fu q hk hq hf
    obtain ⟨f, rfl, hf'⟩ := suc_of hf
    show b_M_feed_L6 _ _ _ _ _ _ _ _ _ = (if n + (q + 0) ≤ 240 then _ else _)
    unfold b_M_feed_L6
    rw [of_20, if_pos (nI_le (by omega) (by omega)), h2, nI_add, of_240, of_m1, show Int32.ofInt 0 = nI 0 from of_0, Nat.add_zero]
    by_cases c : n + q ≤ 240
    · rw [if_pos c, if_pos (nI_le c (by omega))]
    · rw [if_neg c, if_neg (nI_ge (by omega) (by omega))]
  | succ m ih =>
    intro k fu q hk hq hf
    obtain ⟨f, rfl, hf'⟩ := suc_lt hf
    show b_M_feed_L6 _ _ _ _ _ _ _ _ _ = (if n + (q + ((if byW (woS a b c d e k) (k % 4) = 0 then 0 else 1) + ntT a b c d e m (k + 1))) ≤ 240 then _ else _)
    unfold b_M_feed_L6 f_M_feed_L35
    rw [of_20, if_neg (nI_ge (by omega) (by omega)), m_byteOf a b c d e (by omega), of_1, nI_add, nI_add, of_0, Int32.add_zero]
    by_cases c1 : byW (woS a b c d e k) (k % 4) = 0
    · rw [if_pos c1, if_pos c1, ih (k + 1) f q (by omega) (by omega) hf', Nat.zero_add]
    · rw [if_neg c1, if_neg c1, ih (k + 1) f (q + 1) (by omega) (by omega) hf', Nat.add_assoc]
end
theorem nbW_le (x : Int32) : ∀ m k, nbW x m k ≤ m := by
  intro m
  induction m with
  | zero => intro k; exact Nat.le_refl 0
  | succ m ih =>
    intro k
    have := ih (k + 1)
    show (if byW x k = 0 then 0 else 1) + nbW x m (k + 1) ≤ m + 1
    split <;> omega
def gBy (z : Nat × (Nat → Int32)) : Prop := ∀ j, j < z.1 → ∃ b : Nat, 0 < b ∧ b < 256 ∧ z.2 j = nI b
theorem gBy_W (x : Int32) : ∀ m k z, gBy z → gBy (apW x m k z) := by
  intro m
  induction m with
  | zero => intro k z h; exact h
  | succ m ih =>
    intro k z h
    refine ih (k + 1) _ ?_
    unfold apB
    by_cases c : byW x k = 0
    · rw [if_pos c]; exact h
    · rw [if_neg c]
      intro j hj
      show ∃ b : Nat, 0 < b ∧ b < 256 ∧ upd z.2 z.1 (byW x k) j = nI b
      by_cases cj : j = z.1
      · obtain ⟨b, b1, b2⟩ := byW_lt x k
        rw [cj, upd_eq]
        refine ⟨b, ?_, b1, b2⟩
        rcases Nat.eq_zero_or_pos b with e | e
        · rw [e] at b2
          exact absurd (b2.trans nI_0) c
        · exact e
      · rw [upd_ne _ _ cj]
        exact h j (by have : j < z.1 + 1 := hj; omega)
def Kfe (c _ k : Nat) : Bool := c == 12 || ((c == 11 && k == 1) || (c == 61 || (c == 60 && k == 2)))
theorem q_feed {I T B R : Nat} {W : Option WF6} {s : S2} (h : INV I T B R W s) (a b c d e : Int32) : ∃ s1 r s2, f_D_feed a b c d e s = some (s1, r) ∧ f_M_feed a b c d e s1 = some (s2, r) ∧ INV I T B R W s2 := by
  obtain ⟨n, n1, n2, n3, n4⟩ := h.2.2.1
  have l1 := nbW_le a 4 0
  have l2 := nbW_le b 4 0
  have l3 := nbW_le c 4 0
  have l4 := nbW_le d 4 0
  have l5 := nbW_le e 4 0
  have e20 := ntT_20 (a := a) (b := b) (c := c) (d := d) (e := e)
  have hM : ∀ t : S2, t.1 60 0 2 = nI n → f_M_feed a b c d e t = if n + ntT a b c d e 20 0 ≤ 240 then f_M_feed_L62 FU a b c d e (nI 0) t else some (t, -1) := fun t ht => by
    have := fm_feedN (a := a) (b := b) (c := c) (d := d) (e := e) n1 ht 20 0 FU 0 (by omega) (by omega) (lt_FU (by omega))
    rw [Nat.zero_add] at this
    unfold f_M_feed
    rw [show Int32.ofInt 0 = nI 0 from of_0]
    exact this
  unfold f_D_feed g_Tape_length
  rw [fc_bytesIn, Option.bind_some, fc_bytesIn, Option.bind_some, fc_bytesIn, Option.bind_some, fc_bytesIn, Option.bind_some, fc_bytesIn, Option.bind_some, n2, nI_add, nI_add, nI_add, nI_add, nI_add, of_240, of_m1]
  by_cases hc : n + (nbW a 4 0 + nbW b 4 0 + nbW c 4 0 + nbW d 4 0 + nbW e 4 0) ≤ 240
  · rw [if_pos (nI_le hc (by omega))]
    have z0 : tpC (n, s.1 61 0) s := ⟨n2, fun j hj => (n4 j hj).1⟩
    obtain ⟨s1, p1, p2, p3⟩ := fc_add a z0 (show n + nbW a 4 0 ≤ 240 by omega)
    have w1 := apW_1 a 4 0 (n, s.1 61 0)
    obtain ⟨s2, q1, q2, q3⟩ := fc_add b p2 (by rw [w1]; show n + nbW a 4 0 + nbW b 4 0 ≤ 240; omega)
    have w2 := apW_1 b 4 0 (apW a 4 0 (n, s.1 61 0))
    obtain ⟨s3, r1, r2, r3⟩ := fc_add c q2 (by rw [w2, w1]; show n + nbW a 4 0 + nbW b 4 0 + nbW c 4 0 ≤ 240; omega)
    have w3 := apW_1 c 4 0 (apW b 4 0 (apW a 4 0 (n, s.1 61 0)))
    obtain ⟨s4, t1, t2, t3⟩ := fc_add d r2 (by rw [w3, w2, w1]; show n + nbW a 4 0 + nbW b 4 0 + nbW c 4 0 + nbW d 4 0 ≤ 240; omega)
    have w4 := apW_1 d 4 0 (apW c 4 0 (apW b 4 0 (apW a 4 0 (n, s.1 61 0))))
    obtain ⟨s5, u1, u2, u3⟩ := fc_add e t2 (by rw [w4, w3, w2, w1]; show n + nbW a 4 0 + nbW b 4 0 + nbW c 4 0 + nbW d 4 0 + nbW e 4 0 ≤ 240; omega)
    have w5 := apW_1 e 4 0 (apW d 4 0 (apW c 4 0 (apW b 4 0 (apW a 4 0 (n, s.1 61 0)))))
    have F : Fr Kta s s5 := (((p3.trans q3).trans r3).trans t3).trans u3
    have x61 : s5.1 61 0 = s.1 61 0 := F.arr fun _ => rfl
    have x2 : s5.1 60 0 2 = nI n := (F.1 _ _ _ rfl).trans n3
    obtain ⟨s6, v1, v2, v3⟩ := fm_feedW (a := a) (b := b) (c := c) (d := d) (e := e) 20 0 FU s5 (n, s.1 61 0) (by omega) (lt_FU (by omega)) ⟨x2, fun j _ => by rw [x61]⟩ (by rw [e20]; show n + _ ≤ 240; omega)
    have hG : gBy (apT a b c d e 20 0 (n, s.1 61 0)) := by
      rw [apT_20]
      exact gBy_W e 4 0 _ (gBy_W d 4 0 _ (gBy_W c 4 0 _ (gBy_W b 4 0 _ (gBy_W a 4 0 _ fun j hj => (n4 j hj).2))))
    have hz : (apT a b c d e 20 0 (n, s.1 61 0)).1 ≤ 240 := by
      rw [apT_20, w5, w4, w3, w2, w1]
      show n + nbW a 4 0 + nbW b 4 0 + nbW c 4 0 + nbW d 4 0 + nbW e 4 0 ≤ 240
      omega
    rw [← apT_20] at u2
    have F2 : Fr Kfe s s6 := (F.mono fun c i k hk => by
      unfold Kfe at hk
      unfold Kta
      simp only [Bool.or_eq_false_iff] at hk ⊢
      exact ⟨hk.1, hk.2.1⟩).trans (v3.mono fun c i k hk => by
      unfold Kfe at hk
      unfold Kfm
      simp only [Bool.or_eq_false_iff] at hk ⊢
      exact hk.2.2)
    refine ⟨s5, nI (apT a b c d e 20 0 (n, s.1 61 0)).1, s6, ?_, ?_, ?_⟩
    · rw [p1, Option.bind_some, q1, Option.bind_some, r1, Option.bind_some, t1, Option.bind_some, u1, Option.bind_some, u2.1]
    · rw [hM s5 x2, if_pos (by rw [e20]; omega), v1]
    · obtain ⟨h1, h2, h3, h4, h5, h6, h7, h8⟩ := h
      refine ⟨iSea_fr h1 F2 (fun _ => ⟨rfl, rfl, rfl, rfl, rfl, rfl, rfl, rfl, rfl, rfl, rfl, rfl⟩) ⟨rfl, rfl, rfl, rfl, rfl, rfl, rfl⟩, HLD_fk h2 F2 (fun _ => ⟨rfl, rfl, rfl, rfl, rfl, rfl⟩) (fun _ _ => ⟨rfl, rfl⟩) ⟨rfl, rfl⟩, ⟨(apT a b c d e 20 0 (n, s.1 61 0)).1, hz, (v3.1 _ _ _ rfl).trans u2.1, v2.1, fun k hk => ⟨?_, ?_⟩⟩, iRule_fk h4 F2 (fun _ => ⟨rfl, rfl, rfl, rfl, rfl, rfl⟩) (fun _ _ => ⟨rfl, rfl⟩) ⟨rfl, rfl, rfl, rfl⟩, iPast_fk h5 F2 (fun _ => ⟨rfl, rfl, rfl, rfl⟩) (fun _ _ => rfl) ⟨rfl, rfl⟩, iWea_fk h6 F2 ⟨rfl, rfl, rfl, rfl⟩, iImg_fk h7 F2 (fun _ => ⟨rfl, rfl⟩) ⟨rfl, rfl⟩, iCha_fk h8 F2 (fun _ => ⟨rfl, rfl, rfl, rfl, rfl, rfl, rfl, rfl⟩) ⟨rfl, rfl⟩⟩
      · rw [v3.1 12 0 k rfl, u2.2 k hk, v2.2 k hk]
      · obtain ⟨y, y1, y2, y3⟩ := hG k hk
        exact ⟨y, y1, y2, (v2.2 k hk).trans y3⟩
  · rw [if_neg (nI_ge (by omega) (by omega))]
    refine ⟨s, -1, s, rfl, ?_, h⟩
    rw [hM s n3, if_neg (by rw [e20]; omega)]
