/-! ===== calls that change little: pull, chance, end, chart, image, back ===== -/
section
variable {I T B R : Nat} {W : Option WF6} {s s' : S2} {K : Nat → Nat → Nat → Bool}
theorem iSea_fr (h : iSea I T B s) (hF : Fr K s s') (e : ∀ k, K 14 0 k = false ∧ K 15 0 k = false ∧ K 21 0 k = false ∧ K 75 0 k = false ∧ K 76 0 k = false ∧ K 77 0 k = false ∧ K 78 0 k = false ∧ K 79 0 k = false ∧ K 80 0 k = false ∧ K 81 0 k = false ∧ K 82 0 k = false ∧ K 83 0 k = false) (e6 : K 60 0 28 = false ∧ K 60 0 29 = false ∧ K 60 0 30 = false ∧ K 60 0 36 = false ∧ K 60 0 37 = false ∧ K 60 0 41 = false ∧ K 60 0 42 = false) : iSea I T B s' := by
  obtain ⟨h1, h2, h3, h4, h5, h6, h7, h8, h9⟩ := h
  obtain ⟨a28, a29, a30, a36, a37, a41, a42⟩ := e6
  have e14 : s'.1 14 0 = s.1 14 0 := hF.arr fun k => (e k).1
  have e15 : s'.1 15 0 = s.1 15 0 := hF.arr fun k => (e k).2.1
  have e21 : s'.1 21 0 = s.1 21 0 := hF.arr fun k => (e k).2.2.1
  have e75 : s'.1 75 0 = s.1 75 0 := hF.arr fun k => (e k).2.2.2.1
  have e76 : s'.1 76 0 = s.1 76 0 := hF.arr fun k => (e k).2.2.2.2.1
  have e77 : s'.1 77 0 = s.1 77 0 := hF.arr fun k => (e k).2.2.2.2.2.1
  have e78 : s'.1 78 0 = s.1 78 0 := hF.arr fun k => (e k).2.2.2.2.2.2.1
  have e79 : s'.1 79 0 = s.1 79 0 := hF.arr fun k => (e k).2.2.2.2.2.2.2.1
  have e80 : s'.1 80 0 = s.1 80 0 := hF.arr fun k => (e k).2.2.2.2.2.2.2.2.1
  have e81 : s'.1 81 0 = s.1 81 0 := hF.arr fun k => (e k).2.2.2.2.2.2.2.2.2.1
  have e82 : s'.1 82 0 = s.1 82 0 := hF.arr fun k => (e k).2.2.2.2.2.2.2.2.2.2.1
  have e83 : s'.1 83 0 = s.1 83 0 := hF.arr fun k => (e k).2.2.2.2.2.2.2.2.2.2.2
  refine ⟨⟨h1.1, by rw [e21]; exact h1.2⟩, ?_, ?_, ?_, ?_, ?_, ?_, ?_, ?_⟩
  · rw [e75]; exact h2
  · rw [e14]; exact h3
  · unfold CN at h4 ⊢; rw [e15]; exact h4
  · rw [e21]; exact h5
  · rw [hF.1 _ _ _ a28, hF.1 _ _ _ a29, hF.1 _ _ _ a30]; exact h6
  · unfold MR at h7 ⊢; rw [e14, e75, e76, e77, e78]; exact h7
  · rw [hF.1 _ _ _ a41, hF.1 _ _ _ a42]; exact h8
  · rw [e21]; exact RS_fr h9 e79 e80 e81 e82 e83 e76 e77 (hF.1 _ _ _ a36) (hF.1 _ _ _ a37)
theorem rule_m (hF : Fr K s s') (e : ∀ k, K 62 0 k = false ∧ K 63 0 k = false ∧ K 65 0 k = false ∧ K 66 0 k = false ∧ K 67 0 k = false ∧ K 68 0 k = false) (n : Nat) : mruleN n s s' := mruleN_of ⟨hF.arr fun k => (e k).1, hF.arr fun k => (e k).2.1, hF.arr fun k => (e k).2.2.1, hF.arr fun k => (e k).2.2.2.1, hF.arr fun k => (e k).2.2.2.2.1, hF.arr fun k => (e k).2.2.2.2.2⟩
theorem HLD_fk (h : HLD R W s) (hF : Fr K s s') (e : ∀ k, K 62 0 k = false ∧ K 63 0 k = false ∧ K 65 0 k = false ∧ K 66 0 k = false ∧ K 67 0 k = false ∧ K 68 0 k = false) (e1 : ∀ n k, K 17 n k = false ∧ K 18 n k = false) (e2 : K 60 0 40 = false ∧ K 31 0 11 = false) : HLD R W s' :=
  HLD_fr h (hF.1 _ _ _ e2.1) (hF.1 _ _ _ e2.2) (fun n _ => hF.arr fun k => (e1 n k).1) (fun n _ => hF.arr fun k => (e1 n k).2) fun n _ => rule_m hF e n
theorem iRule_fk (h : iRule R s) (hF : Fr K s s') (e : ∀ k, K 62 0 k = false ∧ K 63 0 k = false ∧ K 65 0 k = false ∧ K 66 0 k = false ∧ K 67 0 k = false ∧ K 68 0 k = false) (e1 : ∀ n k, K 17 n k = false ∧ K 18 n k = false) (e2 : K 10 0 14 = false ∧ K 60 0 13 = false ∧ K 10 0 15 = false ∧ K 60 0 40 = false) : iRule R s' :=
  iRule_fr h (hF.1 _ _ _ e2.1) (hF.1 _ _ _ e2.2.1) (hF.1 _ _ _ e2.2.2.1) (hF.1 _ _ _ e2.2.2.2) (fun n _ => hF.arr fun k => (e1 n k).1) (fun n _ => hF.arr fun k => (e1 n k).2) fun n _ => rule_m hF e n
theorem iTape_fk (h : iTape s) (hF : Fr K s s') (e : ∀ k, K 12 0 k = false ∧ K 61 0 k = false) (e1 : K 11 0 1 = false ∧ K 60 0 2 = false) : iTape s' := by
  unfold iTape at h ⊢
  rw [hF.1 _ _ _ e1.1, hF.1 _ _ _ e1.2, hF.arr fun k => (e k).1, hF.arr fun k => (e k).2]
  exact h
theorem iPast_fk (h : iPast I T B s) (hF : Fr K s s') (e : ∀ k, K 22 0 k = false ∧ K 24 0 k = false ∧ K 92 0 k = false ∧ K 93 0 k = false) (e1 : ∀ i k, K 21 (5 + i) k = false) (e2 : K 60 0 55 = false ∧ K 60 0 57 = false) : iPast I T B s' := by
  obtain ⟨a, p, l, q, g1, g2, g3, g4, g5, g6, g7, g8, g9, g10, g11, g12, g13⟩ := h
  refine ⟨a, p, l, q, g1, g2, g3, g4, g5, ?_⟩
  rw [hF.arr fun k => (e k).1, hF.1 _ _ _ e2.1, hF.1 _ _ _ e2.2, hF.arr fun k => (e k).2.1, hF.arr fun k => (e k).2.2.2]
  refine ⟨g6, g7, g8, g9, g10, g11, fun j hj => ?_, g13⟩
  unfold SV
  rw [hF.arr fun k => e1 ((p + 30 - a + j) % 30) k, hF.arr fun k => (e k).2.2.1]
  exact g12 j hj
theorem iWea_fk (h : iWea s) (hF : Fr K s s') (e : K 25 0 0 = false ∧ K 25 0 1 = false ∧ K 60 0 38 = false ∧ K 60 0 39 = false) : iWea s' := by
  unfold iWea at h ⊢
  rw [hF.1 _ _ _ e.1, hF.1 _ _ _ e.2.1, hF.1 _ _ _ e.2.2.1, hF.1 _ _ _ e.2.2.2]
  exact h
theorem iImg_fk (h : iImg I T B s) (hF : Fr K s s') (e : ∀ k, K 21 1 k = false ∧ K 101 0 k = false) (e1 : K 10 0 16 = false ∧ K 60 0 78 = false) : iImg I T B s' := by
  unfold iImg SV at h ⊢
  rw [hF.1 _ _ _ e1.1, hF.1 _ _ _ e1.2, hF.arr fun k => (e k).1, hF.arr fun k => (e k).2]
  exact h
theorem iCha_fk (h : iCha I s) (hF : Fr K s s') (e : ∀ k, K 50 0 k = false ∧ K 51 0 k = false ∧ K 52 0 k = false ∧ K 53 0 k = false ∧ K 97 0 k = false ∧ K 98 0 k = false ∧ K 99 0 k = false ∧ K 100 0 k = false) (e1 : K 49 0 8 = false ∧ K 60 0 76 = false) : iCha I s' := by
  unfold iCha at h ⊢
  rw [hF.1 _ _ _ e1.1, hF.1 _ _ _ e1.2, hF.arr fun k => (e k).1, hF.arr fun k => (e k).2.1, hF.arr fun k => (e k).2.2.1, hF.arr fun k => (e k).2.2.2.1, hF.arr fun k => (e k).2.2.2.2.1, hF.arr fun k => (e k).2.2.2.2.2.1, hF.arr fun k => (e k).2.2.2.2.2.2.1, hF.arr fun k => (e k).2.2.2.2.2.2.2]
  exact h
theorem inS_m1 {x : Int32} {n : Nat} (h : inS x (-1) (nI n - nI 1) = true) (hn : n < 2 ^ 31) : x = -1 ∨ ∃ j, j < n ∧ x = nI j := by
  have ⟨h1, h2⟩ := of_decide_eq_true h
  by_cases c : x < 0
  · left
    have g1 := Int32.le_iff_toInt_le.mp h1
    have g2 := Int32.lt_iff_toInt_lt.mp c
    rw [show (-1 : Int32).toInt = -1 from by decide] at g1
    rw [show (0 : Int32).toInt = 0 from by decide] at g2
    exact Int32.toInt_inj.mp (by rw [show (-1 : Int32).toInt = -1 from by decide]; omega)
  · right
    exact inS_nI (decide_eq_true ⟨Int32.not_lt.mp c, h2⟩) hn
def Kpu (c _ k : Nat) : Bool := (c == 10 && k == 15) || ((c == 31 && k == 11) || (c == 60 && k == 40))
theorem INV_pull {x e : Int32} (h : INV I T B R W s) {W' : Option WF6} (hw : HLD R W' (pkS (pkS (pkS s 10 0 15 x) 31 0 11 e) 60 0 40 x)) : INV I T B R W' (pkS (pkS (pkS s 10 0 15 x) 31 0 11 e) 60 0 40 x) := by
  obtain ⟨h1, h2, h3, h4, h5, h6, h7, h8⟩ := h
  have hF : Fr Kpu s (pkS (pkS (pkS s 10 0 15 x) 31 0 11 e) 60 0 40 x) := (((Fr.refl _ s).pk' x rfl).pk' e rfl).pk' x rfl
  have e10 : (pkS (pkS (pkS s 10 0 15 x) 31 0 11 e) 60 0 40 x).1 10 0 15 = (pkS (pkS (pkS s 10 0 15 x) 31 0 11 e) 60 0 40 x).1 60 0 40 := by
    rw [pkS_v, if_neg (by omega), pkS_v, if_neg (by omega), pkS_v, if_pos ⟨rfl, rfl, rfl⟩, pkS_v, if_pos ⟨rfl, rfl, rfl⟩]
  refine ⟨iSea_fr h1 hF (fun _ => ⟨rfl, rfl, rfl, rfl, rfl, rfl, rfl, rfl, rfl, rfl, rfl, rfl⟩) ⟨rfl, rfl, rfl, rfl, rfl, rfl, rfl⟩, hw, iTape_fk h3 hF (fun _ => ⟨rfl, rfl⟩) ⟨rfl, rfl⟩, ?_, iPast_fk h5 hF (fun _ => ⟨rfl, rfl, rfl, rfl⟩) (fun _ _ => rfl) ⟨rfl, rfl⟩, iWea_fk h6 hF ⟨rfl, rfl, rfl, rfl⟩, iImg_fk h7 hF (fun _ => ⟨rfl, rfl⟩) ⟨rfl, rfl⟩, iCha_fk h8 hF (fun _ => ⟨rfl, rfl, rfl, rfl, rfl, rfl, rfl, rfl⟩) ⟨rfl, rfl⟩⟩
  obtain ⟨g1, g2, g3, g4, g5⟩ := h4
  have hm := rule_m (K := Kpu) hF (fun _ => ⟨rfl, rfl, rfl, rfl, rfl, rfl⟩)
  refine ⟨g1, (hF.1 _ _ _ rfl).trans g2, (hF.1 _ _ _ rfl).trans g3, e10, fun n hn => ?_⟩
  obtain ⟨w, k1, k2⟩ := g5 n hn
  exact ⟨w, fun s'' q1 q2 => k1 s'' (q1.trans (hF.arr fun _ => rfl)) (q2.trans (hF.arr fun _ => rfl)), fun s'' q => k2 s'' (mruleN_tr (hm n) q)⟩
theorem q_pull (h : INV I T B R W s) (x : Int32) : ∃ s1 r s2 W', f_D_pull x s = some (s1, r) ∧ f_M_pull x s1 = some (s2, r) ∧ INV I T B R W' s2 := by
  have hR := h.2.2.2.1
  obtain ⟨g1, g2, g3, g4, g5⟩ := hR
  unfold f_D_pull
  rw [g_D_isWithin_eq, g2, of_1, of_m1]
  cases c1 : inS x (-1) (nI R - nI 1) with
  | false =>
    refine ⟨s, _, s, W, by rw [ifF], ?_, h⟩
    unfold f_M_pull
    rw [g_M_in_eq, g3, of_1, of_m1, c1, ifF]
  | true =>
    have hs : ∀ e, (pkS (pkS s 10 0 15 x) 31 0 11 e).1 60 0 13 = nI R := fun e => by
      rw [pkS_v, if_neg (by omega), pkS_v, if_neg (by omega), g3]
    have hM : ∀ e, f_M_pull x (pkS (pkS s 10 0 15 x) 31 0 11 e) = some (pkS (pkS (pkS s 10 0 15 x) 31 0 11 e) 60 0 40 x, true) := fun e => by
      unfold f_M_pull
      rw [g_M_in_eq, hs, of_1, of_m1, c1, ifT]
      rfl
    rcases inS_m1 c1 (by omega) with rfl | ⟨n, n1, rfl⟩
    · refine ⟨pkS (pkS s 10 0 15 (-1)) 31 0 11 0, true, pkS (pkS (pkS s 10 0 15 (-1)) 31 0 11 0) 60 0 40 (-1), none, ?_, hM 0, INV_pull h ⟨?_, ?_⟩⟩
      · rw [ifT, Option.bind_some, g_D_isWithin_eq, show inS (-1) (Int32.ofInt 0) (Int32.ofInt 3) = false by decide, ifF]
        rfl
      · rw [pkS_v, if_pos ⟨rfl, rfl, rfl⟩]
      · rw [pkS_v, if_neg (by omega), pkS_v, if_pos ⟨rfl, rfl, rfl⟩]
        rfl
    · have n4 : n < 4 := by omega
      obtain ⟨w, k1, k2⟩ := g5 n n1
      refine ⟨pkS (pkS s 10 0 15 (nI n)) 31 0 11 (nI (n + 1)), true, pkS (pkS (pkS s 10 0 15 (nI n)) 31 0 11 (nI (n + 1))) 60 0 40 (nI n), some w, ?_, hM _, INV_pull h ⟨n, n1, ?_, ?_, ?_, ?_⟩⟩
      · rw [ifT, Option.bind_some, g_D_isWithin_eq, show inS (nI n) (Int32.ofInt 0) (Int32.ofInt 3) = true from by rcases (show n = 0 ∨ n = 1 ∨ n = 2 ∨ n = 3 by omega) with rfl | rfl | rfl | rfl <;> decide, ifT, ix_nI (n := 4) (k := n) (by omega) (by omega), Option.bind_some]
        rfl
      · rw [pkS_v, if_pos ⟨rfl, rfl, rfl⟩]
      · rw [pkS_v, if_neg (by omega), pkS_v, if_pos ⟨rfl, rfl, rfl⟩]
        rcases (show n = 0 ∨ n = 1 ∨ n = 2 ∨ n = 3 by omega) with rfl | rfl | rfl | rfl <;> decide
      · have hF : Fr Kpu s (pkS (pkS (pkS s 10 0 15 (nI n)) 31 0 11 (nI (n + 1))) 60 0 40 (nI n)) := (((Fr.refl _ s).pk' _ rfl).pk' _ rfl).pk' _ rfl
        exact fun s'' q1 q2 => k1 s'' (q1.trans (hF.arr fun _ => rfl)) (q2.trans (hF.arr fun _ => rfl))
      · have hF : Fr Kpu s (pkS (pkS (pkS s 10 0 15 (nI n)) 31 0 11 (nI (n + 1))) 60 0 40 (nI n)) := (((Fr.refl _ s).pk' _ rfl).pk' _ rfl).pk' _ rfl
        exact fun s'' q => k2 s'' (mruleN_tr (rule_m hF (fun _ => ⟨rfl, rfl, rfl, rfl, rfl, rfl⟩) n) q)
end
