/-! ===== chance, end, chart, image ===== -/
section
variable {I T B R : Nat} {W : Option WF6} {s s' : S2}
def Kch (c _ k : Nat) : Bool := (c == 25 && (k == 0 || k == 1)) || (c == 60 && (k == 38 || k == 39))
theorem INV_wea (h : INV I T B R W s) (hF : Fr Kch s s') (hw : iWea s') : INV I T B R W s' := by
  obtain ⟨h1, h2, h3, h4, h5, h6, h7, h8⟩ := h
  exact ⟨iSea_fr h1 hF (fun _ => ⟨rfl, rfl, rfl, rfl, rfl, rfl, rfl, rfl, rfl, rfl, rfl, rfl⟩) ⟨rfl, rfl, rfl, rfl, rfl, rfl, rfl⟩, HLD_fk h2 hF (fun _ => ⟨rfl, rfl, rfl, rfl, rfl, rfl⟩) (fun _ _ => ⟨rfl, rfl⟩) ⟨rfl, rfl⟩, iTape_fk h3 hF (fun _ => ⟨rfl, rfl⟩) ⟨rfl, rfl⟩, iRule_fk h4 hF (fun _ => ⟨rfl, rfl, rfl, rfl, rfl, rfl⟩) (fun _ _ => ⟨rfl, rfl⟩) ⟨rfl, rfl, rfl, rfl⟩, iPast_fk h5 hF (fun _ => ⟨rfl, rfl, rfl, rfl⟩) (fun _ _ => rfl) ⟨rfl, rfl⟩, hw, iImg_fk h7 hF (fun _ => ⟨rfl, rfl⟩) ⟨rfl, rfl⟩, iCha_fk h8 hF (fun _ => ⟨rfl, rfl, rfl, rfl, rfl, rfl, rfl, rfl⟩) ⟨rfl, rfl⟩⟩
theorem q_chance (h : INV I T B R W s) (x y : Int32) : ∃ s1 r s2, f_D_chance x y s = some (s1, r) ∧ f_M_chance x y s1 = some (s2, r) ∧ INV I T B R W s2 := by
  obtain ⟨w0, w1⟩ := h.2.2.2.2.2.1
  unfold f_D_chance
  rw [g_D_isWithin_eq, show Int32.ofInt 0 = nI 0 from of_0]
  cases c2 : inS y (nI 0) (Int32.ofInt 99) with
  | false =>
    refine ⟨s, false, s, by rw [ifF], ?_, h⟩
    unfold f_M_chance
    rw [g_M_in_eq, g_M_in_eq, show Int32.ofInt 0 = nI 0 from of_0, c2, ifF]
    split <;> rfl
  | true =>
    rw [ifT]
    unfold f_Weather_tell f_Weather_tell_L19
    by_cases c0 : x = 0
    · subst c0
      rw [if_pos rfl, of_1, if_neg (show ¬ (0 : Int32) = nI 1 by decide)]
      by_cases e : s.1 25 0 0 = y
      · refine ⟨s, false, s, by rw [if_pos e, Option.bind_some, ifF], ?_, h⟩
        unfold f_M_chance f_M_chance_L35
        rw [g_M_in_eq, g_M_in_eq, show Int32.ofInt 0 = nI 0 from of_0, c2, of_1, show inS 0 (nI 0) (nI 1) = true by decide, ifT, ifT, if_pos rfl, ← w0, if_pos e.symm]
      · have h38 : (pkS s 25 0 0 y).1 60 0 38 = s.1 25 0 0 := by rw [pkS_v, if_neg (by omega), w0]
        refine ⟨pkS s 25 0 0 y, true, pkS (pkS (pkS s 25 0 0 y) 60 0 38 y) 60 0 39 ((pkS (pkS s 25 0 0 y) 60 0 38 y).1 60 0 39), by rw [if_neg e, Option.bind_some, Option.bind_some, ifT], ?_, INV_wea h ((((Fr.refl _ s).pk' _ rfl).pk' _ rfl).pk' _ rfl) ⟨?_, ?_⟩⟩
        · unfold f_M_chance f_M_chance_L35 f_M_chance_L53 f_M_chance_L70
          rw [g_M_in_eq, g_M_in_eq, show Int32.ofInt 0 = nI 0 from of_0, c2, of_1, show inS 0 (nI 0) (nI 1) = true by decide, ifT, ifT, if_pos rfl, h38, if_neg (fun z => e z.symm), if_pos rfl, Option.bind_some, if_neg (show ¬ (0 : Int32) = nI 1 by decide)]
          rfl
        · rw [pkS_v, if_neg (by omega), pkS_v, if_neg (by omega), pkS_v, if_pos ⟨rfl, rfl, rfl⟩, pkS_v, if_neg (by omega), pkS_v, if_pos ⟨rfl, rfl, rfl⟩]
        · rw [pkS_v, if_neg (by omega), pkS_v, if_neg (by omega), pkS_v, if_neg (by omega), pkS_v, if_pos ⟨rfl, rfl, rfl⟩, pkS_v, if_neg (by omega), pkS_v, if_neg (by omega)]
          exact w1
    · rw [if_neg c0, of_1]
      by_cases c1 : x = nI 1
      · subst c1
        rw [if_pos rfl]
        by_cases e : s.1 25 0 1 = y
        · refine ⟨s, false, s, by rw [if_pos e, Option.bind_some, ifF], ?_, h⟩
          unfold f_M_chance f_M_chance_L35
          rw [g_M_in_eq, g_M_in_eq, show Int32.ofInt 0 = nI 0 from of_0, c2, of_1, show inS (nI 1) (nI 0) (nI 1) = true by decide, ifT, ifT, if_neg c0, ← w1, if_pos e.symm]
        · have h39 : (pkS s 25 0 1 y).1 60 0 39 = s.1 25 0 1 := by rw [pkS_v, if_neg (by omega), w1]
          refine ⟨pkS s 25 0 1 y, true, pkS (pkS (pkS s 25 0 1 y) 60 0 38 ((pkS s 25 0 1 y).1 60 0 38)) 60 0 39 y, by rw [if_neg e, Option.bind_some, Option.bind_some, ifT], ?_, INV_wea h ((((Fr.refl _ s).pk' _ rfl).pk' _ rfl).pk' _ rfl) ⟨?_, ?_⟩⟩
          · unfold f_M_chance f_M_chance_L35 f_M_chance_L53 f_M_chance_L70
            rw [g_M_in_eq, g_M_in_eq, show Int32.ofInt 0 = nI 0 from of_0, c2, of_1, show inS (nI 1) (nI 0) (nI 1) = true by decide, ifT, ifT, if_neg c0, h39, if_neg (fun z => e z.symm), if_neg c0, Option.bind_some, if_pos rfl]
            rfl
          · rw [pkS_v, if_neg (by omega), pkS_v, if_neg (by omega), pkS_v, if_neg (by omega), pkS_v, if_neg (by omega), pkS_v, if_pos ⟨rfl, rfl, rfl⟩, pkS_v, if_neg (by omega)]
            exact w0
          · rw [pkS_v, if_neg (by omega), pkS_v, if_neg (by omega), pkS_v, if_pos ⟨rfl, rfl, rfl⟩, pkS_v, if_pos ⟨rfl, rfl, rfl⟩]
      · refine ⟨s, false, s, by rw [if_neg c1, Option.bind_some, ifF], ?_, h⟩
        unfold f_M_chance
        rw [g_M_in_eq, show Int32.ofInt 0 = nI 0 from of_0, of_1]
        have : inS x (nI 0) (nI 1) = false := by
          cases q : inS x (nI 0) (nI 1) with
          | false => rfl
          | true =>
            exfalso
            obtain ⟨j, -, j2, rfl⟩ := inS_lit q (by omega) (by omega)
            rcases (show j = 0 ∨ j = 1 by omega) with rfl | rfl
            · exact c0 nI_0
            · exact c1 rfl
        rw [this, ifF]
def Ken (c _ k : Nat) : Bool := (c == 11 && k == 1) || (c == 60 && k == 2)
theorem q_end (h : INV I T B R W s) (x : Int32) : ∃ s1 r s2, f_D_end x s = some (s1, r) ∧ f_M_end x s1 = some (s2, r) ∧ INV I T B R W s2 := by
  obtain ⟨n, n1, n2, n3, n4⟩ := h.2.2.1
  unfold f_D_end g_Tape_length
  rw [g_D_isWithin_eq, n2, show Int32.ofInt 0 = nI 0 from of_0]
  cases c : inS x (nI 0) (nI n) with
  | false =>
    refine ⟨s, false, s, by rw [ifF], ?_, h⟩
    unfold f_M_end
    rw [n3]
    by_cases c1 : x < 0
    · rw [if_pos c1]
    · rw [if_neg c1]
      by_cases c2 : x ≤ nI n
      · exfalso
        have : inS x (nI 0) (nI n) = true := decide_eq_true ⟨Int32.not_lt.mp (by rw [nI_0]; exact c1), c2⟩
        rw [c] at this
        cases this
      · rw [if_neg c2]
  | true =>
    obtain ⟨j, -, j2, rfl⟩ := inS_lit c (by omega) (by omega)
    have hF : Fr Ken s (pkS (pkS s 11 0 1 (nI j)) 60 0 2 (nI j)) := ((Fr.refl _ s).pk' _ rfl).pk' _ rfl
    refine ⟨pkS s 11 0 1 (nI j), true, pkS (pkS s 11 0 1 (nI j)) 60 0 2 (nI j), by rw [ifT]; rfl, ?_, ?_⟩
    · unfold f_M_end
      rw [if_neg (nI_pos (by omega)), show (pkS s 11 0 1 (nI j)).1 60 0 2 = nI n by rw [pkS_v, if_neg (by omega), n3], if_pos (nI_le (by omega) (by omega))]
      rfl
    · obtain ⟨h1, h2, h3, h4, h5, h6, h7, h8⟩ := h
      refine ⟨iSea_fr h1 hF (fun _ => ⟨rfl, rfl, rfl, rfl, rfl, rfl, rfl, rfl, rfl, rfl, rfl, rfl⟩) ⟨rfl, rfl, rfl, rfl, rfl, rfl, rfl⟩, HLD_fk h2 hF (fun _ => ⟨rfl, rfl, rfl, rfl, rfl, rfl⟩) (fun _ _ => ⟨rfl, rfl⟩) ⟨rfl, rfl⟩, ⟨j, by omega, ?_, ?_, fun k hk => ?_⟩, iRule_fk h4 hF (fun _ => ⟨rfl, rfl, rfl, rfl, rfl, rfl⟩) (fun _ _ => ⟨rfl, rfl⟩) ⟨rfl, rfl, rfl, rfl⟩, iPast_fk h5 hF (fun _ => ⟨rfl, rfl, rfl, rfl⟩) (fun _ _ => rfl) ⟨rfl, rfl⟩, iWea_fk h6 hF ⟨rfl, rfl, rfl, rfl⟩, iImg_fk h7 hF (fun _ => ⟨rfl, rfl⟩) ⟨rfl, rfl⟩, iCha_fk h8 hF (fun _ => ⟨rfl, rfl, rfl, rfl, rfl, rfl, rfl, rfl⟩) ⟨rfl, rfl⟩⟩
      · rw [pkS_v, if_neg (by omega), pkS_v, if_pos ⟨rfl, rfl, rfl⟩]
      · rw [pkS_v, if_pos ⟨rfl, rfl, rfl⟩]
      · rw [hF.1 12 0 k rfl, hF.1 61 0 k rfl]
        exact n4 k (by omega)
def Kct (c _ k : Nat) : Bool := c == 50 || (c == 51 || (c == 52 || (c == 53 || (c == 97 || (c == 98 || (c == 99 || (c == 100 || ((c == 49 && k == 8) || (c == 60 && k == 76)))))))))
theorem q_chart (h : INV I T B R W s) (x y z u : Int32) : ∃ s1 r s2, f_D_chart x y z u s = some (s1, r) ∧ f_M_chart x y z u s1 = some (s2, r) ∧ INV I T B R W s2 := by
  have h6 := h.1.2.2.1.1.1
  obtain ⟨c, m1, m2, m3, m4⟩ := h.2.2.2.2.2.2.2
  unfold f_D_chart
  rw [(v_isle h y).1, g_D_isWithin_eq, g_D_isWithin_eq, g_D_isWithin_eq, of_1, of_20]
  cases c1 : inS y 0 (nI I - nI 1) with
  | false => exact ⟨s, _, s, by rw [ifF], by unfold f_M_chart; rw [(v_isle h y).2, c1, ifF], h⟩
  | true =>
    cases c2 : inS x (nI 1) (nI 20) with
    | false => exact ⟨s, _, s, by rw [ifT, ifF], by unfold f_M_chart; rw [(v_isle h y).2, c1, ifT, g_M_in_eq, of_1, of_20, c2, ifF], h⟩
    | true =>
      cases c3 : inS z (Int32.ofInt (-999)) (Int32.ofInt 999) with
      | false => exact ⟨s, _, s, by rw [ifT, ifT, ifF], by unfold f_M_chart; rw [(v_isle h y).2, c1, ifT, g_M_in_eq, of_1, of_20, c2, ifT, g_M_in_eq, c3, ifF], h⟩
      | true =>
        cases c4 : inS u (Int32.ofInt (-999)) (Int32.ofInt 999) with
        | false => exact ⟨s, _, s, by rw [ifT, ifT, ifT, ifF], by unfold f_M_chart; rw [(v_isle h y).2, c1, ifT, g_M_in_eq, of_1, of_20, c2, ifT, g_M_in_eq, c3, ifT, g_M_in_eq, c4, ifF], h⟩
        | true =>
          obtain ⟨a, a1, rfl⟩ := inS_nI c1 (by omega)
          obtain ⟨n, n1, n2, rfl⟩ := inS_lit c2 (by omega) (by omega)
          by_cases e : c = 20
          · subst e
            refine ⟨s, Int32.ofInt (-1), s, ?_, ?_, h⟩
            · rw [ifT, ifT, ifT, ifT]
              unfold f_Charts_add
              rw [m2, of_20, if_neg (nI_nlt (by omega) (by omega)), Option.bind_some, ifF]
            · unfold f_M_chart
              rw [(v_isle h (nI a)).2, c1, ifT, g_M_in_eq, of_1, of_20, c2, ifT, g_M_in_eq, c3, ifT, g_M_in_eq, c4, ifT, m3, if_pos rfl]
          · obtain ⟨t1, ht1⟩ : ∃ t1, pkS (pkS (pkS (pkS (pkS s 50 0 c (nI n)) 51 0 c (nI a)) 52 0 c z) 53 0 c u) 49 0 8 (nI (c + 1)) = t1 := ⟨_, rfl⟩
            have F1 : Fr Kct s t1 := by
              rw [← ht1]
              exact (((((Fr.refl _ s).pk' _ rfl).pk' _ rfl).pk' _ rfl).pk' _ rfl).pk' _ rfl
            obtain ⟨t2, ht2⟩ : ∃ t2, pkS (pkS (pkS (pkS (pkS t1 97 0 c (nI n)) 98 0 c (nI a)) 99 0 c z) 100 0 c u) 60 0 76 (nI (c + 1)) = t2 := ⟨_, rfl⟩
            have F2 : Fr Kct s t2 := by
              rw [← ht2]
              exact (((((F1).pk' _ rfl).pk' _ rfl).pk' _ rfl).pk' _ rfl).pk' _ rfl
            have k28 : t1.1 60 0 28 = s.1 60 0 28 := F1.1 _ _ _ rfl
            have k76 : t1.1 60 0 76 = nI c := by
              rw [← ht1, pkS_v, if_neg (by omega), pkS_v, if_neg (by omega), pkS_v, if_neg (by omega), pkS_v, if_neg (by omega), pkS_v, if_neg (by omega), m3]
            have mi : g_M_isIsle (nI a) t1 = true := by
              rw [← c1, ← (v_isle h (nI a)).2]
              unfold g_M_isIsle
              rw [k28]; rfl
            refine ⟨t1, nI (c + 1), t2, ?_, ?_, ?_⟩
            · rw [ifT, ifT, ifT, ifT]
              unfold f_Charts_add g_Charts_many
              rw [m2, of_20, if_pos (nI_lt (by omega) (by omega)), ix_nI (n := 20) (k := c) (by omega) (by omega), Option.bind_some, Option.bind_some, show (pkS s 50 0 c (nI n)).1 49 0 8 = nI c by rw [pkS_v, if_neg (by omega), m2], ix_nI (n := 20) (k := c) (by omega) (by omega), Option.bind_some, Option.bind_some, show (pkS (pkS s 50 0 c (nI n)) 51 0 c (nI a)).1 49 0 8 = nI c by rw [pkS_v, if_neg (by omega), pkS_v, if_neg (by omega), m2], ix_nI (n := 20) (k := c) (by omega) (by omega), Option.bind_some, Option.bind_some, show (pkS (pkS (pkS s 50 0 c (nI n)) 51 0 c (nI a)) 52 0 c z).1 49 0 8 = nI c by rw [pkS_v, if_neg (by omega), pkS_v, if_neg (by omega), pkS_v, if_neg (by omega), m2], ix_nI (n := 20) (k := c) (by omega) (by omega), Option.bind_some, Option.bind_some, show (pkS (pkS (pkS (pkS s 50 0 c (nI n)) 51 0 c (nI a)) 52 0 c z) 53 0 c u).1 49 0 8 = nI c by rw [pkS_v, if_neg (by omega), pkS_v, if_neg (by omega), pkS_v, if_neg (by omega), pkS_v, if_neg (by omega), m2], of_1, nI_add, ht1, Option.bind_some, Option.bind_some, ifT]
              rw [← ht1, pkS_v, if_pos ⟨rfl, rfl, rfl⟩]
            · unfold f_M_chart
              rw [mi, ifT, g_M_in_eq, of_1, of_20, c2, ifT, g_M_in_eq, c3, ifT, g_M_in_eq, c4, ifT, k76, if_neg (fun z => e ((nI_eq (by omega) (by omega)).mp z)), ix_nI (n := 20) (k := c) (by omega) (by omega), Option.bind_some, Option.bind_some, show (pkS t1 97 0 c (nI n)).1 60 0 76 = nI c by rw [pkS_v, if_neg (by omega), k76], ix_nI (n := 20) (k := c) (by omega) (by omega), Option.bind_some, Option.bind_some, show (pkS (pkS t1 97 0 c (nI n)) 98 0 c (nI a)).1 60 0 76 = nI c by rw [pkS_v, if_neg (by omega), pkS_v, if_neg (by omega), k76], ix_nI (n := 20) (k := c) (by omega) (by omega), Option.bind_some, Option.bind_some, show (pkS (pkS (pkS t1 97 0 c (nI n)) 98 0 c (nI a)) 99 0 c z).1 60 0 76 = nI c by rw [pkS_v, if_neg (by omega), pkS_v, if_neg (by omega), pkS_v, if_neg (by omega), k76], ix_nI (n := 20) (k := c) (by omega) (by omega), Option.bind_some, Option.bind_some, show (pkS (pkS (pkS (pkS t1 97 0 c (nI n)) 98 0 c (nI a)) 99 0 c z) 100 0 c u).1 60 0 76 = nI c by rw [pkS_v, if_neg (by omega), pkS_v, if_neg (by omega), pkS_v, if_neg (by omega), pkS_v, if_neg (by omega), k76], nI_add, ht2, Option.bind_some]
              rw [← ht2, pkS_v, if_pos ⟨rfl, rfl, rfl⟩]
            · obtain ⟨h1, h2, h3, h4, h5, h6, h7, h8⟩ := h
              refine ⟨iSea_fr h1 F2 (fun _ => ⟨rfl, rfl, rfl, rfl, rfl, rfl, rfl, rfl, rfl, rfl, rfl, rfl⟩) ⟨rfl, rfl, rfl, rfl, rfl, rfl, rfl⟩, HLD_fk h2 F2 (fun _ => ⟨rfl, rfl, rfl, rfl, rfl, rfl⟩) (fun _ _ => ⟨rfl, rfl⟩) ⟨rfl, rfl⟩, iTape_fk h3 F2 (fun _ => ⟨rfl, rfl⟩) ⟨rfl, rfl⟩, iRule_fk h4 F2 (fun _ => ⟨rfl, rfl, rfl, rfl, rfl, rfl⟩) (fun _ _ => ⟨rfl, rfl⟩) ⟨rfl, rfl, rfl, rfl⟩, iPast_fk h5 F2 (fun _ => ⟨rfl, rfl, rfl, rfl⟩) (fun _ _ => rfl) ⟨rfl, rfl⟩, iWea_fk h6 F2 ⟨rfl, rfl, rfl, rfl⟩, iImg_fk h7 F2 (fun _ => ⟨rfl, rfl⟩) ⟨rfl, rfl⟩, ⟨c + 1, by omega, ?_, ?_, fun k hk => ?_⟩⟩
              · rw [← ht2, ← ht1]
                simp (disch := omega) only [pkS_v, if_pos, if_neg, and_self]
                simp
              · rw [← ht2, pkS_v, if_pos ⟨rfl, rfl, rfl⟩]
              · by_cases ek : k = c
                · subst ek
                  have e1 : t2.1 50 0 k = nI n ∧ t2.1 51 0 k = nI a ∧ t2.1 52 0 k = z ∧ t2.1 53 0 k = u ∧ t2.1 97 0 k = nI n ∧ t2.1 98 0 k = nI a ∧ t2.1 99 0 k = z ∧ t2.1 100 0 k = u := by
                    rw [← ht2, ← ht1]
                    simp [pkS_v]
                  obtain ⟨e1, e2, e3, e4, e5, e6, e7, e8⟩ := e1
                  rw [e1, e2, e3, e4, e5, e6, e7, e8]
                  exact ⟨⟨rfl, rfl, rfl, rfl⟩, ⟨n, n1, n2, rfl⟩, a, a1, rfl⟩
                · have e1 : t2.1 50 0 k = s.1 50 0 k ∧ t2.1 51 0 k = s.1 51 0 k ∧ t2.1 52 0 k = s.1 52 0 k ∧ t2.1 53 0 k = s.1 53 0 k ∧ t2.1 97 0 k = s.1 97 0 k ∧ t2.1 98 0 k = s.1 98 0 k ∧ t2.1 99 0 k = s.1 99 0 k ∧ t2.1 100 0 k = s.1 100 0 k := by
                    rw [← ht2, ← ht1]
                    simp [pkS_v, ek]
                  obtain ⟨e1, e2, e3, e4, e5, e6, e7, e8⟩ := e1
                  rw [e1, e2, e3, e4, e5, e6, e7, e8]
                  exact m4 k (by omega)
end
