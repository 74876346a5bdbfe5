/-! ===== a season: the reference ===== -/
theorem KJ_MP {c i k : Nat} (h : MP c i k = false) : KJ c i k = false := by
  unfold MP at h
  unfold KJ
  simp only [Bool.or_eq_false_iff, Bool.and_eq_false_iff, beq_eq_false_iff_ne] at h ⊢
  omega
theorem fm_joinL {s0 : S2} {I T B : Nat} {W : Option WF6} {on : Nat → Bool} {x : XT} {e : Nat} {w u : Nat → Int32} : ∀ (n fu : Nat) (s : S2) (v : Nat → Int32), n < fu → VS I v → MX I T B W on x e w s → RS I T B v s → WM9 u I s → Fr KJ s0 s → npS I w (jlS I w u n (v, s.1 60 0 50)).1 = none → ∃ s', f_M_pass_L14 fu (cdP (npS I w v)) s = f_M_pass_L46 FU 0 (pkS s' 60 0 51 0) ∧ RS I T B (jlS I w u n (v, s.1 60 0 50)).1 s' ∧ s'.1 60 0 50 = (jlS I w u n (v, s.1 60 0 50)).2 ∧ Fr KJ s0 s' := by
  intro n
  induction n with
  | zero =>
    intro fu s v hf hv hX hr hW hF hn
    obtain ⟨f, rfl, hf'⟩ := suc_of hf
    have hn : npS I w v = none := hn
    refine ⟨s, ?_, hr, rfl, hF⟩
    show b_M_pass_L14 _ _ _ = _
    unfold b_M_pass_L14
    rw [hn, of_m1, if_pos (show cdP none = (-1 : Int32) from rfl), of_0, Option.bind_some]
  | succ n ih =>
    intro fu s v hf hv hX hr hW hF hn
    obtain ⟨f, rfl, hf'⟩ := suc_lt hf
    have h6 := hv.1
    show ∃ s', b_M_pass_L14 _ _ _ = _ ∧ _
    cases h : npS I w v with
    | none =>
      have ej : jlS I w u (n + 1) (v, s.1 60 0 50) = (v, s.1 60 0 50) := by
        show (match npS I w v with
          | none => (v, s.1 60 0 50)
          | some ab => jlS I w u n (jnS w u v ab.1 ab.2, s.1 60 0 50 + nI 1)) = _
        rw [h]
      rw [ej]
      refine ⟨s, ?_, hr, rfl, hF⟩
      unfold b_M_pass_L14
      rw [of_m1, if_pos (show cdP none = (-1 : Int32) from rfl), of_0, Option.bind_some]
    | some ab =>
      have ej : jlS I w u (n + 1) (v, s.1 60 0 50) = jlS I w u n (jnS w u v ab.1 ab.2, s.1 60 0 50 + nI 1) := by
        show (match npS I w v with
          | none => (v, s.1 60 0 50)
          | some ab => jlS I w u n (jnS w u v ab.1 ab.2, s.1 60 0 50 + nI 1)) = _
        rw [h]
      rw [ej] at hn ⊢
      obtain ⟨k1, k2, k3, k4⟩ := npS_some (a := ab.1) (b := ab.2) h
      obtain ⟨s1, a1, a2, a3, a4⟩ := fm_join (u := u) hv hX hr k1 k2 hW
      have F1 : Fr MP s s1 := a4.mono fun _ _ _ => KJ_MP
      have hX1 := MX_MP hX F1
      have hv1 := VS_jn (w := w) (u := u) hv k1 k2 k3
      unfold b_M_pass_L14
      rw [of_m1, if_neg (show ¬ cdP (some ab) = (-1 : Int32) from fun z => by
        have e := nI_nm1 (n := 10 * ab.1 + ab.2) (by omega)
        rw [show nI (10 * ab.1 + ab.2) = -1 from z] at e
        exact cast e rfl), show cdP (some ab) = nI (10 * ab.1 + ab.2) from rfl, of_10, div_nI (by omega) (by omega) (by omega), jrem_nI (by omega) (by omega) (by omega), show (10 * ab.1 + ab.2) / 10 = ab.1 by omega, show (10 * ab.1 + ab.2) % 10 = ab.2 by omega, a1, Option.bind_some, fm_nearPair hv1 hX1.2.1.1 a2 (hX1.2.2.1.2.2.1 1 (by omega)), Option.bind_some]
      have := ih f s1 (jnS w u v ab.1 ab.2) hf' hv1 hX1 a2 (fun a ha => by
        rw [a4.1 _ _ _ rfl, a4.1 _ _ _ rfl]; exact hW a ha) (hF.trans a4) (by rw [a3]; exact hn)
      rw [a3] at this
      exact this
theorem clr_nI : ∀ b, b < 4 → ∀ m, m < 16 → ∃ m' : Nat, m' < 16 ∧ (nI m) &&& ((nI 1 <<< (nI b &&& 31)) ^^^ (-1)) = nI m' ∧ ∀ c, c < 4 → m'.testBit c = (m.testBit c && !decide (c = b)) := by decide +kernel
theorem fm_snapL {s0 : S2} {I T B : Nat} {W : Option WF6} {on : Nat → Bool} {x : XT} {e : Nat} {v w : Nat → Int32} (hv : VS I v) : ∀ (m k fu : Nat) (s : S2), k + m = B → m < fu → MX I T B W on x e w s → RS I T B (snS w v k).1 s → s.1 60 0 51 = (snS w v k).2 → (∀ j, j < B → v (38 + j) = nI 1 ∨ v (38 + j) = 0) → Fr (fun c _ k => c == 60 && (k == 36 || k == 51)) s0 s → ∃ s', f_M_pass_L46 fu (nI k) s = some (pkS s' 60 0 37 (s'.1 60 0 37 + nI 1)) ∧ RS I T B (snS w v B).1 s' ∧ s'.1 60 0 51 = (snS w v B).2 ∧ Fr (fun c _ k => c == 60 && (k == 36 || k == 51)) s0 s' := by
  intro m
  induction m with
  | zero =>
    intro k fu s hk hf hX hr hc hb hF
    obtain ⟨f, rfl, hf'⟩ := suc_of hf
    have h4 := hX.1.1.2.2
    have e : k = B := by omega
    subst e
    refine ⟨s, ?_, hr, hc, hF⟩
    show b_M_pass_L46 _ _ _ = _
    unfold b_M_pass_L46
    rw [hX.2.1.2.2, if_pos (nI_le (by omega) (by omega)), Option.bind_some, of_1]
  | succ m ih =>
    intro k fu s hk hf hX hr hc hb hF
    obtain ⟨f, rfl, hf'⟩ := suc_lt hf
    have h4 := hX.1.1.2.2
    have h6 := hv.1
    obtain ⟨t1, t2, t3, t4, t5⟩ := hX.1.2.2.1 k (by omega)
    have hvs : VS I (snS w v k).1 := VS_of hv fun j _ h => snS_o (by omega)
    have hap : apS (snS w v k).1 (ba w k) (bb w k) = apS v (ba w k) (bb w k) := apS_of (fun j h => snS_o (by omega)) (by omega) (by omega) (by have := (hv.2.1 _ t2).2.1; omega) (by have := (hv.2.1 _ t4).2.1; omega)
    have hst : (snS w v k).1 (38 + k) = v (38 + k) := snS_o (by omega)
    have q0 := hX.2.2.1.2.2.2.2 k (by omega) 0 (by omega)
    have q1 := hX.2.2.1.2.2.2.2 k (by omega) 1 (by omega)
    have q2 := hX.2.2.1.2.2.2.2 k (by omega) 2 (by omega)
    rw [Nat.add_zero, Nat.add_zero] at q0
    have r1 := hr.1 _ t2
    have r2 := hr.1 _ t4
    obtain ⟨g1, g2, -⟩ := hvs.2.1 _ t2
    obtain ⟨g3, g4, -⟩ := hvs.2.1 _ t4
    obtain ⟨mm, m1, m2, m3⟩ := hr.2.2.1
    have hbk := m3 k (by omega)
    rw [hst] at hbk
    show ∃ s', b_M_pass_L46 _ _ _ = _ ∧ _
    unfold b_M_pass_L46 f_M_pass_L146
    rw [hX.2.1.2.2, if_neg (nI_ge (by omega) (by omega)), of_3, mul_nI, ix_nI (n := 12) (k := 3 * k) (by omega) (by omega), Option.bind_some, of_1, nI_add, ix_nI (n := 12) (k := 3 * k + 1) (by omega) (by omega), Option.bind_some, m2, g_M_has_nI (by omega) (by omega), q0, q1, t1, t3, ix_nI (n := 6) (k := ba w k) (by omega) (by omega), Option.bind_some, ix_nI (n := 6) (k := bb w k) (by omega) (by omega), Option.bind_some, ← r1.2.2.2.1, ← r2.2.2.2.1, g1, g3, fm_farOf hvs hr t2 t4, Option.bind_some, of_2, nI_add, nI_add, ix_nI (n := 12) (k := 3 * k + 2) (by omega) (by omega), Option.bind_some, q2, hap]
    have skip : snS w v (k + 1) = snS w v k → ∃ s', f_M_pass_L46 f (nI (k + 1)) s = some (pkS s' 60 0 37 (s'.1 60 0 37 + nI 1)) ∧ RS I T B (snS w v B).1 s' ∧ s'.1 60 0 51 = (snS w v B).2 ∧ Fr (fun c _ k => c == 60 && (k == 36 || k == 51)) s0 s' := fun en => ih (k + 1) f s (by omega) hf' hX (by rw [en]; exact hr) (by rw [en]; exact hc) hb hF
    rcases hbk with ⟨c1, c1'⟩ | ⟨c1, c1'⟩
    · rw [c1', if_neg (by decide)]
      by_cases ch : nI (hdS (snS w v k).1 (ba w k)) = nI (hdS (snS w v k).1 (bb w k))
      · rw [if_pos ch]
        refine skip ?_
        show (if _ then _ else snS w v k) = _
        have hh := (nI_eq (by omega) (by omega)).mp ch
        have h0 : apS v (ba w k) (bb w k) = 0 := by rw [← hap]; exact apS_comm _ _ _ hh
        rw [if_neg (fun z => z.2 (by rw [h0]; exact t5))]
      · rw [if_neg ch]
        by_cases c2 : apS v (ba w k) (bb w k) ≤ w ((15 + k) * 8 + 2)
        · rw [if_pos c2]
          refine skip ?_
          show (if _ then _ else snS w v k) = _
          rw [if_neg (fun z => z.2 c2)]
        · rw [if_neg c2, Option.bind_some, Option.bind_some, of_m1]
          have en : snS w v (k + 1) = (upd (snS w v k).1 (38 + k) 0, (snS w v k).2 + nI 1) := by
            show (if _ then _ else snS w v k) = _
            rw [if_pos ⟨c1, c2⟩]
          obtain ⟨m', n1, n2, n3⟩ := clr_nI k (by omega) mm m1
          rw [n2]
          have F : Fr (fun c _ k => c == 60 && (k == 36 || k == 51)) s (pkS (pkS s 60 0 36 (nI m')) 60 0 51 ((pkS s 60 0 36 (nI m')).1 60 0 51 + nI 1)) := ((Fr.refl _ _).pk' _ rfl).pk' _ rfl
          refine ih (k + 1) f _ (by omega) hf' (MX_fr hX F (fun _ => ⟨rfl, rfl, rfl, rfl, rfl, rfl, rfl, rfl, rfl, rfl⟩) ⟨rfl, rfl, rfl, rfl, rfl, rfl⟩) ?_ ?_ hb (hF.trans F)
          · rw [en]
            obtain ⟨p1, p2, p3, p4⟩ := hr
            refine ⟨fun j hj => ?_, fun t ht => ?_, ⟨m', n1, ?_, fun j hj => ?_⟩, ?_⟩
            · obtain ⟨g1, g2, g3, g4, g5, g6⟩ := p1 j hj
              simp only [pkS_v, Nat.reduceEqDiff, false_and, if_false]
              refine ⟨?_, ?_, ?_, ?_, ?_, ?_⟩
              · rw [upd_ne _ _ (by omega)]; exact g1
              · rw [upd_ne _ _ (by omega)]; exact g2
              · rw [upd_ne _ _ (by omega)]; exact g3
              · rw [upd_ne _ _ (by omega)]; exact g4
              · rw [upd_ne _ _ (by omega)]; exact g5
              · rw [upd_ne _ _ (by omega)]; exact g6
            · simp only [pkS_v, Nat.reduceEqDiff, false_and, if_false]
              show upd _ (38 + k) 0 (30 + t) = _
              have := hX.1.1.2.1
              rw [upd_ne _ _ (by omega)]; exact p2 t ht
            · rw [pkS_v, if_neg (by omega), pkS_v, if_pos ⟨rfl, rfl, rfl⟩]
            · show (upd _ (38 + k) 0 (38 + j) = _ ∧ _) ∨ (upd _ (38 + k) 0 (38 + j) = _ ∧ _)
              rw [n3 j (by omega)]
              by_cases c : j = k
              · subst c
                right
                rw [upd_eq]
                exact ⟨rfl, by simp⟩
              · rw [upd_ne _ _ (by omega), decide_eq_false c]
                have := m3 j hj
                simpa using this
            · rw [pkS_v, if_neg (by omega), pkS_v, if_neg (by omega)]
              show upd _ (38 + k) 0 42 = _
              rw [upd_ne _ _ (by omega)]; exact p4
          · rw [en, pkS_v, if_pos ⟨rfl, rfl, rfl⟩, pkS_v, if_neg (by omega), hc]
    · rw [c1', if_pos (by decide)]
      refine skip ?_
      show (if _ then _ else snS w v k) = _
      rw [if_neg (fun z => by have := z.1; rw [c1] at this; exact absurd this (by decide))]
theorem fm_pass {s : S2} {I T B : Nat} {W : Option WF6} {on : Nat → Bool} {x : XT} {e : Nat} {v w : Nat → Int32} (hv : VS I v) (hX : MX I T B W on x e w s) (hr : RS I T B v s) : ∃ s', f_M_pass s = some s' ∧ RS I T B (psS I T B W v w on x e).1 s' ∧ s'.1 60 0 50 = (psS I T B W v w on x e).2.1 ∧ s'.1 60 0 51 = (psS I T B W v w on x e).2.2.1 ∧ s'.1 60 0 52 = (psS I T B W v w on x e).2.2.2 ∧ Fr MP s s' := by
  obtain ⟨s1, a1, a2, a3, a4, a5⟩ := fm_goAll hv hX hr
  have F2 : Fr MP s (pkS s1 60 0 50 0) := a5.pk' _ rfl
  have hX2 := MX_MP hX F2
  have hr2 := RS_52 (k := 50) a2 (by omega) (by omega) 0
  have hv2 := VS_mv (d := drS I T W v w on x e) hv 6 (Nat.le_refl 6)
  have hjl := VS_jl (T := T) (W := W) (w := w) (on := on) (x := x) (e := e) hv
  have e50 : (pkS s1 60 0 50 0).1 60 0 50 = 0 := by rw [pkS_v, if_pos ⟨rfl, rfl, rfl⟩]
  obtain ⟨s3, b1, b2, b3, b4⟩ := fm_joinL (s0 := pkS s1 60 0 50 0) (u := v) 6 FU (pkS s1 60 0 50 0) _ (lt_FU (by omega)) hv2 hX2 hr2 (fun a ha => by
    rw [pkS_v, if_neg (by omega), pkS_v, if_neg (by omega)]; exact a4 a ha) (Fr.refl _ _) (by rw [e50]; exact hjl.1)
  rw [e50] at b2 b3
  have F3 : Fr MP s s3 := F2.trans (b4.mono fun _ _ _ => KJ_MP)
  have F4 : Fr MP s (pkS s3 60 0 51 0) := F3.pk' _ rfl
  have hr4 := RS_52 (k := 51) b2 (by omega) (by omega) 0
  obtain ⟨s5, c1, c2, c3, c4⟩ := fm_snapL (s0 := pkS s3 60 0 51 0) hjl.2 B 0 FU (pkS s3 60 0 51 0) (by omega) (lt_FU (by have := hX.1.1.2.2; omega)) (MX_MP hX F4) hr4 (by rw [pkS_v, if_pos ⟨rfl, rfl, rfl⟩]; rfl) (fun j hj => by
    obtain ⟨m, m1, m2, m3⟩ := hr4.2.2.1
    rcases m3 j hj with h | h
    · exact Or.inl h.1
    · exact Or.inr h.1) (Fr.refl _ _)
  rw [nI_0] at c1
  have F5 : Fr MP s s5 := F4.trans (c4.mono fun c i k h => by
    unfold MP at h
    simp only [Bool.or_eq_false_iff, Bool.and_eq_false_iff, beq_eq_false_iff_ne] at h ⊢
    omega)
  refine ⟨pkS s5 60 0 37 (s5.1 60 0 37 + nI 1), ?_, ?_, ?_, ?_, ?_, F5.pk' _ rfl⟩
  · unfold f_M_pass
    rw [a1, Option.bind_some, Option.bind_some, of_0, fm_nearPair hv2 hX2.2.1.1 hr2 (hX2.2.2.1.2.2.1 1 (by omega)), Option.bind_some, b1, c1]
  · unfold psS
    obtain ⟨p1, p2, ⟨m, m1, m2, m3⟩, p4⟩ := c2
    have h8 := hX.1.1.2.1
    have h44 := hX.1.1.2.2
    refine ⟨fun j hj => ?_, fun t ht => ?_, ⟨m, m1, ?_, fun j hj => ?_⟩, ?_⟩
    · obtain ⟨g1, g2, g3, g4, g5, g6⟩ := p1 j hj
      have h6 := hv.1
      simp only [pkS_v, Nat.reduceEqDiff, false_and, if_false]
      refine ⟨?_, ?_, ?_, ?_, ?_, ?_⟩
      · rw [upd_ne _ _ (by omega)]; exact g1
      · rw [upd_ne _ _ (by omega)]; exact g2
      · rw [upd_ne _ _ (by omega)]; exact g3
      · rw [upd_ne _ _ (by omega)]; exact g4
      · rw [upd_ne _ _ (by omega)]; exact g5
      · rw [upd_ne _ _ (by omega)]; exact g6
    · rw [pkS_v, if_neg (by omega)]
      show upd _ 42 _ (30 + t) = _
      rw [upd_ne _ _ (by omega)]; exact p2 t ht
    · rw [pkS_v, if_neg (by omega)]; exact m2
    · show (upd _ 42 _ (38 + j) = _ ∧ _) ∨ (upd _ 42 _ (38 + j) = _ ∧ _)
      rw [upd_ne _ _ (by omega)]; exact m3 j hj
    · rw [pkS_v, if_pos ⟨rfl, rfl, rfl⟩]
      dsimp only
      rw [upd_eq, p4]
  · rw [pkS_v, if_neg (by omega), c4.1 _ _ _ rfl, pkS_v, if_neg (by omega), b3]; rfl
  · rw [pkS_v, if_neg (by omega), c3]; rfl
  · rw [pkS_v, if_neg (by omega), c4.1 _ _ _ rfl, pkS_v, if_neg (by omega), b4.1 _ _ _ rfl, pkS_v, if_neg (by omega), a3]; rfl
