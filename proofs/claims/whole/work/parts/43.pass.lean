/-! ===== a season ===== -/
def jlS (I : Nat) (w u : Nat → Int32) : Nat → (Nat → Int32) × Int32 → (Nat → Int32) × Int32
  | 0, q => q
  | n + 1, q => match npS I w q.1 with
    | none => q
    | some ab => jlS I w u n (jnS w u q.1 ab.1 ab.2, q.2 + nI 1)
def hc1 (I : Nat) (v : Nat → Int32) (j : Nat) : Nat := if isH I v j then 1 else 0
def hcS (I : Nat) (v : Nat → Int32) : Nat := hc1 I v 0 + hc1 I v 1 + hc1 I v 2 + hc1 I v 3 + hc1 I v 4 + hc1 I v 5
theorem hc1_le (I : Nat) (v : Nat → Int32) (j : Nat) : hc1 I v j ≤ 1 := by unfold hc1; split <;> omega
theorem hcS_le (I : Nat) (v : Nat → Int32) : hcS I v ≤ 6 := by
  unfold hcS
  have h0 := hc1_le I v 0
  have h1 := hc1_le I v 1
  have h2 := hc1_le I v 2
  have h3 := hc1_le I v 3
  have h4 := hc1_le I v 4
  have h5 := hc1_le I v 5
  omega
theorem sum6_lt {f g : Nat → Nat} {b : Nat} (hb : b < 6) (h : ∀ j, j < 6 → f j ≤ g j) (hl : f b < g b) : f 0 + f 1 + f 2 + f 3 + f 4 + f 5 < g 0 + g 1 + g 2 + g 3 + g 4 + g 5 := by
  have h0 := h 0 (by omega)
  have h1 := h 1 (by omega)
  have h2 := h 2 (by omega)
  have h3 := h 3 (by omega)
  have h4 := h 4 (by omega)
  have h5 := h 5 (by omega)
  match b, hb with
  | 0, _ => omega
  | 1, _ => omega
  | 2, _ => omega
  | 3, _ => omega
  | 4, _ => omega
  | 5, _ => omega
theorem hc_two {I : Nat} {v : Nat → Int32} {a b : Nat} (hab : a < b) (hb : b < 6) (h1 : isH I v a = true) (h2 : isH I v b = true) : 2 ≤ hcS I v := by
  have k1 := sum6_lt (f := fun _ => 0) (g := fun j => if j = b then hc1 I v j else 0) (b := b) hb (fun j _ => Nat.zero_le _) (by simp [hc1, h2])
  have k2 := sum6_lt (f := fun j => if j = b then hc1 I v j else 0) (g := hc1 I v) (b := a) (by omega) (fun j _ => by split <;> omega) (by
    rw [if_neg (by omega)]
    simp [hc1, h1])
  unfold hcS
  omega
theorem hcS_jn {I : Nat} {w u v : Nat → Int32} {a b : Nat} (hv : VS I v) (hab : a < b) (hb : b < I) (hA : isH I v a = true) (hB : isH I v b = true) : hcS I (jnS w u v a b) < hcS I v := by
  have h6 := hv.1
  have hda : hdS v a = a := of_decide_eq_true (Bool.and_eq_true_iff.mp hA).2
  have hdb : hdS v b = b := of_decide_eq_true (Bool.and_eq_true_iff.mp hB).2
  refine sum6_lt (b := b) (by omega) (fun j hj => ?_) ?_
  · unfold hc1
    by_cases c : j < I
    · unfold isH
      rw [jnS_hd hv (by omega) hb j c]
      by_cases e : hdS v j = b
      · rw [if_pos e]
        by_cases e2 : a = j
        · subst e2; omega
        · simp [e2]
      · rw [if_neg e]; exact Nat.le_refl _
    · unfold isH
      simp [c]
  · unfold hc1
    rw [hB, if_pos rfl]
    have : isH I (jnS w u v a b) b = false := by
      unfold isH
      rw [jnS_hd hv (by omega) hb b hb, if_pos hdb, decide_eq_false (show ¬ a = b by omega)]
      simp
    rw [this]
    decide
theorem jlS_end {I : Nat} {w u : Nat → Int32} : ∀ (n : Nat) (q : (Nat → Int32) × Int32), VS I q.1 → hcS I q.1 ≤ n + 1 → npS I w (jlS I w u n q).1 = none ∧ VS I (jlS I w u n q).1 := by
  intro n
  induction n with
  | zero =>
    intro q hv hc
    refine ⟨?_, hv⟩
    show npS I w q.1 = none
    cases h : npS I w q.1 with
    | none => rfl
    | some ab =>
      obtain ⟨k1, k2, k3, k4⟩ := npS_some (a := ab.1) (b := ab.2) h
      have := hc_two (I := I) (v := q.1) k1 (by have := hv.1; omega) k3 k4
      omega
  | succ n ih =>
    intro q hv hc
    cases h : npS I w q.1 with
    | none =>
      have e : jlS I w u (n + 1) q = q := by
        show (match npS I w q.1 with
          | none => q
          | some ab => jlS I w u n (jnS w u q.1 ab.1 ab.2, q.2 + nI 1)) = q
        rw [h]
      rw [e]
      exact ⟨h, hv⟩
    | some ab =>
      have e : jlS I w u (n + 1) q = jlS I w u n (jnS w u q.1 ab.1 ab.2, q.2 + nI 1) := by
        show (match npS I w q.1 with
          | none => q
          | some ab => jlS I w u n (jnS w u q.1 ab.1 ab.2, q.2 + nI 1)) = _
        rw [h]
      rw [e]
      obtain ⟨k1, k2, k3, k4⟩ := npS_some (a := ab.1) (b := ab.2) h
      exact ih _ (VS_jn hv k1 k2 k3) (by have := hcS_jn (w := w) (u := u) hv k1 k2 k3 k4; dsimp only; omega)
theorem isH_jn {I : Nat} {w u v : Nat → Int32} {a b : Nat} (hv : VS I v) (hab : a < b) (hb : b < I) (hA : isH I v a = true) {j : Nat} (hj : isH I (jnS w u v a b) j = true) : isH I v j = true := by
  have c := isH_lt hj
  have hda : hdS v a = a := of_decide_eq_true (Bool.and_eq_true_iff.mp hA).2
  unfold isH at hj ⊢
  rw [jnS_hd hv (by omega) hb j c] at hj
  by_cases e : hdS v j = b
  · rw [if_pos e] at hj
    have hj := of_decide_eq_true (Bool.and_eq_true_iff.mp hj).2
    subst hj
    omega
  · rw [if_neg e] at hj; exact hj
def KQ (i c j k : Nat) : Bool := (c == 21 && j == i) || (c == 31 && k == 14)
theorem KQ_KP {i c j k : Nat} (h : KP i c j k = false) : KQ i c j k = false := by
  unfold KP at h
  unfold KQ
  simp only [Bool.or_eq_false_iff, Bool.and_eq_false_iff, beq_eq_false_iff_ne] at h ⊢
  omega
theorem fc_joinL {s0 : S2} {i I T B : Nat} {W : Option WF6} {on : Nat → Bool} {x : XT} {e : Nat} {w u : Nat → Int32} : ∀ (n k fu : Nat) (s : S2), k + n = 6 → n < fu → VS I (s.1 21 i) → CX I T B W on x e w s → WK I u 6 s → (∀ a, a < 6 → isH I (s.1 21 i) a = true → isH I u a = true) → Fr (KQ i) s0 s → ∃ s', f_Course_pass_L41 i fu (nI k) s = f_Course_pass_L71 i s' ∧ s'.1 21 i = (jlS I w u n (s.1 21 i, s.1 31 0 14)).1 ∧ s'.1 31 0 14 = (jlS I w u n (s.1 21 i, s.1 31 0 14)).2 ∧ Fr (KQ i) s0 s' := by
  intro n
  induction n with
  | zero =>
    intro k fu s hk hf hv hX hW hu hF
    obtain ⟨f, rfl, hf'⟩ := suc_of hf
    refine ⟨s, ?_, rfl, rfl, hF⟩
    show b_Course_pass_L41 i _ _ _ = _
    unfold b_Course_pass_L41
    rw [of_6, if_pos (nI_le (by omega) (by omega))]
  | succ n ih =>
    intro k fu s hk hf hv hX hW hu hF
    obtain ⟨f, rfl, hf'⟩ := suc_lt hf
    obtain ⟨s1, a1, a2, a3⟩ := fc_joinFirstPair (u := u) hv hX hW hu
    have F1 : Fr (KQ i) s s1 := a3.mono fun c j k h => (Bool.or_eq_false_iff.mp h).1
    have ep : s1.1 31 0 14 = s.1 31 0 14 := a3.1 _ _ _ rfl
    show ∃ s', b_Course_pass_L41 i _ _ _ = _ ∧ _
    unfold b_Course_pass_L41
    rw [of_6, if_neg (nI_ge (by omega) (by omega)), a1, Option.bind_some, of_1, nI_add, ep]
    cases h : npS I w (s.1 21 i) with
    | none =>
      have ej : jlS I w u (n + 1) (s.1 21 i, s.1 31 0 14) = (s.1 21 i, s.1 31 0 14) := by
        show (match npS I w (s.1 21 i) with
          | none => (s.1 21 i, s.1 31 0 14)
          | some ab => jlS I w u n (jnS w u (s.1 21 i) ab.1 ab.2, s.1 31 0 14 + nI 1)) = _
        rw [h]
      rw [ej, if_pos (show bI ((none : Option (Nat × Nat)).isSome) = 0 from rfl)]
      rw [h] at a2
      exact ⟨s1, rfl, a2, ep, hF.trans F1⟩
    | some ab =>
      have ej : jlS I w u (n + 1) (s.1 21 i, s.1 31 0 14) = jlS I w u n (jnS w u (s.1 21 i) ab.1 ab.2, s.1 31 0 14 + nI 1) := by
        show (match npS I w (s.1 21 i) with
          | none => (s.1 21 i, s.1 31 0 14)
          | some ab => jlS I w u n (jnS w u (s.1 21 i) ab.1 ab.2, s.1 31 0 14 + nI 1)) = _
        rw [h]
      rw [ej, if_neg (show ¬ bI ((some ab : Option (Nat × Nat)).isSome) = 0 by show ¬ bI true = 0; decide), Option.bind_some]
      rw [h] at a2
      have a2 : s1.1 21 i = jnS w u (s.1 21 i) ab.1 ab.2 := a2
      obtain ⟨k1, k2, k3, k4⟩ := npS_some (a := ab.1) (b := ab.2) h
      have F2 : Fr (KQ i) s (pkS s1 31 0 14 (s.1 31 0 14 + nI 1)) := F1.pk' _ (by simp [KQ])
      have e21 : (pkS s1 31 0 14 (s.1 31 0 14 + nI 1)).1 21 i = jnS w u (s.1 21 i) ab.1 ab.2 := by rw [pkS_1, if_neg (by omega), a2]
      have e14 : (pkS s1 31 0 14 (s.1 31 0 14 + nI 1)).1 31 0 14 = s.1 31 0 14 + nI 1 := by rw [pkS_v, if_pos ⟨rfl, rfl, rfl⟩]
      have := ih (k + 1) f (pkS s1 31 0 14 (s.1 31 0 14 + nI 1)) (by omega) hf' (by rw [e21]; exact VS_jn hv k1 k2 k3) (CX_KP hX (F2.mono fun _ _ _ => KQ_KP (i := i))) (fun a ha hha => by
        have e1 : (pkS s1 31 0 14 (s.1 31 0 14 + nI 1)).1 35 0 a = s.1 35 0 a := F2.1 _ _ _ rfl
        have e2 : (pkS s1 31 0 14 (s.1 31 0 14 + nI 1)).1 36 0 a = s.1 36 0 a := F2.1 _ _ _ rfl
        rw [e1, e2]
        exact hW a ha hha) (fun a ha hha => hu a ha (isH_jn hv k1 k2 k3 (by rw [e21] at hha; exact hha))) (hF.trans F2)
      rw [e21, e14] at this
      exact this
/-- bridges -/
def snS (w v : Nat → Int32) : Nat → (Nat → Int32) × Int32
  | 0 => (v, 0)
  | b + 1 => if v (38 + b) = nI 1 ∧ ¬ apS v (ba w b) (bb w b) ≤ w ((15 + b) * 8 + 2) then (upd (snS w v b).1 (38 + b) 0, (snS w v b).2 + nI 1) else snS w v b
theorem snS_o {w v : Nat → Int32} {j : Nat} : ∀ {b : Nat}, (j < 38 ∨ 38 + b ≤ j) → (snS w v b).1 j = v j
  | 0, _ => rfl
  | b + 1, h => by
    unfold snS
    split
    · show upd (snS w v b).1 (38 + b) 0 j = _
      rw [upd_ne _ _ (by omega)]; exact snS_o (by omega)
    · exact snS_o (by omega)
theorem apS_of {v v' : Nat → Int32} {a b : Nat} (h : ∀ j, j < 24 → v' j = v j) (ha : a < 6) (hb : b < 6) (h1 : hdS v a < 6) (h2 : hdS v b < 6) : apS v' a b = apS v a b := by
  unfold apS
  have e1 : hdS v' a = hdS v a := by unfold hdS; rw [h (18 + a) (by omega)]
  have e2 : hdS v' b = hdS v b := by unfold hdS; rw [h (18 + b) (by omega)]
  rw [e1, e2, h _ (show hdS v a < 24 by omega), h _ (show hdS v b < 24 by omega), h _ (show 6 + hdS v a < 24 by omega), h _ (show 6 + hdS v b < 24 by omega)]
theorem fc_snapL {s0 : S2} {i I T B : Nat} {W : Option WF6} {on : Nat → Bool} {x : XT} {e : Nat} {v w : Nat → Int32} (hv : VS I v) : ∀ (m k fu : Nat) (s : S2), k + m = B → m < fu → CX I T B W on x e w s → s.1 21 i = (snS w v k).1 → s.1 31 0 15 = (snS w v k).2 → Fr (fun c j k => (c == 21 && j == i) || (c == 31 && k == 15)) s0 s → ∃ s', f_Course_snapBridges_L7 i fu (nI k) s = some s' ∧ s'.1 21 i = (snS w v B).1 ∧ s'.1 31 0 15 = (snS w v B).2 ∧ Fr (fun c j k => (c == 21 && j == i) || (c == 31 && k == 15)) s0 s' := by
  intro m
  induction m with
  | zero =>
    intro k fu s hk hf hX hs hc hF
    obtain ⟨f, rfl, hf'⟩ := suc_of hf
    have h4 := hX.1.1.2.2
    have e : k = B := by omega
    subst e
    refine ⟨s, ?_, hs, hc, hF⟩
    show b_Course_snapBridges_L7 i _ _ _ = _
    unfold b_Course_snapBridges_L7
    rw [show g_Sea_bridges 0 s = nI k from hX.2.2.1.2.2, if_pos (nI_le (by omega) (by omega))]
  | succ m ih =>
    intro k fu s hk hf hX hs hc hF
    obtain ⟨f, rfl, hf'⟩ := suc_lt hf
    have h4 := hX.1.1.2.2
    have h6 := hv.1
    have hw := hX.2.1
    obtain ⟨t1, t2, t3, t4, t5⟩ := hX.1.2.2.1 k (by omega)
    have hvs : VS I (s.1 21 i) := by rw [hs]; exact VS_of hv fun j _ h => snS_o (by omega)
    have hap : apS (s.1 21 i) (ba w k) (bb w k) = apS v (ba w k) (bb w k) := by
      rw [hs]
      exact apS_of (fun j h => snS_o (by omega)) (by omega) (by omega) (by have := (hv.2.1 _ t2).2.1; omega) (by have := (hv.2.1 _ t4).2.1; omega)
    have hst : s.1 21 i (38 + k) = v (38 + k) := by rw [hs]; exact snS_o (by omega)
    show ∃ s', b_Course_snapBridges_L7 i _ _ _ = _ ∧ _
    unfold b_Course_snapBridges_L7 f_Course_snapBridges_L77
    rw [show g_Sea_bridges 0 s = nI B from hX.2.2.1.2.2, if_neg (nI_ge (by omega) (by omega)), show Int32.ofInt 0 = nI 0 from of_0, of_1, of_2, fc_ofBridge (a := k) (k := 0) (by omega) (by omega), Option.bind_some, fc_ofBridge (a := k) (k := 1) (by omega) (by omega), Option.bind_some, hw, Nat.add_zero, t1, t3, fc_apart hvs t2 t4, Option.bind_some, hap, fc_stands (by omega), Option.bind_some, hst, fc_ofBridge (a := k) (k := 2) (by omega) (by omega), Option.bind_some, hw, nI_add]
    by_cases c1 : v (38 + k) = nI 1
    · rw [decide_eq_true c1, if_neg (by decide)]
      by_cases c2 : apS v (ba w k) (bb w k) ≤ w ((15 + k) * 8 + 2)
      · rw [if_pos c2]
        have en : snS w v (k + 1) = snS w v k := by
          show (if _ then _ else snS w v k) = _
          rw [if_neg (fun z => z.2 c2)]
        exact ih (k + 1) f s (by omega) hf' hX (by rw [en]; exact hs) (by rw [en]; exact hc) hF
      · rw [if_neg c2]
        have en : snS w v (k + 1) = (upd (snS w v k).1 (38 + k) 0, (snS w v k).2 + nI 1) := by
          show (if _ then _ else snS w v k) = _
          rw [if_pos ⟨c1, c2⟩]
        have hbr : f_State_breakBridge i (nI k) s = some (pkS s 21 i (38 + k) 0) := by
          unfold f_State_breakBridge
          rw [of_38, nI_add, ix_nI (by omega) (by omega), Option.bind_some, Option.bind_some, of_0]
        rw [hbr, Option.bind_some, Option.bind_some]
        have F : Fr (fun c j k => (c == 21 && j == i) || (c == 31 && k == 15)) s (pkS (pkS s 21 i (38 + k) 0) 31 0 15 ((pkS s 21 i (38 + k) 0).1 31 0 15 + nI 1)) := ((Fr.refl _ _).pk' _ (by simp)).pk' _ (by simp)
        refine ih (k + 1) f _ (by omega) hf' (CX_fr hX F (fun _ => ⟨rfl, rfl, fun _ => ⟨rfl, rfl⟩, rfl, rfl, rfl, rfl⟩) rfl rfl rfl) ?_ ?_ (hF.trans F)
        · rw [en, pkS_1, if_neg (by omega), pkS_same, hs]
        · rw [en, pkS_v, if_pos ⟨rfl, rfl, rfl⟩, pkS_v, if_neg (by omega), hc]
    · rw [decide_eq_false c1, if_pos (by decide)]
      have en : snS w v (k + 1) = snS w v k := by
        show (if _ then _ else snS w v k) = _
        rw [if_neg (fun z => c1 z.1)]
      exact ih (k + 1) f s (by omega) hf' hX (by rw [en]; exact hs) (by rw [en]; exact hc) hF
/-- a season: the state behind it, parts, snapped, gone -/
def psS (I T B : Nat) (W : Option WF6) (v w : Nat → Int32) (on : Nat → Bool) (x : XT) (e : Nat) : (Nat → Int32) × Int32 × Int32 × Int32 :=
  (upd (snS w (jlS I w v 6 (mvS I v (drS I T W v w on x e) 6, 0)).1 B).1 42 ((snS w (jlS I w v 6 (mvS I v (drS I T W v w on x e) 6, 0)).1 B).1 42 + nI 1), (jlS I w v 6 (mvS I v (drS I T W v w on x e) 6, 0)).2, (snS w (jlS I w v 6 (mvS I v (drS I T W v w on x e) 6, 0)).1 B).2, goS I v (drS I T W v w on x e) 6)
theorem VS_jl {I T : Nat} {W : Option WF6} {v w : Nat → Int32} {on : Nat → Bool} {x : XT} {e : Nat} (hv : VS I v) : npS I w (jlS I w v 6 (mvS I v (drS I T W v w on x e) 6, 0)).1 = none ∧ VS I (jlS I w v 6 (mvS I v (drS I T W v w on x e) 6, 0)).1 := jlS_end 6 _ (VS_mv hv 6 (Nat.le_refl 6)) (Nat.le_trans (hcS_le _ _) (by omega))
theorem VS_ps {I T B : Nat} {W : Option WF6} {v w : Nat → Int32} {on : Nat → Bool} {x : XT} {e : Nat} (hv : VS I v) : VS I (psS I T B W v w on x e).1 := VS_of (VS_jl (T := T) (W := W) (w := w) (on := on) (x := x) (e := e) hv).2 fun j h1 h2 => by
  unfold psS
  show upd _ 42 _ j = _
  rw [upd_ne _ _ (by omega)]
  exact snS_o (by omega)
theorem fc_pass29 {s s1 : S2} {i I T B : Nat} {W : Option WF6} {on : Nat → Bool} {x : XT} {e : Nat} {w : Nat → Int32} (hv : VS I (s.1 21 i)) (hX : CX I T B W on x e w s) (hF : Fr KD s s1) (hd : DC (drS I T W (s.1 21 i) w on x e) s1) : ∃ s', f_Course_pass_L29 i s1 = some s' ∧ s'.1 21 i = (psS I T B W (s.1 21 i) w on x e).1 ∧ s'.1 31 0 14 = (psS I T B W (s.1 21 i) w on x e).2.1 ∧ s'.1 31 0 15 = (psS I T B W (s.1 21 i) w on x e).2.2.1 ∧ s'.1 31 0 16 = (psS I T B W (s.1 21 i) w on x e).2.2.2 ∧ Fr (KP i) s s' := by
  have e1 : s1.1 21 i = s.1 21 i := hF.arr fun _ => rfl
  have F1 : Fr (KP i) s s1 := hF.mono fun _ _ _ => KP_KD
  obtain ⟨s2, a1, a2, a3, a4, a5⟩ := fc_moveAll (s := s1) (i := i) (I := I) (by rw [e1]; exact hv) hd
  rw [e1] at a2 a3 a4
  have F2 : Fr (KP i) s (pkS s2 31 0 14 0) := (F1.trans a5).pk' _ rfl
  have e2 : (pkS s2 31 0 14 0).1 21 i = mvS I (s.1 21 i) (drS I T W (s.1 21 i) w on x e) 6 := by rw [pkS_1, if_neg (by omega), a2]
  have e14 : (pkS s2 31 0 14 0).1 31 0 14 = 0 := by rw [pkS_v, if_pos ⟨rfl, rfl, rfl⟩]
  obtain ⟨s3, b1, b2, b3, b4⟩ := fc_joinL (s0 := pkS s2 31 0 14 0) (i := i) (u := s.1 21 i) (w := w) 6 0 FU (pkS s2 31 0 14 0) (by omega) (lt_FU (by omega)) (by rw [e2]; exact VS_mv hv 6 (Nat.le_refl 6)) (CX_KP hX F2) (fun a ha hha => by
    rw [pkS_v, if_neg (by omega), pkS_v, if_neg (by omega)]; exact a4 a ha hha) (fun a ha hha => by rw [e2, isH_of (fun j h _ => mvS_hi h 6 (Nat.le_refl 6)) ha] at hha; exact hha) (Fr.refl _ _)
  rw [e2, e14] at b2 b3
  have hjl := VS_jl (T := T) (W := W) (w := w) (on := on) (x := x) (e := e) hv
  have F3 : Fr (KP i) s s3 := F2.trans (b4.mono fun _ _ _ => KQ_KP (i := i))
  have F4 : Fr (KP i) s (pkS s3 31 0 15 0) := F3.pk' _ rfl
  obtain ⟨s4, c1, c2, c3, c4⟩ := fc_snapL (s0 := pkS s3 31 0 15 0) (i := i) hjl.2 B 0 FU (pkS s3 31 0 15 0) (by omega) (lt_FU (by have := hX.1.1.2.2; omega)) (CX_KP hX F4) (by rw [pkS_1, if_neg (by omega), b2]; rfl) (by rw [pkS_v, if_pos ⟨rfl, rfl, rfl⟩]; rfl) (Fr.refl _ _)
  unfold f_Course_pass_L29
  rw [nI_0] at b1 c1
  rw [a1, Option.bind_some, Option.bind_some, of_0, b1]
  unfold f_Course_pass_L71 f_Course_snapBridges f_State_nextSeason
  rw [Option.bind_some, of_0, c1, Option.bind_some, Option.bind_some, Option.bind_some, of_1, c2]
  have F5 : Fr (KP i) s s4 := F4.trans (c4.mono fun c j k h => by
    unfold KP at h
    simp only [Bool.or_eq_false_iff, Bool.and_eq_false_iff, beq_eq_false_iff_ne] at h ⊢
    omega)
  refine ⟨_, rfl, ?_, ?_, ?_, ?_, F5.pk' _ (KP_21 i _)⟩
  · rw [pkS_same, c2]; rfl
  · rw [pkS_v, if_neg (by omega), c4.1 _ _ _ rfl, pkS_v, if_neg (by omega), b3]; rfl
  · rw [pkS_v, if_neg (by omega), c3]; rfl
  · rw [pkS_v, if_neg (by omega), c4.1 _ _ _ rfl, pkS_v, if_neg (by omega), b4.1 _ _ _ rfl, pkS_v, if_neg (by omega), a3]; rfl
theorem fc_pass {s : S2} {i I T B : Nat} {W : Option WF6} {on : Nat → Bool} {x : XT} {e : Nat} {w : Nat → Int32} (hv : VS I (s.1 21 i)) (hX : CX I T B W on x e w s) : ∃ s', f_Course_pass i s = some s' ∧ s'.1 21 i = (psS I T B W (s.1 21 i) w on x e).1 ∧ s'.1 31 0 14 = (psS I T B W (s.1 21 i) w on x e).2.1 ∧ s'.1 31 0 15 = (psS I T B W (s.1 21 i) w on x e).2.2.1 ∧ s'.1 31 0 16 = (psS I T B W (s.1 21 i) w on x e).2.2.2 ∧ Fr (KP i) s s' := by
  obtain ⟨s1, a1, a2, a3⟩ := fc_drawByTies hv hX
  have hX1 := CX_KD hX a3
  have e1 : s1.1 21 i = s.1 21 i := a3.arr fun _ => rfl
  unfold f_Course_pass f_Course_doesTradePull
  rw [a1, Option.bind_some, of_2, fc_ofWater (by omega), Option.bind_some, hX1.2.1, of_1]
  by_cases h2 : w 2 = nI 1
  · rw [if_pos h2, Option.bind_some, if_neg (by decide)]
    obtain ⟨s2, b1, b2, b3⟩ := fc_trade (s := s1) (r := 1) (i := i) (I := I) (T := T) (B := B) (w := w) (by rw [e1]; exact hv) ⟨hX1.1, hX1.2.1, hX1.2.2.1⟩
    have F2 : Fr KD s1 s2 := b3.mono fun c j k h => by
      unfold KD at h
      unfold KT
      simp only [Bool.or_eq_false_iff, Bool.and_eq_false_iff, beq_eq_false_iff_ne] at h ⊢
      omega
    have hX2 := CX_KD hX1 F2
    have e2 : s2.1 21 i = s.1 21 i := (F2.arr fun _ => rfl).trans e1
    rw [e1] at b2
    rw [b1, Option.bind_some]
    obtain ⟨s3, c1, c2, c3⟩ := fc_drawByTrade (s := s2) (i := i) (am := (trS I w (s.1 21 i) I).1) (d := dtS W (s.1 21 i) w T on x e) (by rw [e2]; exact hv) (by rw [e2]; exact trS_AV hv.1 I (Nat.le_refl I)) hX2 b2.1 (fun k hk => by
      have q1 : s2.1 33 0 k = s1.1 33 0 k := b3.1 _ _ _ (KT_ne (by omega))
      have q2 : s2.1 34 0 k = s1.1 34 0 k := b3.1 _ _ _ (KT_ne (by omega))
      rw [q1, q2]; exact a2 k hk)
    rw [c1, Option.bind_some]
    refine fc_pass29 hv hX ((a3.trans F2).trans c3) ?_
    unfold drS
    rw [if_pos h2]
    rw [e2] at c2
    exact c2
  · rw [if_neg h2, Option.bind_some, if_pos (by decide)]
    refine fc_pass29 hv hX a3 ?_
    unfold drS
    rw [if_neg h2]
    exact a2
