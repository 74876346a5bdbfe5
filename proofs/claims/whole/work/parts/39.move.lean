/-! ===== all go ===== -/
def clp (x : Int32) : Int32 := jmax (-999) (jmin (nI 999) x)
def mvS (I : Nat) (v : Nat → Int32) (d : D2) : Nat → (Nat → Int32)
  | 0 => v
  | a + 1 => if isH I v a then upd (upd (mvS I v d a) a (clp (v a + d.1 a / v (12 + a)))) (6 + a) (clp (v (6 + a) + d.2 a / v (12 + a))) else mvS I v d a
def goS (I : Nat) (v : Nat → Int32) (d : D2) : Nat → Int32
  | 0 => 0
  | a + 1 => if isH I v a then goS I v d a + (jabs (clp (v a + d.1 a / v (12 + a)) - v a) + jabs (clp (v (6 + a) + d.2 a / v (12 + a)) - v (6 + a))) else goS I v d a
theorem mvS_hi {I : Nat} {v : Nat → Int32} {d : D2} {j : Nat} (hj : 12 ≤ j) : ∀ k, k ≤ 6 → mvS I v d k j = v j
  | 0, _ => rfl
  | k + 1, hk => by
    show (if isH I v k then upd (upd (mvS I v d k) k _) (6 + k) _ else mvS I v d k) j = _
    split
    · rw [upd_ne _ _ (by omega), upd_ne _ _ (by omega)]; exact mvS_hi hj k (by omega)
    · exact mvS_hi hj k (by omega)
theorem mvS_lo {I : Nat} {v : Nat → Int32} {d : D2} : ∀ {k j : Nat}, k ≤ j → j < 6 → mvS I v d k j = v j ∧ mvS I v d k (6 + j) = v (6 + j)
  | 0, _, _, _ => ⟨rfl, rfl⟩
  | k + 1, j, h, hj => by
    have ih := mvS_lo (I := I) (v := v) (d := d) (k := k) (j := j) (by omega) hj
    show (if isH I v k then upd (upd (mvS I v d k) k _) (6 + k) _ else mvS I v d k) j = _ ∧ (if isH I v k then upd (upd (mvS I v d k) k _) (6 + k) _ else mvS I v d k) (6 + j) = _
    split
    · rw [upd_ne _ _ (by omega), upd_ne _ _ (by omega), upd_ne _ _ (by omega), upd_ne _ _ (by omega)]; exact ih
    · exact ih
theorem VS_of {I : Nat} {v v' : Nat → Int32} (hv : VS I v) (h : ∀ j, 12 ≤ j → j < 24 → v' j = v j) : VS I v' := by
  obtain ⟨h6, h1, h2, h3⟩ := hv
  have hh : ∀ a, a < 6 → hdS v' a = hdS v a := fun a ha => by unfold hdS; rw [h (18 + a) (by omega) (by omega)]
  refine ⟨h6, fun a ha => ?_, fun a ha hb => ?_, fun a ha => ?_⟩
  · obtain ⟨g1, g2, g3⟩ := h1 a ha
    rw [hh a (by omega), h (18 + a) (by omega) (by omega), hh _ (by omega)]
    exact ⟨g1, g2, g3⟩
  · rw [h (18 + a) (by omega) (by omega)]; exact h2 a ha hb
  · rw [h (12 + a) (by omega) (by omega)]; exact h3 a ha
theorem hdS_of {v v' : Nat → Int32} (h : ∀ j, 12 ≤ j → j < 24 → v' j = v j) {a : Nat} (ha : a < 6) : hdS v' a = hdS v a := by unfold hdS; rw [h (18 + a) (by omega) (by omega)]
theorem isH_of {I : Nat} {v v' : Nat → Int32} (h : ∀ j, 12 ≤ j → j < 24 → v' j = v j) {a : Nat} (ha : a < 6) : isH I v' a = isH I v a := by unfold isH; rw [hdS_of h ha]
theorem VS_mv {I : Nat} {v : Nat → Int32} {d : D2} (hv : VS I v) (k : Nat) (hk : k ≤ 6) : VS I (mvS I v d k) := VS_of hv fun j h _ => mvS_hi h k hk
theorem clp_held (x : Int32) (s : S2) : g_D_held x (nI 999) s = clp x := by
  unfold g_D_held clp
  rw [show -(nI 999) = -999 by decide]
theorem clp_within (x : Int32) (s : S2) : g_M_within x s = clp x := by
  unfold g_M_within clp
  rw [of_m999, of_999]
theorem fc_putAt {s : S2} {i a : Nat} {x y : Int32} (ha : a < 6) : f_State_putAt i (nI a) x y s = some (pkS (pkS s 21 i a (clp x)) 21 i (6 + a) (clp y)) := by
  unfold f_State_putAt
  simp (disch := omega) only [of_0, of_1, of_2, of_3, of_4, of_5, of_6, of_7, of_8, of_9, of_10, of_11, of_12, of_13, of_14, of_15, of_16, of_18, of_19, of_20, of_24, of_30, of_32, of_33, of_36, of_38, of_39, of_40, of_41, of_42, of_43, of_44, of_45, of_46, of_47, of_48, of_49, of_50, of_51, of_52, of_53, of_54, of_55, of_56, of_57, of_58, of_59, of_60, of_61, of_62, of_63, of_91, of_93, of_97, of_98, of_99, of_100, of_102, of_103, of_104, of_105, of_106, of_107, of_108, of_109, of_110, of_112, of_113, of_114, of_115, of_116, of_119, of_120, of_121, of_124, of_140, of_180, of_240, of_255, of_256, of_520, of_576, of_999, of_1000, of_1380, of_65536, of_252645135, of_858993459, of_1431655765, of_m1000000, of_m999, of_m99, of_m8, of_m2, of_m1, Int32.zero_add, nI_add, ix_nI, Option.bind_some, clp_held]
/-- scratch of a season on the class's state i -/
def KP (i c j k : Nat) : Bool := KD c j k || ((c == 21 && j == i) || (c == 35 || (c == 36 || (c == 31 && (k == 14 || (k == 15 || k == 16))))))
theorem KP_KD {i c j k : Nat} (h : KP i c j k = false) : KD c j k = false := (Bool.or_eq_false_iff.mp h).1
theorem KP_21 (i k : Nat) : KP i 21 i k = true := by unfold KP KD; simp
theorem CX_KP {i I T B : Nat} {W : Option WF6} {on : Nat → Bool} {x : XT} {e : Nat} {w : Nat → Int32} {s s' : S2} (h : CX I T B W on x e w s) (hF : Fr (KP i) s s') : CX I T B W on x e w s' := CX_fr h hF (fun _ => ⟨rfl, rfl, fun _ => ⟨rfl, rfl⟩, rfl, rfl, rfl, rfl⟩) rfl rfl rfl
/-- where the heads were -/
def WK (I : Nat) (u : Nat → Int32) (n : Nat) (s : S2) : Prop := ∀ a, a < n → isH I u a = true → s.1 35 0 a = u a ∧ s.1 36 0 a = u (6 + a)
theorem jmax_mass {m : Nat} (h : 1 ≤ m) (h2 : m ≤ 99) : jmax (nI 1) (nI m) = nI m := by
  unfold jmax
  by_cases c : 1 < m
  · rw [if_pos (nI_lt c (by omega))]
  · rw [if_neg (nI_nlt (by omega) (by omega)), show m = 1 by omega]
theorem fc_moveL {s0 : S2} {i I : Nat} {v : Nat → Int32} {d : D2} (hv : VS I v) : ∀ (m k fu : Nat) (s : S2), k + m = 6 → m < fu → s.1 21 i = mvS I v d k → DC d s → s.1 31 0 16 = goS I v d k → WK I v k s → Fr (KP i) s0 s → ∃ s', f_Course_moveAll_L7 i fu (nI k) s = some s' ∧ s'.1 21 i = mvS I v d 6 ∧ s'.1 31 0 16 = goS I v d 6 ∧ WK I v 6 s' ∧ Fr (KP i) s0 s' := by
  intro m
  induction m with
  | zero =>
    intro k fu s hk hf hs hd hg hw hF
    obtain ⟨f, rfl, hf'⟩ := suc_of hf
    have e : k = 6 := by omega
    subst e
    refine ⟨s, ?_, hs, hg, hw, hF⟩
    show b_Course_moveAll_L7 i _ _ _ = _
    unfold b_Course_moveAll_L7
    rw [of_6, if_pos (nI_le (by omega) (by omega))]
  | succ m ih =>
    intro k fu s hk hf hs hd hg hw hF
    obtain ⟨f, rfl, hf'⟩ := suc_lt hf
    have h6 := hv.1
    have hvs : VS I (s.1 21 i) := by rw [hs]; exact VS_mv hv k (by omega)
    have hih : isH I (s.1 21 i) k = isH I v k := by rw [hs]; exact isH_of (fun j h _ => mvS_hi h k (by omega)) (by omega)
    show ∃ s', b_Course_moveAll_L7 i _ _ _ = _ ∧ _
    unfold b_Course_moveAll_L7 f_Course_moveAll_L128
    rw [of_6, if_neg (nI_ge (by omega) (by omega)), fc_isHead hvs (by omega), Option.bind_some, hih, of_1, nI_add]
    cases hh : isH I v k with
    | false =>
      rw [if_pos (by decide)]
      refine ih (k + 1) f s (by omega) hf' ?_ hd ?_ (fun a ha hha => ?_) hF
      · rw [hs]
        show _ = if isH I v k then _ else mvS I v d k
        rw [hh]; rfl
      · rw [hg]
        show _ = if isH I v k then _ else goS I v d k
        rw [hh]; rfl
      · by_cases c : a = k
        · rw [c, hh] at hha; cases hha
        · exact hw a (by omega) hha
    | true =>
      rw [if_neg (by decide)]
      have hI := isH_lt hh
      have hk' : hdS v k = k := of_decide_eq_true (Bool.and_eq_true_iff.mp hh).2
      have hdk : hdS (s.1 21 i) k = k := by rw [hs, hdS_of (fun j h _ => mvS_hi h k (by omega)) (by omega)]; exact hk'
      obtain ⟨ms, m1, m2, m3⟩ := hv.2.2.2 k hI
      have lo := mvS_lo (I := I) (v := v) (d := d) (Nat.le_refl k) (show k < 6 by omega)
      have hsx : s.1 21 i k = v k := by rw [hs]; exact lo.1
      have hsy : s.1 21 i (6 + k) = v (6 + k) := by rw [hs]; exact lo.2
      have hsm : s.1 21 i (12 + k) = nI ms := by rw [hs, mvS_hi (by omega) k (by omega)]; exact m3
      have hdd := hd k (by omega)
      have F1 : Fr (KP i) s (pkS s 35 0 k (v k)) := Fr.pk rfl s _
      have e1 : (pkS s 35 0 k (v k)).1 21 i = s.1 21 i := by rw [pkS_1, if_neg (by omega)]
      have F2 : Fr (KP i) s (pkS (pkS s 35 0 k (v k)) 36 0 k (v (6 + k))) := F1.pk' _ rfl
      rw [fc_massOf hvs hI, Option.bind_some, fc_xOf hvs hI, Option.bind_some, hdk, hsm, hsx, jmax_mass m1 m2]
      simp (disch := omega) only [ix_nI, Option.bind_some]
      rw [fc_yOf (by rw [e1]; exact hvs) hI, Option.bind_some, e1, hdk, hsy]
      simp (disch := omega) only [ix_nI, Option.bind_some, nI_is0, pkS_1, Nat.reduceEqDiff, false_and, if_false, and_true, if_true, upd_eq, hdd.1, hdd.2, fc_putAt]
      have hm0 : ¬ ms = 0 := by omega
      rw [if_neg hm0, if_neg hm0]
      have e3 : (pkS (pkS s 35 0 k (v k)) 36 0 k (v (6 + k))).1 21 i = s.1 21 i := by rw [pkS_1, if_neg (by omega), e1]
      generalize hs2 : pkS (pkS s 35 0 k (v k)) 36 0 k (v (6 + k)) = s2 at F2 e3
      have e4 : (pkS (pkS s2 21 i k (clp (v k + d.1 k / nI ms))) 21 i (6 + k) (clp (v (6 + k) + d.2 k / nI ms))).1 21 i = mvS I v d (k + 1) := by
        rw [pkS_same, pkS_same, e3, hs]
        show _ = if isH I v k then _ else mvS I v d k
        rw [hh, if_pos rfl, m3]
      have F3 : Fr (KP i) s (pkS (pkS s2 21 i k (clp (v k + d.1 k / nI ms))) 21 i (6 + k) (clp (v (6 + k) + d.2 k / nI ms))) := (F2.pk' _ (KP_21 i _)).pk' _ (KP_21 i _)
      have hv3 : VS I ((pkS (pkS s2 21 i k (clp (v k + d.1 k / nI ms))) 21 i (6 + k) (clp (v (6 + k) + d.2 k / nI ms))).1 21 i) := by rw [e4]; exact VS_mv hv (k + 1) (by omega)
      have hd3 : hdS ((pkS (pkS s2 21 i k (clp (v k + d.1 k / nI ms))) 21 i (6 + k) (clp (v (6 + k) + d.2 k / nI ms))).1 21 i) k = k := by rw [e4, hdS_of (fun j h _ => mvS_hi h (k + 1) (by omega)) (by omega)]; exact hk'
      rw [fc_xOf hv3 hI, Option.bind_some, fc_yOf hv3 hI, Option.bind_some, hd3]
      have x1 : (pkS (pkS s2 21 i k (clp (v k + d.1 k / nI ms))) 21 i (6 + k) (clp (v (6 + k) + d.2 k / nI ms))).1 21 i k = clp (v k + d.1 k / nI ms) := by
        rw [pkS_same, pkS_same, upd_ne _ _ (by omega), upd_eq]
      have x2 : (pkS (pkS s2 21 i k (clp (v k + d.1 k / nI ms))) 21 i (6 + k) (clp (v (6 + k) + d.2 k / nI ms))).1 21 i (6 + k) = clp (v (6 + k) + d.2 k / nI ms) := by
        rw [pkS_same, upd_eq]
      rw [x1, x2]
      have y1 : (pkS (pkS s2 21 i k (clp (v k + d.1 k / nI ms))) 21 i (6 + k) (clp (v (6 + k) + d.2 k / nI ms))).1 31 0 16 = goS I v d k := by
        rw [pkS_v, if_neg (by omega), pkS_v, if_neg (by omega), ← hs2, pkS_v, if_neg (by omega), pkS_v, if_neg (by omega), hg]
      have y2 : ∀ a, (pkS (pkS s2 21 i k (clp (v k + d.1 k / nI ms))) 21 i (6 + k) (clp (v (6 + k) + d.2 k / nI ms))).1 35 0 a = if a = k then v k else s.1 35 0 a := fun a => by
        rw [pkS_v, if_neg (by omega), pkS_v, if_neg (by omega), ← hs2, pkS_v, if_neg (by omega), pkS_v]
        simp
      have y3 : ∀ a, (pkS (pkS s2 21 i k (clp (v k + d.1 k / nI ms))) 21 i (6 + k) (clp (v (6 + k) + d.2 k / nI ms))).1 36 0 a = if a = k then v (6 + k) else s.1 36 0 a := fun a => by
        rw [pkS_v, if_neg (by omega), pkS_v, if_neg (by omega), ← hs2, pkS_v]
        by_cases c : a = k
        · simp [c]
        · rw [if_neg (by omega), pkS_v, if_neg (by omega), if_neg c]
      have y4 : DC d (pkS (pkS s2 21 i k (clp (v k + d.1 k / nI ms))) 21 i (6 + k) (clp (v (6 + k) + d.2 k / nI ms))) := fun j hj => by
        rw [pkS_v, if_neg (by omega), pkS_v, if_neg (by omega), pkS_v, if_neg (by omega), pkS_v, if_neg (by omega), ← hs2, pkS_v, if_neg (by omega), pkS_v, if_neg (by omega), pkS_v, if_neg (by omega), pkS_v, if_neg (by omega)]
        exact hd j hj
      generalize hs3 : (pkS (pkS s2 21 i k (clp (v k + d.1 k / nI ms))) 21 i (6 + k) (clp (v (6 + k) + d.2 k / nI ms))) = s3 at e4 F3 y1 y2 y3 y4
      rw [hg]
      refine ih (k + 1) f _ (by omega) hf' ?_ (fun j hj => ?_) ?_ (fun a ha hha => ?_) (hF.trans (F3.pk' _ rfl))
      · rw [pkS_1, if_neg (by omega)]; exact e4
      · rw [pkS_v, if_neg (by omega), pkS_v, if_neg (by omega)]; exact y4 j hj
      · rw [pkS_v, if_pos ⟨rfl, rfl, rfl⟩]
        show _ = if isH I v k then _ else goS I v d k
        rw [hh, if_pos rfl, m3]
      · rw [pkS_v, if_neg (by omega), pkS_v, if_neg (by omega), y2, y3]
        by_cases c : a = k
        · rw [if_pos c, if_pos c, c]; exact ⟨rfl, rfl⟩
        · rw [if_neg c, if_neg c]; exact hw a (by omega) hha
theorem fc_moveAll {s : S2} {i I : Nat} {d : D2} (hv : VS I (s.1 21 i)) (hd : DC d s) : ∃ s', f_Course_moveAll i s = some s' ∧ s'.1 21 i = mvS I (s.1 21 i) d 6 ∧ s'.1 31 0 16 = goS I (s.1 21 i) d 6 ∧ WK I (s.1 21 i) 6 s' ∧ Fr (KP i) s s' := by
  unfold f_Course_moveAll
  rw [Option.bind_some, of_0]
  have := fc_moveL (s0 := s) (i := i) (d := d) hv 6 0 FU (pkS s 31 0 16 0) (by omega) (lt_FU (by omega)) (by rw [pkS_1, if_neg (by omega)]; rfl) (fun j hj => by rw [pkS_v, if_neg (by omega), pkS_v, if_neg (by omega)]; exact hd j hj) (by rw [pkS_v, if_pos ⟨rfl, rfl, rfl⟩]; rfl) (fun a ha => by omega) (Fr.pk rfl s _)
  rw [nI_0] at this
  exact this
