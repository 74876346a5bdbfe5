/-! ===== draws, storms, salt ===== -/
section
variable {I T B R : Nat} {W : Option WF6} {s s0 : S2} {w v : Nat → Int32}
theorem lb_of (x : Int64) : ∃ n, n < 2 ^ 64 ∧ x = lN n := ⟨x.toBitVec.toNat, x.toBitVec.isLt, Int64.toBitVec_inj.mp (by show _ = BitVec.ofNat 64 _; simp)⟩
theorem lb_am : ((Int32.ofInt 33).toInt64.toUInt64 &&& Int64.toUInt64 63) = UInt64.ofNat 33 := by decide +kernel
theorem lb_33 (x : Int64) : ∃ a, a < 2 ^ 31 ∧ jlushr x (Int32.ofInt 33) = lN a := by
  obtain ⟨n, hn, rfl⟩ := lb_of x
  refine ⟨n / 2 ^ 33, by omega, ?_⟩
  unfold jlushr
  rw [lb_am]
  apply Int64.toBitVec_inj.mp
  apply BitVec.eq_of_toNat_eq
  show ((lN n).toUInt64 >>> UInt64.ofNat 33).toNat = (BitVec.ofNat 64 _).toNat
  have h1 : (UInt64.ofNat 33).toNat = 33 := by decide +kernel
  have h2 : (lN n).toUInt64.toNat = n := by
    show (BitVec.ofNat 64 n).toNat = n
    rw [BitVec.toNat_ofNat, Nat.mod_eq_of_lt hn]
  rw [UInt64.toNat_shiftRight, h1, h2, Nat.shiftRight_eq_div_pow, BitVec.toNat_ofNat, Nat.mod_eq_of_lt (show n / 2 ^ 33 < 2 ^ 64 by omega)]
theorem nxL_ex : ∃ f : Int64 → Int64, ∀ x, f x = x * (Int64.ofInt 6364136223846793005) + (Int64.ofInt 1442695040888963407) := ⟨fun x => x * (Int64.ofInt 6364136223846793005) + (Int64.ofInt 1442695040888963407), fun _ => rfl⟩
/-- the next of the generator: chosen, so that nothing unfolds it -/
noncomputable def nxL : Int64 → Int64 := Classical.choose nxL_ex
theorem nxL_eq (x : Int64) : nxL x = x * (Int64.ofInt 6364136223846793005) + (Int64.ofInt 1442695040888963407) := Classical.choose_spec nxL_ex x
theorem dvL_ex : ∃ f : Int64 → Nat → Int32, ∀ x k, f x k = Int64.toInt32 (jremL (jlushr (nxL x) (Int32.ofInt 33)) (Int32.toInt64 (nI k))) := ⟨fun x k => Int64.toInt32 (jremL (jlushr (nxL x) (Int32.ofInt 33)) (Int32.toInt64 (nI k))), fun _ _ => rfl⟩
noncomputable def dvL : Int64 → Nat → Int32 := Classical.choose dvL_ex
theorem dvL_eq (x : Int64) (k : Nat) : dvL x k = Int64.toInt32 (jremL (jlushr (nxL x) (Int32.ofInt 33)) (Int32.toInt64 (nI k))) := Classical.choose_spec dvL_ex x k
noncomputable def dnL (x : Int64) (k : Nat) : Nat := (dvL x k).toNatClampNeg
theorem dv_n (x : Int64) {k : Nat} (h0 : 0 < k) (hk : k < 2 ^ 31) : dvL x k = nI (dnL x k) ∧ dnL x k < k := by
  obtain ⟨a, ha, e⟩ := lb_33 (nxL x)
  have key : dvL x k = nI (a % k) := by
    rw [dvL_eq]
    unfold jremL
    rw [e, nI_l hk, pk_lRem (by omega) h0 (by omega), lN_i]
  have hm := Nat.mod_lt a h0
  unfold dnL
  rw [key, nI_clamp (by omega)]
  exact ⟨rfl, hm⟩
theorem lN_n0 {k : Nat} (h0 : 0 < k) (hk : k < 2 ^ 31) : ¬ Int32.toInt64 (nI k) = 0 := by
  rw [nI_l hk]
  intro z
  have := (pk_lEQ (a := k) (b := 0) (by omega) (by omega)).mp (z.trans (by decide))
  omega
theorem uJ_eq (J : Nat → Int64) (c : Nat) (x : Int64) : uJ J c x c = x := by
  unfold uJ
  rw [show Nat.beq c c = true by simp]
  rfl
theorem fc_draw {k : Nat} (h0 : 0 < k) (hk : k < 2 ^ 31) : f_Weather_draw (nI k) s = some ((s.1, uJ s.2 25 (nxL (s.2 25))), dvL (s.2 25) k) := by
  unfold f_Weather_draw
  rw [← nxL_eq, Option.bind_some, if_neg (nI_nle h0 hk), if_neg (lN_n0 h0 hk), dvL_eq]
  show some ((s.1, uJ s.2 25 (nxL (s.2 25))), Int64.toInt32 (jremL (jlushr (uJ s.2 25 (nxL (s.2 25)) 25) (Int32.ofInt 33)) (Int32.toInt64 (nI k)))) = _
  rw [uJ_eq]
theorem fm_draw {k : Nat} (h0 : 0 < k) (hk : k < 2 ^ 31) : f_M_draw (nI k) s = some ((s.1, uJ s.2 60 (nxL (s.2 60))), dvL (s.2 60) k) := by
  unfold f_M_draw
  rw [← nxL_eq, Option.bind_some, if_neg (lN_n0 h0 hk), dvL_eq]
  show some ((s.1, uJ s.2 60 (nxL (s.2 60))), Int64.toInt32 (jremL (jlushr (uJ s.2 60 (nxL (s.2 60)) 60) (Int32.ofInt 33)) (Int32.toInt64 (nI k)))) = _
  rw [uJ_eq]
/-- the head with so many lower ones -/
def nhS (I : Nat) (v : Nat → Int32) : Nat → Nat → Nat → Option Nat
  | 0, _, _ => none
  | m + 1, k, j => if isH I v k then (if j = 0 then some k else nhS I v m (k + 1) (j - 1)) else nhS I v m (k + 1) j
theorem nhS_some : ∀ (m k j : Nat), j < hmS I v m k → ∃ i, nhS I v m k j = some i ∧ isH I v i = true := by
  intro m
  induction m with
  | zero => intro k j h; exact absurd h (Nat.not_lt_zero j)
  | succ m ih =>
    intro k j h
    have h' : j < (if isH I v k then 1 else 0) + hmS I v m (k + 1) := h
    unfold nhS
    cases c : isH I v k with
    | false =>
      rw [c, if_neg (by decide), Nat.zero_add] at h'
      rw [if_neg (by decide)]
      exact ih (k + 1) j h'
    | true =>
      rw [c, if_pos rfl] at h'
      rw [if_pos rfl]
      by_cases d : j = 0
      · rw [if_pos d]; exact ⟨k, rfl, c⟩
      · rw [if_neg d]; exact ih (k + 1) (j - 1) (by omega)
theorem hmS_pos : ∀ (m k i : Nat), k ≤ i → i < k + m → isH I v i = true → 0 < hmS I v m k := by
  intro m
  induction m with
  | zero => intro k i h1 h2; omega
  | succ m ih =>
    intro k i h1 h2 h3
    show 0 < (if isH I v k then 1 else 0) + hmS I v m (k + 1)
    by_cases c : k = i
    · rw [c, h3, if_pos rfl]; omega
    · have := ih (k + 1) i (by omega) (by omega) h3
      omega
theorem hm_pos (hv : VS I v) (h0 : 0 < I) : 0 < hmS I v I 0 := by
  obtain ⟨g1, g2, g3⟩ := hv.2.1 0 h0
  refine hmS_pos I 0 (hdS v 0) (by omega) (by omega) ?_
  unfold isH
  rw [decide_eq_true g2, decide_eq_true g3]; rfl
theorem nhS_cut {i : Nat} : ∀ (m k j m' : Nat), m ≤ m' → nhS I v m k j = some i → nhS I v m' k j = some i := by
  intro m
  induction m with
  | zero => intro k j m' _ h; cases h
  | succ m ih =>
    intro k j m' hm h
    obtain ⟨m'', rfl⟩ : ∃ q, m' = q + 1 := ⟨m' - 1, by omega⟩
    unfold nhS at h ⊢
    cases c : isH I v k with
    | false =>
      rw [c, if_neg (by decide)] at h
      rw [if_neg (by decide)]
      exact ih (k + 1) j m'' (by omega) h
    | true =>
      rw [c, if_pos rfl] at h
      rw [if_pos rfl]
      by_cases d : j = 0
      · rw [if_pos d] at h ⊢; exact h
      · rw [if_neg d] at h ⊢; exact ih (k + 1) (j - 1) m'' (by omega) h
theorem fc_nthL {i q : Nat} (hv : VS I (s.1 21 i)) : ∀ (m k fu j c : Nat), k + m = 6 → m < fu → c + j < 100 → nhS I (s.1 21 i) m k j = some q → f_State_headByNumber_L4 i fu (nI (c + j)) (nI c) (nI k) s = some (nI q) := by
  intro m
  induction m with
  | zero => intro k fu j c hk hf hc h; cases h
  | succ m ih =>
    intro k fu j c hk hf hc h
    obtain ⟨f, rfl, hf'⟩ := suc_lt hf
    show b_State_headByNumber_L4 _ _ _ _ _ _ = _
    unfold b_State_headByNumber_L4 f_State_headByNumber_L28
    unfold nhS at h
    rw [of_6, if_neg (nI_ge (by omega) (by omega)), fc_isHead hv (by omega), Option.bind_some, of_1, nI_add, nI_add]
    cases d : isH I (s.1 21 i) k with
    | false =>
      rw [d, if_neg (by decide)] at h
      rw [ifF]
      exact ih (k + 1) f j c (by omega) hf' hc h
    | true =>
      rw [d, if_pos rfl] at h
      rw [ifT]
      by_cases e : j = 0
      · rw [if_pos e] at h
        cases h
        rw [if_pos (by rw [e]; rfl)]
      · rw [if_neg e] at h
        rw [if_neg (fun z => e (by have := (nI_eq (by omega) (by omega)).mp z; omega))]
        have := ih (k + 1) f (j - 1) (c + 1) (by omega) hf' (by omega) h
        rw [show c + 1 + (j - 1) = c + j by omega] at this
        exact this
/-- an isle is tossed -/
noncomputable def tsS (I : Nat) (v : Nat → Int32) (x : Int64) : Nat → Int32 := match nhS I v I 0 (dnL x (hmS I v I 0)) with
  | none => v
  | some i => upd (upd v i (clp (v i + (dvL (nxL x) 19 - nI 9)))) (6 + i) (clp (v (6 + i) + (dvL (nxL (nxL x)) 19 - nI 9)))
def K210 (c i _ : Nat) : Bool := c == 21 && i == 0
theorem fc_toss (hv : VS I (s.1 21 0)) (h0 : 0 < I) : ∃ s', f_Weather_toss 0 s = some s' ∧ s'.1 21 0 = tsS I (s.1 21 0) (s.2 25) ∧ s'.2 25 = nxL (nxL (nxL (s.2 25))) ∧ Fr K210 (s.1, s'.2) s' := by
  have h6 := hv.1
  have hp := hm_pos hv h0
  have hle := hmS_le (I := I) (v := s.1 21 0) I 0
  obtain ⟨e1, e2⟩ := dv_n (s.2 25) hp (by omega)
  obtain ⟨i, i1, i2⟩ := nhS_some (I := I) (v := s.1 21 0) I 0 _ e2
  have hi := isH_lt i2
  have hd := of_decide_eq_true (Bool.and_eq_true_iff.mp i2).2
  have i3 := nhS_cut I 0 _ 6 h6 i1
  unfold f_Weather_toss
  rw [fc_heads hv, Option.bind_some, fc_draw hp (by omega), Option.bind_some]
  have en : f_State_headByNumber 0 (dvL (s.2 25) (hmS I (s.1 21 0) I 0)) (s.1, uJ s.2 25 (nxL (s.2 25))) = some (nI i) := by
    unfold f_State_headByNumber
    rw [e1, show Int32.ofInt 0 = nI 0 from of_0]
    have := fc_nthL (s := (s.1, uJ s.2 25 (nxL (s.2 25)))) (i := 0) hv 6 0 FU (dnL (s.2 25) (hmS I (s.1 21 0) I 0)) 0 (by omega) (lt_FU (by omega)) (by omega) i3
    rw [Nat.zero_add] at this
    exact this
  rw [show ((s.1, uJ s.2 25 (nxL (s.2 25))), dvL (s.2 25) (hmS I (s.1 21 0) I 0)).2 = dvL (s.2 25) (hmS I (s.1 21 0) I 0) from rfl, en, Option.bind_some, of_19, fc_draw (k := 19) (by omega) (by omega), Option.bind_some, fc_draw (k := 19) (by omega) (by omega), Option.bind_some, of_m1, if_neg (show ¬ nI i = -1 from cdO_nm1 i (by omega))]
  dsimp only
  rw [uJ_eq, uJ_eq]
  generalize hJ : uJ (uJ (uJ s.2 25 (nxL (s.2 25))) 25 (nxL (nxL (s.2 25)))) 25 (nxL (nxL (nxL (s.2 25)))) = J
  have eJ : J 25 = nxL (nxL (nxL (s.2 25))) := by rw [← hJ, uJ_eq]
  rw [fc_xOf (s := (s.1, J)) hv hi, Option.bind_some, fc_yOf (s := (s.1, J)) hv hi, Option.bind_some, fc_putAt (by omega), Option.bind_some, of_9]
  dsimp only
  rw [hd]
  refine ⟨_, rfl, ?_, eJ, ?_⟩
  · rw [pkS_same, pkS_1, if_pos ⟨rfl, rfl⟩]
    unfold tsS
    rw [i1]
  · exact ((Fr.refl K210 (s.1, J)).pk' _ rfl).pk' _ rfl
/-- storm and salt of a season: the state, the generator -/
noncomputable def slS (T : Nat) (sa : Int32) (q : (Nat → Int32) × Int64) : (Nat → Int32) × Int64 := if sa ≤ dvL q.2 100 then (q.1, nxL q.2) else if T = 0 then (q.1, nxL q.2) else (upd q.1 (30 + dnL (nxL q.2) T) (nI 1 - q.1 (30 + dnL (nxL q.2) T)), nxL (nxL q.2))
noncomputable def stQ (I : Nat) (v : Nat → Int32) (st : Int32) (x : Int64) : (Nat → Int32) × Int64 := if st ≤ dvL x 100 then (v, nxL x) else (tsS I v (nxL x), nxL (nxL (nxL (nxL x))))
noncomputable def skS (I T : Nat) (v : Nat → Int32) (st sa : Int32) (x : Int64) : (Nat → Int32) × Int64 := slS T sa (stQ I v st x)
theorem skS_eq (v : Nat → Int32) (st sa : Int32) (x : Int64) : skS I T v st sa x = slS T sa (stQ I v st x) := rfl
theorem tsS_o {x : Int64} {j : Nat} (h6 : I ≤ 6) (hj : 12 ≤ j) : tsS I v x j = v j := by
  unfold tsS
  cases c : nhS I v I 0 (dnL x (hmS I v I 0)) with
  | none => rfl
  | some i =>
    have : i < 6 := by
      have : ∀ (m k j : Nat), nhS I v m k j = some i → i < I := by
        intro m
        induction m with
        | zero => intro k j h; cases h
        | succ m ih =>
          intro k j h
          unfold nhS at h
          split at h
          · rename_i hh
            split at h
            · cases h; exact isH_lt hh
            · exact ih _ _ h
          · exact ih _ _ h
      have := this _ _ _ c
      omega
    show upd (upd v i _) (6 + i) _ j = v j
    rw [upd_ne _ _ (by omega), upd_ne _ _ (by omega)]
theorem skS_o {st sa : Int32} {x : Int64} {j : Nat} (h6 : I ≤ 6) (h8 : T ≤ 8) (hj : 12 ≤ j) (hj2 : j < 30 ∨ 38 ≤ j) : (skS I T v st sa x).1 j = v j := by
  have h1 : (stQ I v st x).1 j = v j := by
    unfold stQ
    split
    · rfl
    · exact tsS_o h6 hj
  rw [skS_eq]
  unfold slS
  split
  · exact h1
  · split
    · exact h1
    · rename_i c
      have := (dv_n (nxL (stQ I v st x).2) (show 0 < T by omega) (by omega)).2
      show upd _ _ _ j = v j
      rw [upd_ne _ _ (by omega)]
      exact h1
theorem VS_sk {st sa : Int32} {x : Int64} (hv : VS I v) (h8 : T ≤ 8) : VS I (skS I T v st sa x).1 := VS_of hv fun _ h1 h2 => skS_o hv.1 h8 h1 (by omega)
theorem VS_ts {x : Int64} (hv : VS I v) : VS I (tsS I v x) := VS_of hv fun _ h1 _ => tsS_o hv.1 h1
theorem fc_salt {sa : Int32} {u : Nat → Int32} (h8 : T ≤ 8) (hs : s.1 25 0 1 = sa) (hu : s.1 21 0 = u) : ∃ s', f_Weather_strike_L18 0 (nI T) s = some s' ∧ s'.1 21 0 = (slS T sa (u, s.2 25)).1 ∧ s'.2 25 = (slS T sa (u, s.2 25)).2 ∧ Fr K210 (s.1, s'.2) s' := by
  unfold f_Weather_strike_L18 slS
  rw [show Int32.ofInt 100 = nI 100 from of_100, fc_draw (k := 100) (by omega) (by omega), Option.bind_some]
  dsimp only
  rw [hs]
  by_cases c : sa ≤ dvL (s.2 25) 100
  · rw [if_pos c, if_pos c]
    exact ⟨_, rfl, hu, uJ_eq s.2 25 (nxL (s.2 25)), Fr.refl _ _⟩
  · rw [if_neg c, if_neg c]
    by_cases d : T = 0
    · rw [if_pos d, d, if_pos (by decide)]
      exact ⟨_, rfl, hu, uJ_eq s.2 25 (nxL (s.2 25)), Fr.refl _ _⟩
    · obtain ⟨e1, e2⟩ := dv_n (nxL (s.2 25)) (show 0 < T by omega) (by omega)
      rw [if_neg d, if_neg (nI_nle (by omega) (by omega)), fc_draw (k := T) (by omega) (by omega), Option.bind_some]
      dsimp only
      rw [uJ_eq, e1]
      unfold f_State_turnKind
      rw [of_30, nI_add, ix_nI (by omega) (by omega), Option.bind_some, Option.bind_some, Option.bind_some, Option.bind_some, of_1]
      dsimp only
      refine ⟨_, rfl, ?_, uJ_eq (uJ s.2 25 (nxL (s.2 25))) 25 (nxL (nxL (s.2 25))), (Fr.refl K210 _).pk' _ rfl⟩
      rw [pkS_same, hu]
theorem fc_strike {st sa : Int32} (hv : VS I (s.1 21 0)) (h0 : 0 < I) (h8 : T ≤ 8) (hst : s.1 25 0 0 = st) (hsa : s.1 25 0 1 = sa) : ∃ s', f_Weather_strike 0 (nI T) s = some s' ∧ s'.1 21 0 = (skS I T (s.1 21 0) st sa (s.2 25)).1 ∧ s'.2 25 = (skS I T (s.1 21 0) st sa (s.2 25)).2 ∧ Fr K210 (s.1, s'.2) s' := by
  rw [skS_eq]
  unfold f_Weather_strike stQ
  rw [show Int32.ofInt 100 = nI 100 from of_100, fc_draw (k := 100) (by omega) (by omega), Option.bind_some]
  dsimp only
  rw [hst]
  by_cases c : st ≤ dvL (s.2 25) 100
  · rw [if_pos c, if_pos c]
    have := fc_salt (T := T) (s := (s.1, uJ s.2 25 (nxL (s.2 25)))) (sa := sa) (u := s.1 21 0) h8 hsa rfl
    rw [show (s.1, uJ s.2 25 (nxL (s.2 25))).2 25 = nxL (s.2 25) from uJ_eq s.2 25 (nxL (s.2 25))] at this
    exact this
  · rw [if_neg c, if_neg c]
    obtain ⟨s1, a1, a2, a3, a4⟩ := fc_toss (s := (s.1, uJ s.2 25 (nxL (s.2 25)))) hv h0
    rw [show (s.1, uJ s.2 25 (nxL (s.2 25))).2 25 = nxL (s.2 25) from uJ_eq s.2 25 (nxL (s.2 25))] at a2 a3
    obtain ⟨s2, b1, b2, b3, b4⟩ := fc_salt (T := T) (s := s1) (sa := sa) h8 ((a4.1 25 0 1 rfl).trans hsa) a2
    rw [a3] at b2 b3
    rw [a1, Option.bind_some]
    exact ⟨s2, b1, b2, b3, ⟨fun c i k hk => (b4.1 c i k hk).trans (a4.1 c i k hk), rfl⟩⟩
/-- the reference's -/
theorem fm_salt {sa : Int32} {u : Nat → Int32} (h6 : I ≤ 6) (h8 : T ≤ 8) (h4 : B ≤ 4) (hs : s.1 60 0 39 = sa) (hT : s.1 60 0 29 = nI T) (hr : RS I T B u s) : ∃ s', f_M_blow_L108 s = some s' ∧ RS I T B (slS T sa (u, s.2 60)).1 s' ∧ s'.2 60 = (slS T sa (u, s.2 60)).2 ∧ Fr KR (s.1, s'.2) s' := by
  unfold f_M_blow_L108 slS
  rw [show Int32.ofInt 100 = nI 100 from of_100, fm_draw (k := 100) (by omega) (by omega), Option.bind_some]
  dsimp only
  rw [hs, hT]
  by_cases c : sa ≤ dvL (s.2 60) 100
  · rw [if_pos c, if_pos c]
    exact ⟨_, rfl, hr, uJ_eq s.2 60 (nxL (s.2 60)), Fr.refl _ _⟩
  · rw [if_neg c, if_neg c]
    by_cases d : T = 0
    · rw [if_pos d, d, if_pos (by decide)]
      rw [d] at hr
      exact ⟨_, rfl, hr, uJ_eq s.2 60 (nxL (s.2 60)), Fr.refl _ _⟩
    · obtain ⟨e1, e2⟩ := dv_n (nxL (s.2 60)) (show 0 < T by omega) (by omega)
      rw [if_neg d, if_neg (nI_nle (by omega) (by omega)), fm_draw (k := T) (by omega) (by omega), Option.bind_some]
      dsimp only
      rw [uJ_eq, e1]
      generalize hJ : uJ (uJ s.2 60 (nxL (s.2 60))) 60 (nxL (nxL (s.2 60))) = J
      have eJ : J 60 = nxL (nxL (s.2 60)) := by rw [← hJ, uJ_eq]
      have hc : g_M_isTie (nI (dnL (nxL (s.2 60)) T)) (s.1, J) = true := by
        unfold g_M_isTie
        rw [g_M_in_eq, show (s.1, J).1 60 0 29 = nI T from hT, show Int32.ofInt 0 = nI 0 from of_0, of_1, sub_nI (by omega)]
        exact inS_of (by omega) (by omega) (by omega)
      have hr' : RS I T B u (s.1, J) := hr
      have et : f_M_turn (nI (dnL (nxL (s.2 60)) T)) (s.1, J) = some (pkS (s.1, J) 77 0 (4 * dnL (nxL (s.2 60)) T + 2) (nI 1 - s.1 77 0 (4 * dnL (nxL (s.2 60)) T + 2)), true) := by
        unfold f_M_turn
        rw [hc, ifT, of_4, mul_nI, of_2, nI_add, ix_nI (n := 44) (k := 4 * dnL (nxL (s.2 60)) T + 2) (by omega) (by omega), Option.bind_some, Option.bind_some, Option.bind_some, of_1]
      rw [et, Option.bind_some]
      refine ⟨_, rfl, ?_, eJ, (Fr.refl KR _).pk' _ (KR_77 _)⟩
      obtain ⟨r1, r2, ⟨m, m1, m2, m3⟩, r4⟩ := hr'
      generalize dnL (nxL (s.2 60)) T = t at e2
      refine ⟨fun j hj => ?_, fun z hz => ?_, ⟨m, m1, ?_, fun j hj => ?_⟩, ?_⟩
      · obtain ⟨g1, g2, g3, g4, g5, g6⟩ := r1 j hj
        simp only [pkS_v, Nat.reduceEqDiff, false_and, if_false]
        refine ⟨?_, ?_, ?_, ?_, ?_, ?_⟩
        · rw [upd_ne _ _ (by omega)]; exact g1
        · rw [upd_ne _ _ (by omega)]; exact g2
        · rw [upd_ne _ _ (by omega)]; exact g3
        · rw [upd_ne _ _ (by omega)]; exact g4
        · rw [upd_ne _ _ (by omega)]; exact g5
        · rw [upd_ne _ _ (by omega)]; exact g6
      · rw [pkS_v]
        by_cases e : z = t
        · rw [if_pos ⟨rfl, rfl, by omega⟩, e, upd_eq, r2 t (by omega)]
        · rw [if_neg (by omega), upd_ne _ _ (by omega)]
          exact r2 z hz
      · rw [pkS_v, if_neg (by omega)]; exact m2
      · rw [upd_ne _ _ (by omega)]; exact m3 j hj
      · rw [upd_ne _ _ (by omega), pkS_v, if_neg (by omega)]; exact r4
theorem fm_nthL {i : Nat} (hI : s.1 60 0 28 = nI I) (hv : VS I v) (hr : RS I T B v s) : ∀ (m k fu j : Nat), k + m = I → m < fu → j < 100 → nhS I v m k j = some i → ∃ f, f_M_blow_L24 fu (nI j) (nI k) s = b_M_blow_L24 (f_M_blow_L24 f) 0 (nI i) s := by
  have h6 := hv.1
  intro m
  induction m with
  | zero => intro k fu j hk hf hj h; cases h
  | succ m ih =>
    intro k fu j hk hf hj h
    obtain ⟨f, rfl, hf'⟩ := suc_lt hf
    unfold nhS at h
    cases d : isH I v k with
    | false =>
      rw [d, if_neg (by decide)] at h
      obtain ⟨f', e⟩ := ih (k + 1) f j (by omega) hf' hj h
      refine ⟨f', ?_⟩
      rw [← e]
      show b_M_blow_L24 _ _ _ _ = _
      unfold b_M_blow_L24 f_M_blow_L36 f_M_blow_L50
      rw [fm_isHead hI hv hr (by omega), Option.bind_some, d, ifF, Option.bind_some, ifF, of_1, nI_add, of_0, Int32.sub_zero]
    | true =>
      rw [d, if_pos rfl] at h
      by_cases e : j = 0
      · rw [if_pos e] at h
        cases h
        exact ⟨f, by rw [e, nI_0]; rfl⟩
      · rw [if_neg e] at h
        obtain ⟨f', e'⟩ := ih (k + 1) f (j - 1) (by omega) hf' (by omega) h
        refine ⟨f', ?_⟩
        rw [← e']
        show b_M_blow_L24 _ _ _ _ = _
        unfold b_M_blow_L24 f_M_blow_L36 f_M_blow_L50
        rw [fm_isHead hI hv hr (by omega), Option.bind_some, d, ifT, if_neg (nI_nle (by omega) (by omega)), Option.bind_some, ifT, of_1, nI_add, sub_nI (by omega)]
theorem i_asub (a b c : Int32) : a + b - c = a + (b - c) := by
  rw [Int32.sub_eq_add_neg, Int32.sub_eq_add_neg, Int32.add_assoc]
theorem fm_blow {st sa : Int32} (h0 : 0 < I) (h8 : T ≤ 8) (h4 : B ≤ 4) (hI : s.1 60 0 28 = nI I) (hv : VS I v) (hr : RS I T B v s) (hT : s.1 60 0 29 = nI T) (hst : s.1 60 0 38 = st) (hsa : s.1 60 0 39 = sa) : ∃ s', f_M_blow s = some s' ∧ RS I T B (skS I T v st sa (s.2 60)).1 s' ∧ s'.2 60 = (skS I T v st sa (s.2 60)).2 ∧ Fr KR (s.1, s'.2) s' := by
  have h6 := hv.1
  rw [skS_eq]
  unfold f_M_blow stQ
  rw [show Int32.ofInt 100 = nI 100 from of_100, fm_draw (k := 100) (by omega) (by omega), Option.bind_some]
  dsimp only
  rw [hst]
  by_cases c : st ≤ dvL (s.2 60) 100
  · rw [if_pos c, if_pos c]
    have := fm_salt (I := I) (T := T) (B := B) (s := (s.1, uJ s.2 60 (nxL (s.2 60)))) (sa := sa) (u := v) h6 h8 h4 hsa hT hr
    rw [show (s.1, uJ s.2 60 (nxL (s.2 60))).2 60 = nxL (s.2 60) from uJ_eq s.2 60 (nxL (s.2 60))] at this
    exact this
  · have hp := hm_pos hv h0
    have hle := hmS_le (I := I) (v := v) I 0
    obtain ⟨e1, e2⟩ := dv_n (nxL (s.2 60)) hp (by omega)
    obtain ⟨i, i1, i2⟩ := nhS_some (I := I) (v := v) I 0 _ e2
    have hi := isH_lt i2
    have hr1 : RS I T B v (s.1, uJ s.2 60 (nxL (s.2 60))) := hr
    rw [if_neg c, if_neg c, fm_heads (s := (s.1, uJ s.2 60 (nxL (s.2 60)))) hI hv hr1, Option.bind_some, fm_draw hp (by omega), Option.bind_some]
    dsimp only
    rw [uJ_eq, e1, show Int32.ofInt 0 = nI 0 from of_0]
    obtain ⟨f, ef⟩ := fm_nthL (s := (s.1, uJ (uJ s.2 60 (nxL (s.2 60))) 60 (nxL (nxL (s.2 60))))) hI hv hr I 0 FU _ (by omega) (lt_FU (by omega)) (by omega) i1
    rw [ef]
    unfold b_M_blow_L24
    rw [fm_isHead (s := (s.1, uJ (uJ s.2 60 (nxL (s.2 60))) 60 (nxL (nxL (s.2 60))))) hI hv hr (by omega), Option.bind_some, i2, ifT, if_pos (by decide), ix_nI (n := 6) (k := i) (by omega) (by omega), Option.bind_some, of_19, fm_draw (k := 19) (by omega) (by omega), Option.bind_some, Option.bind_some, Option.bind_some, Option.bind_some]
    dsimp only
    rw [uJ_eq]
    generalize hJ : uJ (uJ (uJ s.2 60 (nxL (s.2 60))) 60 (nxL (nxL (s.2 60)))) 60 (nxL (nxL (nxL (s.2 60)))) = J
    have eJ : J 60 = nxL (nxL (nxL (s.2 60))) := by rw [← hJ, uJ_eq]
    generalize hx : g_M_within (s.1 79 0 i + dvL (nxL (nxL (s.2 60))) 19 - Int32.ofInt 9) (s.1, J) = X
    rw [fm_draw (s := pkS (s.1, J) 79 0 i X) (k := 19) (by omega) (by omega), Option.bind_some, Option.bind_some, Option.bind_some]
    dsimp only
    rw [show (pkS (s.1, J) 79 0 i X).2 = J from rfl, eJ]
    generalize hJ2 : uJ J 60 (nxL (nxL (nxL (nxL (s.2 60))))) = J2
    have eJ2 : J2 60 = nxL (nxL (nxL (nxL (s.2 60)))) := by rw [← hJ2, uJ_eq]
    have ey : (pkS (s.1, J) 79 0 i X).1 80 0 i = s.1 80 0 i := by rw [pkS_v, if_neg (by omega)]
    rw [ey, clp_within, i_asub, of_9]
    rw [clp_within, i_asub, of_9] at hx
    have r := hr.1 i hi
    have hr2 : RS I T B (upd (upd v i X) (6 + i) (clp (s.1 80 0 i + (dvL (nxL (nxL (nxL (s.2 60)))) 19 - nI 9)))) (pkS (pkS (s.1, J2) 79 0 i X) 80 0 i (clp (s.1 80 0 i + (dvL (nxL (nxL (nxL (s.2 60)))) 19 - nI 9)))) := RS_put (s := (s.1, J2)) hr hi h6 _ _
    obtain ⟨s2, b1, b2, b3, b4⟩ := fm_salt (sa := sa) (s := pkS (pkS (s.1, J2) 79 0 i X) 80 0 i (clp (s.1 80 0 i + (dvL (nxL (nxL (nxL (s.2 60)))) 19 - nI 9)))) h6 h8 h4 (by rw [pkS_v, if_neg (by omega), pkS_v, if_neg (by omega)]; exact hsa) (by rw [pkS_v, if_neg (by omega), pkS_v, if_neg (by omega)]; exact hT) hr2
    have et : tsS I v (nxL (s.2 60)) = upd (upd v i X) (6 + i) (clp (s.1 80 0 i + (dvL (nxL (nxL (nxL (s.2 60)))) 19 - nI 9))) := by
      unfold tsS
      rw [i1]
      show upd (upd v i (clp (v i + (dvL (nxL (nxL (s.2 60))) 19 - nI 9)))) (6 + i) (clp (v (6 + i) + (dvL (nxL (nxL (nxL (s.2 60)))) 19 - nI 9))) = _
      rw [← hx, ← r.1, ← r.2.1]
    rw [show (pkS (pkS (s.1, J2) 79 0 i X) 80 0 i (clp (s.1 80 0 i + (dvL (nxL (nxL (nxL (s.2 60)))) 19 - nI 9)))).2 60 = nxL (nxL (nxL (nxL (s.2 60)))) from eJ2] at b2 b3
    rw [et]
    refine ⟨s2, b1, b2, b3, ⟨fun c i' k hk => (b4.1 c i' k hk).trans ?_, rfl⟩⟩
    exact (((Fr.refl KR (s.1, J2)).pk' _ (by unfold KR; rfl)).pk' _ (by unfold KR; rfl)).1 c i' k hk
end
