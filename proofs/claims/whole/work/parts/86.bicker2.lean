/-! ===== bickering: the reference ===== -/
section
variable {I T B R : Nat} {W : Option WF6} {s s0 : S2} {w v u : Nat → Int32} {p q n : Nat} {lo hi st : Int32}
theorem alB_mem : ∀ m D, D ∈ alB m → D.length = m ∧ ∀ d, d ∈ D → d ≤ 2 := by
  intro m
  induction m with
  | zero =>
    intro D h
    rw [List.mem_singleton.mp h]
    exact ⟨rfl, fun d hd => by cases hd⟩
  | succ m ih =>
    intro D h
    have key : ∀ e, e ≤ 2 → D ∈ (alB m).map (e :: ·) → D.length = m + 1 ∧ ∀ d, d ∈ D → d ≤ 2 := fun e he h => by
      obtain ⟨E, h1, rfl⟩ := List.mem_map.mp h
      obtain ⟨g1, g2⟩ := ih E h1
      refine ⟨by rw [List.length_cons, g1], fun d hd => ?_⟩
      rcases List.mem_cons.mp hd with z | z
      · omega
      · exact g2 d z
    rcases List.mem_append.mp h with z | z
    · exact key 0 (by omega) z
    · rcases List.mem_append.mp z with z | z
      · exact key 1 (by omega) z
      · exact key 2 (by omega) z
theorem rwD_lt : ∀ (D : List Nat) (r : Nat), (∀ d, d ∈ D → d ≤ 2) → rwD r D < (r + 1) * 10 ^ D.length := by
  intro D
  induction D with
  | nil => intro r _; show r < (r + 1) * 1; omega
  | cons d D ih =>
    intro r h
    have h1 := ih (10 * r + d) fun x hx => h x (List.mem_cons_of_mem d hx)
    have h2 := h d List.mem_cons_self
    show rwD (10 * r + d) D < (r + 1) * 10 ^ (D.length + 1)
    refine Nat.lt_of_lt_of_le h1 ?_
    rw [Nat.pow_succ, Nat.mul_comm (10 ^ D.length) 10, ← Nat.mul_assoc]
    exact Nat.mul_le_mul_right _ (by omega)
theorem dlc_sh : ∀ (D : List Nat) (r : Nat), D.foldl (fun r d => r + (if d = 0 then 0 else 1)) r = r + dlc D := by
  intro D
  induction D with
  | nil => intro r; rfl
  | cons d D ih =>
    intro r
    show D.foldl _ (r + (if d = 0 then 0 else 1)) = r + D.foldl _ (0 + (if d = 0 then 0 else 1))
    rw [ih, ih (0 + _)]
    omega
def okB (b : Option (Nat × Nat)) : Prop := ∀ z, b = some z → z.1 < 10000000 ∧ z.2 ≤ 100
theorem fold_ok {k : List Nat → Bool} {r c : Nat} : ∀ (l : List (List Nat)) (b : Option (Nat × Nat)), (∀ D, D ∈ l → rwD r D < 10000000 ∧ c + dlc D ≤ 100) → okB b → okB (l.foldl (fdB k r c) b) := by
  intro l
  induction l with
  | nil => intro b _ hb; exact hb
  | cons D l ih =>
    intro b h hb
    refine ih _ (fun E hE => h E (List.mem_cons_of_mem D hE)) ?_
    unfold fdB
    split
    · intro z hz
      cases hz
      exact h D List.mem_cons_self
    · exact hb
theorem fBS_ok {r c m k : Nat} {b : Option (Nat × Nat)} (hr : r < 10 ^ k) (hc : c ≤ k) (hk : k + m ≤ 6) (hb : okB b) : okB (fBS I T B W w p q lo hi st v r c m b) := by
  refine fold_ok _ _ (fun D hD => ?_) hb
  obtain ⟨g1, g2⟩ := alB_mem m D hD
  have h1 := rwD_lt D r g2
  have h2 := dlc_le D 0
  rw [g1] at h1 h2
  have h3 : (r + 1) * 10 ^ m ≤ 10 ^ k * 10 ^ m := Nat.mul_le_mul_right _ hr
  rw [← Nat.pow_add] at h3
  have h4 : 10 ^ (k + m) ≤ 10 ^ 6 := Nat.pow_le_pow_right (by omega) hk
  unfold dlc
  omega
theorem fold_pr {k : List Nat → Bool} {r c : Nat} {z : Nat × Nat} (hz : z.2 ≤ c) : ∀ (l : List (List Nat)), l.foldl (fdB k r c) (some z) = some z := by
  intro l
  induction l with
  | nil => rfl
  | cons D l ih =>
    show l.foldl (fdB k r c) (fdB k r c (some z) D) = some z
    rw [show fdB k r c (some z) D = some z from by
      unfold fdB
      rw [show ltB (c + dlc D) (some z) = false from decide_eq_false (by omega), Bool.and_false, if_neg (by decide)]]
    exact ih
/-- one digit of the reference's search -/
def gdB (I T B : Nat) (W : Option WF6) (w : Nat → Int32) (p q : Nat) (lo hi st : Int32) (v : Nat → Int32) (r c m d : Nat) (b : Option (Nat × Nat)) : Option (Nat × Nat) := if inS (apS (stB I T B W w p q st v d) p q) lo hi then fBS I T B W w p q lo hi st (stB I T B W w p q st v d) (10 * r + d) (c + (if d = 0 then 0 else 1)) m b else b
theorem fold_dig {r c d : Nat} : ∀ (l : List (List Nat)) (b : Option (Nat × Nat)), (l.map (d :: ·)).foldl (fdB (kpB I T B W w p q lo hi st v) r c) b = if inS (apS (stB I T B W w p q st v d) p q) lo hi then l.foldl (fdB (kpB I T B W w p q lo hi st (stB I T B W w p q st v d)) (10 * r + d) (c + (if d = 0 then 0 else 1))) b else b := by
  intro l
  induction l with
  | nil => intro b; split <;> rfl
  | cons D l ih =>
    intro b
    show (l.map (d :: ·)).foldl _ (fdB (kpB I T B W w p q lo hi st v) r c b (d :: D)) = _
    rw [ih]
    have e1 : rwD r (d :: D) = rwD (10 * r + d) D := rfl
    have e2 : c + dlc (d :: D) = c + (if d = 0 then 0 else 1) + dlc D := by
      show c + D.foldl _ (0 + (if d = 0 then 0 else 1)) = _
      rw [dlc_sh]
      omega
    have e3 : kpB I T B W w p q lo hi st v (d :: D) = (inS (apS (stB I T B W w p q st v d) p q) lo hi && kpB I T B W w p q lo hi st (stB I T B W w p q st v d) D) := rfl
    cases h : inS (apS (stB I T B W w p q st v d) p q) lo hi with
    | false =>
      rw [if_neg (by decide), if_neg (by decide)]
      unfold fdB
      rw [e3, h, Bool.false_and, Bool.false_and, if_neg (by decide)]
    | true =>
      have e4 : fdB (kpB I T B W w p q lo hi st v) r c b (d :: D) = fdB (kpB I T B W w p q lo hi st (stB I T B W w p q st v d)) (10 * r + d) (c + (if d = 0 then 0 else 1)) b D := by
        unfold fdB
        rw [e3, h, Bool.true_and, e1, e2]
      rw [if_pos rfl, if_pos rfl, e4]
      rfl
theorem fBS_s {r c m : Nat} (b : Option (Nat × Nat)) : fBS I T B W w p q lo hi st v r c (m + 1) b = gdB I T B W w p q lo hi st v r c m 2 (gdB I T B W w p q lo hi st v r c m 1 (gdB I T B W w p q lo hi st v r c m 0 b)) := by
  show ((alB m).map (0 :: ·) ++ ((alB m).map (1 :: ·) ++ (alB m).map (2 :: ·))).foldl _ b = _
  rw [List.foldl_append, List.foldl_append, fold_dig, fold_dig, fold_dig]
  rfl
theorem pkS_self (s : S2) (c i k : Nat) (x : Int32) (h : s.1 c i k = x) : pkS s c i k x = s := by
  refine Prod.ext (funext fun c' => funext fun i' => ?_) rfl
  rw [pkS_1]
  by_cases e : c' = c ∧ i' = i
  · rw [if_pos e, ← h, upd_self, e.1, e.2]
  · rw [if_neg e]
theorem MX_0 {x : XT} {e : Nat} (h : MX I T B W onA x e w s) : MX I T B W onA xN 0 w (pkS s 60 0 42 (nI 0)) := by
  obtain ⟨g1, g2, ⟨k1, k2, k3, k4, k5⟩, ⟨g4, -, -⟩, g5⟩ := h
  have ee : ∀ c i, ¬ c = 60 → (pkS s 60 0 42 (nI 0)).1 c i = s.1 c i := fun c i hc => by rw [pkS_1, if_neg (by omega)]
  have e6 : ∀ j, ¬ j = 42 → (pkS s 60 0 42 (nI 0)).1 60 0 j = s.1 60 0 j := fun j hj => by rw [pkS_v, if_neg (by omega)]
  refine ⟨g1, ?_, ⟨?_, fun j hj => by omega, ?_, ?_, ?_⟩, ⟨?_, by rw [pkS_v, if_pos ⟨rfl, rfl, rfl⟩], by omega⟩, HM_fr g5 (e6 40 (by omega)) ⟨ee _ _ (by omega), ee _ _ (by omega), ee _ _ (by omega), ee _ _ (by omega), ee _ _ (by omega), ee _ _ (by omega)⟩⟩
  · rw [e6 28 (by omega), e6 29 (by omega), e6 30 (by omega)]; exact g2
  · rw [ee 77 0 (by omega)]; exact k1
  · rw [ee 75 0 (by omega)]; exact k3
  · rw [ee 76 0 (by omega)]; exact k4
  · rw [ee 78 0 (by omega)]; exact k5
  · rw [e6 41 (by omega)]; exact g4
def Fbk (T k c i j : Nat) : Bool := MP c i j || (KDl T c i j || (KR c i j || ((c == 96 && (i == 0 && Nat.ble (46 * k) j)) || (c == 60 && (i == 0 && (j == 65 || j == 66))))))
theorem Fbk_MP {k c i j : Nat} (h : Fbk T k c i j = false) : MP c i j = false := (Bool.or_eq_false_iff.mp h).1
theorem Fbk_Dl {k c i j : Nat} (h : Fbk T k c i j = false) : KDl T c i j = false := (Bool.or_eq_false_iff.mp (Bool.or_eq_false_iff.mp h).2).1
theorem Fbk_KR {k c i j : Nat} (h : Fbk T k c i j = false) : KR c i j = false := (Bool.or_eq_false_iff.mp (Bool.or_eq_false_iff.mp (Bool.or_eq_false_iff.mp h).2).2).1
theorem Fbk_96 {k c i j : Nat} (h : Fbk T k c i j = false) : (c == 96 && (i == 0 && Nat.ble (46 * k) j)) = false := (Bool.or_eq_false_iff.mp (Bool.or_eq_false_iff.mp (Bool.or_eq_false_iff.mp (Bool.or_eq_false_iff.mp h).2).2).2).1
theorem Fbk_60 {k c i j : Nat} (h : Fbk T k c i j = false) : (c == 60 && (i == 0 && (j == 65 || j == 66))) = false := (Bool.or_eq_false_iff.mp (Bool.or_eq_false_iff.mp (Bool.or_eq_false_iff.mp (Bool.or_eq_false_iff.mp h).2).2).2).2
theorem Fbk_s {k c i j : Nat} (h : Fbk T k c i j = false) : Fbk T (k + 1) c i j = false := by
  have h96 := Fbk_96 h
  unfold Fbk
  rw [Fbk_MP h, Fbk_Dl h, Fbk_KR h, Fbk_60 h]
  cases q : c == 96 with
  | false => rfl
  | true =>
    rw [q, Bool.true_and] at h96
    cases z : i == 0 with
    | false => simp
    | true =>
      rw [z, Bool.true_and] at h96
      have : Nat.ble (46 * (k + 1)) j = false := by
        cases y : Nat.ble (46 * (k + 1)) j with
        | false => rfl
        | true =>
          have := Nat.le_of_ble_eq_true y
          rw [Nat.ble_eq_true_of_le (show 46 * k ≤ j by omega)] at h96
          cases h96
      rw [this]
      rfl
theorem Fbk_MS {k c i j : Nat} (h : MS T c i j = false) : Fbk T k c i j = false := by
  unfold Fbk
  rw [MP_MS h, KDl_MS h, KR_MS h]
  unfold MS at h
  simp only [Bool.or_eq_false_iff] at h
  obtain ⟨-, ⟨-, -, -, -, -, h96⟩, -, h60⟩ := h
  rw [h96]
  cases q : c == 60 with
  | false => rfl
  | true =>
    rw [q] at h60
    simp only [Bool.true_and, Bool.or_eq_false_iff] at h60
    have hh := h60.2.2.2.2.2.2.2.2.2
    have e65 : (j == 65) = false := by
      cases z : j == 65 with
      | false => rfl
      | true => rw [eq_of_beq z] at hh; cases hh
    have e66 : (j == 66) = false := by
      cases z : j == 66 with
      | false => rfl
      | true => rw [eq_of_beq z] at hh; cases hh
    rw [e65, e66]
    simp
theorem Fbk_f {k c i j : Nat} (h : MP c i j = false) (h' : ¬ c = 79 ∧ ¬ c = 80 ∧ ¬ c = 81 ∧ ¬ c = 82 ∧ ¬ c = 83 ∧ ¬ c = 76 ∧ ¬ c = 77 ∧ ¬ c = 60 ∧ ¬ c = 96) : Fbk T k c i j = false := by
  unfold Fbk
  rw [h, KDl_f (by omega) (by omega), KR_f (by omega)]
  simp [h']
theorem Fbk_6 {k j : Nat} (h : MP 60 0 j = false) (h' : ¬ j = 36 ∧ ¬ j = 37 ∧ ¬ j = 42 ∧ ¬ j = 65 ∧ ¬ j = 66) : Fbk T k 60 0 j = false := by
  unfold Fbk
  rw [h, KDl_f (by omega) (by omega), KR_f (by omega)]
  simp [h']
/-- what is asked, as the reference keeps it -/
def BKP (p q n : Nat) (lo hi st : Int32) (s : S2) : Prop := s.1 60 0 67 = nI n ∧ s.1 60 0 68 = st ∧ s.1 60 0 69 = nI (10 * p + q) ∧ s.1 60 0 70 = lo ∧ s.1 60 0 71 = hi
def BB (b : Option (Nat × Nat)) (s : S2) : Prop := match b with
  | none => s.1 60 0 65 = -1 ∧ s.1 60 0 66 = nI 0
  | some z => s.1 60 0 65 = nI z.1 ∧ s.1 60 0 66 = nI z.2
theorem BKP_fr {s' : S2} {K : Nat → Nat → Nat → Bool} (h : BKP p q n lo hi st s) (hF : Fr K s s') (h67 : K 60 0 67 = false) (h68 : K 60 0 68 = false) (h69 : K 60 0 69 = false) (h70 : K 60 0 70 = false) (h71 : K 60 0 71 = false) : BKP p q n lo hi st s' := by
  unfold BKP at h ⊢
  rw [hF.1 _ _ _ h67, hF.1 _ _ _ h68, hF.1 _ _ _ h69, hF.1 _ _ _ h70, hF.1 _ _ _ h71]
  exact h
theorem BB_fr {s' : S2} {K : Nat → Nat → Nat → Bool} {b : Option (Nat × Nat)} (h : BB b s) (hF : Fr K s s') (h65 : K 60 0 65 = false) (h66 : K 60 0 66 = false) : BB b s' := by
  unfold BB at h ⊢
  cases b with
  | none => exact ⟨(hF.1 _ _ _ h65).trans h.1, (hF.1 _ _ _ h66).trans h.2⟩
  | some z => exact ⟨(hF.1 _ _ _ h65).trans h.1, (hF.1 _ _ _ h66).trans h.2⟩
/-- where the search of the reference stands -/
def BM (I T B : Nat) (W : Option WF6) (w v : Nat → Int32) (p q n : Nat) (lo hi st : Int32) (b : Option (Nat × Nat)) (s : S2) : Prop := MX I T B W onA xN 0 w s ∧ RS I T B v s ∧ BKP p q n lo hi st s ∧ BB b s
theorem fm_bick (hp : p < I) (hq : q < I) (hn : n ≤ 6) : ∀ (m k fu r c : Nat) (v : Nat → Int32) (b : Option (Nat × Nat)) (s : S2), k + m = n → m < fu → r < 10 ^ k → c ≤ k → okB b → VS I v → BM I T B W w v p q n lo hi st b s → ∃ s', f_M_bickerFrom fu (nI k) (nI r) (nI c) s = some s' ∧ BM I T B W w v p q n lo hi st (fBS I T B W w p q lo hi st v r c m b) s' ∧ Fr (Fbk T k) s s' := by
  intro m
  induction m with
  | zero =>
    intro k fu r c v b s hk hf hr hc hb hv hM
    obtain ⟨f, rfl, hf'⟩ := suc_of hf
    obtain ⟨m1, m2, m3, m4⟩ := hM
    have put : ∃ s', f_M_bickerFrom_L17 (f_M_bickerFrom f) (nI k) (nI r) (nI c) s = some s' ∧ BM I T B W w v p q n lo hi st (some (r, c)) s' ∧ Fr (Fbk T k) s s' := by
      have F : Fr (fun c i j => c == 60 && (i == 0 && (j == 65 || j == 66))) s (pkS (pkS s 60 0 65 (nI r)) 60 0 66 (nI c)) := ((Fr.refl _ s).pk' _ rfl).pk' _ rfl
      refine ⟨pkS (pkS s 60 0 65 (nI r)) 60 0 66 (nI c), ?_, ⟨MX_fr m1 F (fun _ => ⟨rfl, rfl, rfl, rfl, rfl, rfl, rfl, rfl, rfl, rfl⟩) ⟨rfl, rfl, rfl, rfl, rfl, rfl⟩, RS_52 (RS_52 m2 (by omega) (by omega) _) (by omega) (by omega) _, BKP_fr m3 F rfl rfl rfl rfl rfl, by rw [pkS_v, if_neg (by omega), pkS_v, if_pos ⟨rfl, rfl, rfl⟩], by rw [pkS_v, if_pos ⟨rfl, rfl, rfl⟩]⟩, F.mono fun _ _ _ h => Fbk_60 h⟩
      unfold f_M_bickerFrom_L17
      rw [m3.1, if_pos (by rw [show k = n by omega]), Option.bind_some, Option.bind_some]
    show ∃ s', fb_M_bickerFrom _ _ _ _ _ = _ ∧ BM I T B W w v p q n lo hi st (fdB (kpB I T B W w p q lo hi st v) r c b []) s' ∧ _
    unfold fb_M_bickerFrom
    cases b with
    | none =>
      rw [m4.1, of_m1, if_pos rfl]
      exact put
    | some z =>
      obtain ⟨z1, z2⟩ := hb z rfl
      rw [m4.1, of_m1, if_neg (show ¬ nI z.1 = -1 from cdO_nm1 z.1 (by omega)), m4.2]
      by_cases e : c < z.2
      · rw [if_pos (nI_lt e (by omega)), show fdB (kpB I T B W w p q lo hi st v) r c (some z) [] = some (r, c) from by
          unfold fdB
          rw [show ltB (c + dlc []) (some z) = true from decide_eq_true e]
          rfl]
        exact put
      · rw [if_neg (nI_nlt (by omega) (by omega)), show fdB (kpB I T B W w p q lo hi st v) r c (some z) [] = some z from by
          unfold fdB
          rw [show ltB (c + dlc []) (some z) = false from decide_eq_false e, Bool.and_false, if_neg (by decide)]]
        exact ⟨s, rfl, ⟨m1, m2, m3, m4⟩, Fr.refl _ _⟩
  | succ m ih =>
    intro k fu r c v b s hk hf hr hc hb hv hM
    obtain ⟨f, rfl, hf'⟩ := suc_lt hf
    obtain ⟨m1, m2, m3, m4⟩ := hM
    obtain ⟨h6, h8, h4⟩ := m1.1.1
    -- one digit
    have dig : ∀ (d g : Nat) (b : Option (Nat × Nat)) (s : S2), d < 3 → okB b → BM I T B W w v p q n lo hi st b s → SV I T B v 96 (46 * k) s → ∃ s', f_M_bickerFrom_L51 (f_M_bickerFrom f) (g + 1) (nI k) (nI r) (nI c) (nI d) s = f_M_bickerFrom_L51 (f_M_bickerFrom f) g (nI k) (nI r) (nI c) (nI (d + 1)) s' ∧ BM I T B W w v p q n lo hi st (gdB I T B W w p q lo hi st v r c m d b) s' ∧ SV I T B v 96 (46 * k) s' ∧ okB (gdB I T B W w p q lo hi st v r c m d b) ∧ Fr (Fbk T k) s s' := by
      intro d g b s hd hb hM hS
      obtain ⟨m1, m2, m3, m4⟩ := hM
      have e42 : s.1 60 0 42 = nI 0 := m1.2.2.2.1.2.1
      have hv' : VS I (stB I T B W w p q st v d) := VS_stB hv
      -- from the state with the deal
      have rest : ∀ t : S2, MX I T B W onA (xbS p q st d) (if d = 0 then 0 else 1) w t → RS I T B v t → Fr (Fbk T k) s t → BKP p q n lo hi st t → BB b t → SV I T B v 96 (46 * k) t → ∃ s', f_M_bickerFrom_L93 (f_M_bickerFrom f) (f_M_bickerFrom_L51 (f_M_bickerFrom f) g) (nI k) (nI r) (nI c) (nI d) t = f_M_bickerFrom_L51 (f_M_bickerFrom f) g (nI k) (nI r) (nI c) (nI (d + 1)) s' ∧ BM I T B W w v p q n lo hi st (gdB I T B W w p q lo hi st v r c m d b) s' ∧ SV I T B v 96 (46 * k) s' ∧ okB (gdB I T B W w p q lo hi st v r c m d b) ∧ Fr (Fbk T k) s s' := by
        intro t hX hr1 hF hB hbb hS1
        obtain ⟨t1, a1, a2, -, -, -, a6⟩ := fm_pass hv hX hr1
        have a2' : RS I T B (stB I T B W w p q st v d) t1 := a2
        obtain ⟨t2, ht2⟩ : ∃ t, pkS t1 60 0 42 (nI 0) = t := ⟨_, rfl⟩
        have hX2 : MX I T B W onA xN 0 w t2 := by rw [← ht2]; exact MX_0 (MX_MP hX a6)
        have hr2 : RS I T B (stB I T B W w p q st v d) t2 := by rw [← ht2]; exact RS_52 a2' (by omega) (by omega) _
        have Ft2 : Fr (Fbk T k) s t2 := by
          rw [← ht2]
          exact (hF.trans (a6.mono fun _ _ _ => Fbk_MP)).pk' _ (by unfold Fbk KDl; simp)
        have o60 : ∀ j, MP 60 0 j = false → ¬ j = 42 → t2.1 60 0 j = t.1 60 0 j := fun j h1 h2 => by
          rw [← ht2, pkS_v, if_neg (by omega), a6.1 60 0 j h1]
        have hB2 : BKP p q n lo hi st t2 := by
          unfold BKP at hB ⊢
          rw [o60 67 rfl (by omega), o60 68 rfl (by omega), o60 69 rfl (by omega), o60 70 rfl (by omega), o60 71 rfl (by omega)]
          exact hB
        have hb2 : BB b t2 := by
          unfold BB at hbb ⊢
          cases b with
          | none => exact ⟨(o60 65 rfl (by omega)).trans hbb.1, (o60 66 rfl (by omega)).trans hbb.2⟩
          | some z => exact ⟨(o60 65 rfl (by omega)).trans hbb.1, (o60 66 rfl (by omega)).trans hbb.2⟩
        have hS2 : SV I T B v 96 (46 * k) t2 := SV_fr hS1 (by rw [← ht2, pkS_1, if_neg (by omega)]; exact a6.arr fun _ => rfl)
        have ef : f_M_farOf (nI p) (nI q) t2 = some (apS (stB I T B W w p q st v d) p q) := fm_farOf hv' hr2 hp hq
        -- the state is read again
        have back : ∀ (t3 : S2) (b' : Option (Nat × Nat)) (v' : Nat → Int32), MX I T B W onA xN 0 w t3 → RS I T B v' t3 → BKP p q n lo hi st t3 → BB b' t3 → SV I T B v 96 (46 * k) t3 → Fr (Fbk T k) s t3 → ∃ s', f_M_bickerFrom_L160 (f_M_bickerFrom f) (f_M_bickerFrom_L51 (f_M_bickerFrom f) g) (nI k) (nI r) (nI c) (nI d) t3 = f_M_bickerFrom_L51 (f_M_bickerFrom f) g (nI k) (nI r) (nI c) (nI (d + 1)) s' ∧ BM I T B W w v p q n lo hi st b' s' ∧ SV I T B v 96 (46 * k) s' ∧ Fr (Fbk T k) s s' := by
          intro t3 b' v' k1 k2 k3 k4 k5 k6
          obtain ⟨s', c1, c2, c3⟩ := fm_read (s := t3) (c := 96) (n := 322) (off := 46 * k) (v := v) (u := fun j => t3.1 76 0 (8 * (j - 43) + 7)) (fl := true) (Or.inr (Or.inr (Or.inl rfl))) (by omega) (by omega) h6 h8 h4 k5 (fun a ha => by rw [show 43 + a - 43 = a by omega])
          rw [mxS_true] at c2
          refine ⟨s', ?_, ⟨MX_KR k1 c3, c2, BKP_fr k3 c3 rfl rfl rfl rfl rfl, BB_fr k4 c3 rfl rfl⟩, SV_fr k5 (c3.arr fun _ => okc_KR (Or.inr (Or.inr (Or.inl rfl)))), k6.trans (c3.mono fun _ _ _ h => Fbk_KR h)⟩
          unfold f_M_bickerFrom_L160
          rw [of_46, mul_nI, of_1, show nI 1 = bI true from rfl, c1, Option.bind_some, show bI true = nI 1 from rfl, nI_add]
        unfold f_M_bickerFrom_L93
        rw [a1, Option.bind_some, show Int32.ofInt 0 = nI 0 from of_0, ht2, Option.bind_some, hB2.2.2.1, of_10, div_nI (by omega) (by omega) (by omega), jrem_nI (by omega) (by omega) (by omega), show (10 * p + q) / 10 = p by omega, show (10 * p + q) % 10 = q by omega, ef, Option.bind_some, g_M_in_eq, hB2.2.2.2.1, hB2.2.2.2.2]
        cases e : inS (apS (stB I T B W w p q st v d) p q) lo hi with
        | false =>
          rw [ifF, show gdB I T B W w p q lo hi st v r c m d b = b from by unfold gdB; rw [e, if_neg (by decide)]]
          obtain ⟨s', y1, y2, y3, y4⟩ := back t2 b _ hX2 hr2 hB2 hb2 hS2 Ft2
          exact ⟨s', y1, y2, y3, hb, y4⟩
        | true =>
          have hr10 : 10 * r + d < 10 ^ (k + 1) := by
            rw [Nat.pow_succ]
            omega
          have hc1 : c + (if d = 0 then 0 else 1) ≤ k + 1 := by split <;> omega
          have eg : gdB I T B W w p q lo hi st v r c m d b = fBS I T B W w p q lo hi st (stB I T B W w p q st v d) (10 * r + d) (c + (if d = 0 then 0 else 1)) m b := by unfold gdB; rw [e, if_pos rfl]
          have hok : okB (gdB I T B W w p q lo hi st v r c m d b) := by
            rw [eg]
            exact fBS_ok hr10 hc1 (by omega) hb
          obtain ⟨t3, y1, ⟨z1, z2, z3, z4⟩, y3⟩ := ih (k + 1) f (10 * r + d) (c + (if d = 0 then 0 else 1)) (stB I T B W w p q st v d) b t2 (by omega) (by omega) hr10 hc1 hb hv' ⟨hX2, hr2, hB2, hb2⟩
          rw [← eg] at z4
          have hS3 : SV I T B v 96 (46 * k) t3 := SV_move h6 h8 hS2 fun i hi => y3.1 96 0 _ (by
            unfold Fbk
            rw [KDl_f (by omega) (by omega), okc_KR (Or.inr (Or.inr (Or.inl rfl)))]
            have : Nat.ble (46 * (k + 1)) (46 * k + i) = false := by
              cases y : Nat.ble (46 * (k + 1)) (46 * k + i) with
              | false => rfl
              | true => have := Nat.le_of_ble_eq_true y; omega
            rw [this]
            rfl)
          obtain ⟨s', x1, x2, x3, x4⟩ := back t3 _ _ z1 z2 z3 z4 hS3 (Ft2.trans (y3.mono fun _ _ _ h => Fbk_s h))
          refine ⟨s', ?_, x2, x3, hok, x4⟩
          rw [ifT, of_1, nI_add, mul_nI, nI_add]
          unfold f_M_bickerFrom_L156
          by_cases d0 : d = 0
          · rw [if_pos (show nI d ≤ 0 by rw [d0]; decide), nI_add]
            rw [if_pos d0] at y1
            rw [y1, Option.bind_some, x1]
          · rw [if_neg (nI_nle (by omega) (by omega)), nI_add]
            rw [if_neg d0] at y1
            rw [y1, Option.bind_some, x1]
      show ∃ s', b_M_bickerFrom_L51 _ _ _ _ _ _ _ = _ ∧ _
      unfold b_M_bickerFrom_L51
      rw [of_3, if_neg (nI_ge hd (by omega)), show Int32.ofInt 0 = nI 0 from of_0, pkS_self s 60 0 42 (nI 0) e42, Option.bind_some]
      by_cases d0 : d = 0
      · rw [if_pos (show nI d ≤ 0 by rw [d0]; decide)]
        exact rest s (by rw [if_pos d0]; exact MX_x m1) m2 (Fr.refl _ _) m3 m4 hS
      · obtain ⟨t, b1, b2, b3, b4⟩ := fm_deal (x := xbS p q st d) (e := 0) (a := p) (b := q) (y := nI (d - 1)) (z := st) (by omega) (MX_x m1) hp hq rfl
        rw [if_neg (nI_nle (by omega) (by omega)), m3.2.2.1, m3.2.1, of_10, div_nI (by omega) (by omega) (by omega), jrem_nI (by omega) (by omega) (by omega), show (10 * p + q) / 10 = p by omega, show (10 * p + q) % 10 = q by omega, of_1, sub_nI (by omega), b1, Option.bind_some]
        exact rest t (by rw [if_neg d0]; exact b2) (RS_deal m2 b3 b4) (b3.mono fun _ _ _ h => Fbk_Dl h) (BKP_fr m3 b3 (KDl_f (by omega) (by omega)) (KDl_f (by omega) (by omega)) (KDl_f (by omega) (by omega)) (KDl_f (by omega) (by omega)) (KDl_f (by omega) (by omega))) (BB_fr m4 b3 (KDl_f (by omega) (by omega)) (KDl_f (by omega) (by omega))) (SV_fr hS (b3.arr fun _ => KDl_f (by omega) (by omega)))
    have go : ∃ s', f_M_bickerFrom_L17 (f_M_bickerFrom f) (nI k) (nI r) (nI c) s = some s' ∧ BM I T B W w v p q n lo hi st (fBS I T B W w p q lo hi st v r c (m + 1) b) s' ∧ Fr (Fbk T k) s s' := by
      obtain ⟨t, a1, a2, a3⟩ := fm_write (s := s) (c := 96) (n := 322) (off := 46 * k) (Or.inr (Or.inr (Or.inl rfl))) (by omega) (by omega) h8 h6 m2
      have Ft : Fr (Fbk T k) s t := a3.mono fun c i j h => by
        have h96 := Fbk_96 h
        unfold Ksv
        cases q1 : c == 96 with
        | false => rfl
        | true =>
          rw [q1, Bool.true_and] at h96
          cases q2 : i == 0 with
          | false => rfl
          | true =>
            rw [q2, Bool.true_and] at h96
            rw [h96]
            rfl
      have Mt : BM I T B W w v p q n lo hi st b t := by
        have ee : ∀ c', ¬ c' = 96 → t.1 c' 0 = s.1 c' 0 := fun c' hc => a3.arr fun _ => Ksv_f hc
        refine ⟨MX_fr m1 a3 (fun k => ⟨Ksv_f (by omega), Ksv_f (by omega), Ksv_f (by omega), Ksv_f (by omega), Ksv_f (by omega), Ksv_f (by omega), Ksv_f (by omega), Ksv_f (by omega), Ksv_f (by omega), Ksv_f (by omega)⟩) ⟨Ksv_f (by omega), Ksv_f (by omega), Ksv_f (by omega), Ksv_f (by omega), Ksv_f (by omega), Ksv_f (by omega)⟩, RS_fr m2 (ee _ (by omega)) (ee _ (by omega)) (ee _ (by omega)) (ee _ (by omega)) (ee _ (by omega)) (ee _ (by omega)) (ee _ (by omega)) (congrFun (ee _ (by omega)) 36) (congrFun (ee _ (by omega)) 37), BKP_fr m3 a3 (Ksv_f (by omega)) (Ksv_f (by omega)) (Ksv_f (by omega)) (Ksv_f (by omega)) (Ksv_f (by omega)), BB_fr m4 a3 (Ksv_f (by omega)) (Ksv_f (by omega))⟩
      obtain ⟨t0, x1, x2, x3, x4, x5⟩ := dig 0 99999 b t (by omega) hb Mt a2
      obtain ⟨t1, y1, y2, y3, y4, y5⟩ := dig 1 99998 _ t0 (by omega) x4 x2 x3
      obtain ⟨t2, z1, z2, z3, z4, z5⟩ := dig 2 99997 _ t1 (by omega) y4 y2 y3
      refine ⟨t2, ?_, by rw [fBS_s]; exact z2, ((Ft.trans x5).trans y5).trans z5⟩
      unfold f_M_bickerFrom_L17
      rw [m3.1, if_neg (fun z => by have := (nI_eq (by omega) (by omega)).mp z; omega), of_46, mul_nI, a1, Option.bind_some, show Int32.ofInt 0 = nI 0 from of_0, show FU = 99999 + 1 from rfl, x1, show (99999 : Nat) = 99998 + 1 from rfl, y1, show (99998 : Nat) = 99997 + 1 from rfl, z1]
      show b_M_bickerFrom_L51 _ _ _ _ _ _ _ = _
      unfold b_M_bickerFrom_L51
      rw [of_3, if_pos (nI_le (by omega) (by omega))]
    show ∃ s', fb_M_bickerFrom _ _ _ _ _ = _ ∧ _
    unfold fb_M_bickerFrom
    cases b with
    | none =>
      rw [m4.1, of_m1, if_pos rfl]
      exact go
    | some z =>
      obtain ⟨z1, z2⟩ := hb z rfl
      rw [m4.1, of_m1, if_neg (show ¬ nI z.1 = -1 from cdO_nm1 z.1 (by omega)), m4.2]
      by_cases e : c < z.2
      · rw [if_pos (nI_lt e (by omega))]
        exact go
      · rw [if_neg (nI_nlt (by omega) (by omega)), show fBS I T B W w p q lo hi st v r c (m + 1) (some z) = some z from fold_pr (by omega) _]
        exact ⟨s, rfl, ⟨m1, m2, m3, m4⟩, Fr.refl _ _⟩
theorem q_bicker (h : INV I T B R W s) (x y z t a o : Int32) : ∃ s1 r s2, f_D_bicker x y z t a o s = some (s1, r) ∧ f_M_bicker x y z t a o s1 = some (s2, r) ∧ INV I T B R W s2 := by
  obtain ⟨h6, h8, h4⟩ := h.1.2.2.1.1
  unfold f_D_bicker
  rw [g_D_isWithin_eq, g_D_isWithin_eq, g_D_isWithin_eq, g_D_isWithin_eq, g_D_isWithin_eq, of_1, of_6, of_9]
  cases c : g_D_isPair x s with
  | false => exact ⟨s, _, s, by rw [ifF], by unfold f_M_bicker; rw [pair_tr h h, c, ifF], h⟩
  | true =>
    cases c1 : inS y (Int32.ofInt 0) (Int32.ofInt 999) with
    | false => exact ⟨s, _, s, by rw [ifT, ifF], by unfold f_M_bicker; rw [pair_tr h h, c, ifT, g_M_in_eq, c1, ifF], h⟩
    | true =>
      cases c1b : inS z (Int32.ofInt 0) (Int32.ofInt 999) with
      | false => exact ⟨s, _, s, by rw [ifT, ifT, ifF], by unfold f_M_bicker; rw [pair_tr h h, c, ifT, g_M_in_eq, c1, ifT, g_M_in_eq, c1b, ifF], h⟩
      | true =>
        cases c2 : inS t (nI 1) (nI 6) with
        | false => exact ⟨s, _, s, by rw [ifT, ifT, ifT, ifF], by unfold f_M_bicker; rw [pair_tr h h, c, ifT, g_M_in_eq, c1, ifT, g_M_in_eq, c1b, ifT, g_M_in_eq, of_1, of_6, c2, ifF], h⟩
        | true =>
          cases c3 : inS a (nI 1) (nI 9) with
          | false => exact ⟨s, _, s, by rw [ifT, ifT, ifT, ifT, ifF], by unfold f_M_bicker; rw [pair_tr h h, c, ifT, g_M_in_eq, c1, ifT, g_M_in_eq, c1b, ifT, g_M_in_eq, of_1, of_6, c2, ifT, g_M_in_eq, of_9, c3, ifF], h⟩
          | true =>
            cases c4 : inS o (Int32.ofInt 0) (nI 1) with
            | false => exact ⟨s, _, s, by rw [ifT, ifT, ifT, ifT, ifT, ifF], by unfold f_M_bicker; rw [pair_tr h h, c, ifT, g_M_in_eq, c1, ifT, g_M_in_eq, c1b, ifT, g_M_in_eq, of_1, of_6, c2, ifT, g_M_in_eq, of_9, c3, ifT, g_M_in_eq, c4, ifF], h⟩
            | true =>
              obtain ⟨p, q, p1, q1, -, ex, ep, eq⟩ := (v_pair h x).2 c
              obtain ⟨n, n1, n2, rfl⟩ := inS_lit c2 (by omega) (by omega)
              obtain ⟨l, -, l2, rfl⟩ := inS_lit (show inS o (nI 0) (nI 1) = true from c4) (by omega) (by omega)
              obtain ⟨s1, a1, a2, a3, a4, a5, a6⟩ := fc_aim (p := p) (q := q) (n := n) (lo := y) (hi := z) (st := a) h p1 q1
              have hv : VS I (mkV (s.1 21 0) (s.1 21 3)) := VS_ag h.1.2.2.2.2.1 (mkV_AG _ _)
              obtain ⟨s2, b1, b2⟩ := fc_fewest (l := l) (v := mkV (s.1 21 0) (s.1 21 3)) h p1 q1 (show n < 7 by omega) l2 hv a5 a2 (by rw [a6])
              have h2 := INV_KS h b2
              obtain ⟨m0, hm0⟩ : ∃ m, pkS (pkS (pkS (pkS (pkS (pkS (pkS s2 60 0 69 (nI (10 * p + q))) 60 0 70 y) 60 0 71 z) 60 0 67 (nI n)) 60 0 68 a) 60 0 65 (-1)) 60 0 66 (nI 0) = m := ⟨_, rfl⟩
              have Fm : Fr (fun c i j => c == 60 && (i == 0 && (Nat.ble 65 j && Nat.ble j 71))) s2 m0 := by
                rw [← hm0]
                exact (((((((Fr.refl _ s2).pk' _ rfl).pk' _ rfl).pk' _ rfl).pk' _ rfl).pk' _ rfl).pk' _ rfl).pk' _ rfl
              have FM : Fr (MS T) s2 m0 := Fm.mono fun c i j hk => by
                unfold MS at hk
                simp only [Bool.or_eq_false_iff] at hk
                obtain ⟨-, -, -, h60⟩ := hk
                cases q : c == 60 with
                | false => rfl
                | true =>
                  rw [q] at h60
                  simp only [Bool.true_and, Bool.or_eq_false_iff] at h60
                  rw [h60.2.2.2.2.2.2.2.2.2]
                  simp
              have hrv : RS I T B (mkV (s.1 21 0) (s.1 21 3)) s2 := RS_ag h6 h8 h4 h2.1.2.2.2.2.2.2.2.2 (by rw [show s2.1 21 0 = s.1 21 0 from b2.arr fun _ => rfl]; exact mkV_AG _ _)
              have hM : BM I T B W (s.1 14 0) (mkV (s.1 21 0) (s.1 21 3)) p q n y z a none m0 := by
                have hX := INV_MX h2
                rw [show s2.1 14 0 = s.1 14 0 from b2.arr fun _ => rfl] at hX
                refine ⟨MX_fr hX Fm (fun _ => ⟨rfl, rfl, rfl, rfl, rfl, rfl, rfl, rfl, rfl, rfl⟩) ⟨rfl, rfl, rfl, rfl, rfl, rfl⟩, RS_fr hrv (Fm.arr fun _ => rfl) (Fm.arr fun _ => rfl) (Fm.arr fun _ => rfl) (Fm.arr fun _ => rfl) (Fm.arr fun _ => rfl) (Fm.arr fun _ => rfl) (Fm.arr fun _ => rfl) (Fm.1 60 0 36 rfl) (Fm.1 60 0 37 rfl), ?_, ?_⟩
                · rw [← hm0]
                  unfold BKP
                  simp [pkS_v]
                · rw [← hm0]
                  unfold BB
                  simp [pkS_v]
              obtain ⟨s3, d1, ⟨d2, d3, d4, d5⟩, d6⟩ := fm_bick p1 q1 n2 n 0 9 0 0 _ none m0 (by omega) (by omega) (by omega) (by omega) (fun z hz => by cases hz) hv hM
              have F3 : Fr (MS T) s2 s3 := FM.trans (d6.mono fun _ _ _ => Fbk_MS)
              have hok : okB (fBS I T B W (s.1 14 0) p q y z a (mkV (s.1 21 0) (s.1 21 3)) 0 0 n none) := fBS_ok (k := 0) (by omega) (by omega) (by omega) (fun z hz => by cases hz)
              refine ⟨s2, anB l (fBS I T B W (s.1 14 0) p q y z a (mkV (s.1 21 0) (s.1 21 3)) 0 0 n none), s3, ?_, ?_, INV_MS h2 F3 (RS_ag h6 h8 h4 d3 (AG_symm (by rw [show s2.1 21 0 = s.1 21 0 from b2.arr fun _ => rfl]; exact mkV_AG _ _))) ?_ ?_⟩
              · have key : f_D_bicker_L100 (nI l) s1 = some (s2, anB l (fBS I T B W (s.1 14 0) p q y z a (mkV (s.1 21 0) (s.1 21 3)) 0 0 n none)) := by
                  unfold f_D_bicker_L100
                  rw [b1]
                  rfl
                rw [ifT, ifT, ifT, ifT, ifT, ifT, ex, of_10, div_nI (by omega) (by omega) (by omega), jrem_nI (by omega) (by omega) (by omega), ← ep, ← eq, a1, Option.bind_some]
                rcases (show l = 0 ∨ l = 1 by omega) with rfl | rfl
                · rw [if_neg (show ¬ nI 0 = nI 1 by decide), show Int32.ofInt 0 = nI 0 from of_0]
                  exact key
                · rw [if_pos rfl]
                  exact key
              · unfold f_M_bicker f_M_bicker_L121
                rw [pair_tr h h2, c, ifT, g_M_in_eq, c1, ifT, g_M_in_eq, c1b, ifT, g_M_in_eq, of_1, of_6, c2, ifT, g_M_in_eq, of_9, c3, ifT, g_M_in_eq, c4, ifT, Option.bind_some, Option.bind_some, Option.bind_some, Option.bind_some, Option.bind_some, Option.bind_some, Option.bind_some, ex, of_m1, show Int32.ofInt 0 = nI 0 from of_0, hm0, d1, Option.bind_some]
                generalize hb : fBS I T B W (s.1 14 0) p q y z a (mkV (s.1 21 0) (s.1 21 3)) 0 0 n none = b at d5 hok
                cases b with
                | none => rw [d5.1]; exact if_pos rfl
                | some e =>
                  obtain ⟨e1, e2⟩ := hok e rfl
                  rw [d5.1, if_neg (show ¬ nI e.1 = -1 from cdO_nm1 e.1 (by omega))]
                  rcases (show l = 0 ∨ l = 1 by omega) with rfl | rfl
                  · rw [if_pos nI_0]; rfl
                  · rw [if_neg (show ¬ nI 1 = 0 by decide), d5.2]; rfl
              · rw [d6.1 60 0 41 (Fbk_6 rfl (by omega)), Fm.1 60 0 41 rfl]
                exact h2.1.2.2.2.2.2.2.2.1.1
              · exact d2.2.2.2.1.2.1.trans nI_0
end
