/-! ===== bickering: what is meant, and the class ===== -/
section
variable {I T B R : Nat} {W : Option WF6} {s s0 : S2} {w v u : Nat → Int32} {p q : Nat} {lo hi st : Int32}
def xbS (p q : Nat) (st : Int32) (d : Nat) : XT := fun _ => (p, q, nI (d - 1), st)
/-- a season with a deal (0: none) -/
def stB (I T B : Nat) (W : Option WF6) (w : Nat → Int32) (p q : Nat) (st : Int32) (v : Nat → Int32) (d : Nat) : Nat → Int32 := (psS I T B W v w onA (xbS p q st d) (if d = 0 then 0 else 1)).1
def kpB (I T B : Nat) (W : Option WF6) (w : Nat → Int32) (p q : Nat) (lo hi st : Int32) : (Nat → Int32) → List Nat → Bool
  | _, [] => true
  | v, d :: ds => inS (apS (stB I T B W w p q st v d) p q) lo hi && kpB I T B W w p q lo hi st (stB I T B W w p q st v d) ds
def dlc (D : List Nat) : Nat := D.foldl (fun r d => r + (if d = 0 then 0 else 1)) 0
def rwD (r : Nat) (D : List Nat) : Nat := D.foldl (fun r d => 10 * r + d) r
def dgB : Nat → Nat → List Nat
  | 0, _ => []
  | m + 1, way => (way / 3 ^ m % 3) :: dgB m way
def alB : Nat → List (List Nat)
  | 0 => [[]]
  | n + 1 => (alB n).map (0 :: ·) ++ ((alB n).map (1 :: ·) ++ (alB n).map (2 :: ·))
theorem al_dg : ∀ n, n < 7 → (rgL (3 ^ n) 0).map (dgB n) = alB n := by decide +kernel
/-- how many deals a way has, as the class counts -/
def dcN : Nat → Nat → Nat → Nat
  | 0, _, r => r
  | f + 1, l, r => if l = 0 then r else dcN f (l / 3) (if l % 3 = 0 then r else r + 1)
theorem dc_dl : ∀ n, n < 7 → ∀ way, way < 3 ^ n → dcN 7 way 0 = dlc (dgB n way) := by decide +kernel
theorem fc_dealsL : ∀ (f l r fu : Nat), l < 3 ^ f → f < 10 → f < fu → f_Deals_dealsIn_L4 fu (nI r) (nI l) s = some (nI (dcN f l r)) := by
  intro f
  induction f with
  | zero =>
    intro l r fu hl h10 hf
    obtain ⟨g, rfl, -⟩ := suc_of (show 0 < fu by omega)
    have hl0 : l = 0 := by
      rw [Nat.pow_zero] at hl
      omega
    show b_Deals_dealsIn_L4 _ _ _ _ = _
    unfold b_Deals_dealsIn_L4
    rw [hl0, if_pos (by decide)]
    rfl
  | succ f ih =>
    intro l r fu hl h10 hf
    obtain ⟨g, rfl, hg⟩ := suc_lt hf
    have h310 : 3 ^ (f + 1) ≤ 3 ^ 10 := Nat.pow_le_pow_right (by omega) (by omega)
    have hl' : l / 3 < 3 ^ f := by
      rw [Nat.pow_succ] at hl
      omega
    show b_Deals_dealsIn_L4 _ _ _ _ = some (nI (if l = 0 then r else dcN f (l / 3) (if l % 3 = 0 then r else r + 1)))
    unfold b_Deals_dealsIn_L4 f_Deals_dealsIn_L17
    by_cases c : l = 0
    · rw [if_pos c, c, if_pos (by decide)]
    · rw [if_neg c, if_neg (nI_nle (by omega) (by omega)), of_3, jrem_nI (by omega) (by omega) (by omega), div_nI (by omega) (by omega) (by omega), of_1, nI_add]
      by_cases d : l % 3 = 0
      · rw [d, if_pos nI_0, if_pos rfl]
        exact ih (l / 3) r g hl' (by omega) hg
      · rw [if_neg (fun z => d ((nI_eq (by omega) (by omega)).mp (z.trans nI_0.symm))), if_neg d]
        exact ih (l / 3) (r + 1) g hl' (by omega) hg
theorem fc_dealsIn {n way : Nat} (hn : n < 7) (hw : way < 3 ^ n) : f_Deals_dealsIn (nI way) s = some (nI (dlc (dgB n way))) := by
  have h37 : 3 ^ n ≤ 3 ^ 7 := Nat.pow_le_pow_right (by omega) (by omega)
  unfold f_Deals_dealsIn
  rw [show Int32.ofInt 0 = nI 0 from of_0, fc_dealsL 7 way 0 FU (by omega) (by omega) (lt_FU (by omega)), dc_dl n hn way hw]
theorem pow3 : ∀ m, m < 7 → 0 < 3 ^ m ∧ 3 ^ m < 1000 := by decide
/-- the weight of the digit that comes next -/
def wtB (m : Nat) : Nat := if m = 0 then 0 else 3 ^ (m - 1)
theorem wt_s (m : Nat) : wtB (m + 1) = 3 ^ m := by
  unfold wtB
  rw [if_neg (by omega), show m + 1 - 1 = m by omega]
theorem wt_3 {m : Nat} (hm : m < 7) : 3 ^ m / 3 = wtB m := by
  cases m with
  | zero => decide
  | succ m => rw [wt_s, Nat.pow_succ, Nat.mul_div_cancel _ (by omega)]
theorem fc_digL : ∀ (m way r fu : Nat), m < 7 → way < 1000 → m < fu → f_Deals_asDigits_L6 fu (nI way) (nI r) (nI (wtB m)) s = some (nI (rwD r (dgB m way))) := by
  intro m
  induction m with
  | zero =>
    intro way r fu hm hw hf
    obtain ⟨g, rfl, -⟩ := suc_of hf
    show b_Deals_asDigits_L6 _ _ _ _ _ = _
    unfold b_Deals_asDigits_L6
    rw [show wtB 0 = 0 from rfl, if_pos (by decide)]
    rfl
  | succ m ih =>
    intro way r fu hm hw hf
    obtain ⟨g, rfl, hg⟩ := suc_lt hf
    obtain ⟨p1, p2⟩ := pow3 m (by omega)
    have hlt : way / 3 ^ m < 1000 := Nat.lt_of_le_of_lt (Nat.div_le_self _ _) hw
    have h1 := ih way (10 * r + way / 3 ^ m % 3) g (by omega) hw hg
    show b_Deals_asDigits_L6 _ _ _ _ _ = some (nI (rwD (10 * r + way / 3 ^ m % 3) (dgB m way)))
    unfold b_Deals_asDigits_L6
    rw [wt_s, if_neg (nI_nle p1 (by omega)), if_neg (fun z => by have := (nI_eq (by omega) (by omega)).mp (z.trans nI_0.symm); omega), of_10, mul_nI, of_3, div_nI (by omega) p1 (by omega), jrem_nI (by omega) (by omega) (by omega), nI_add, div_nI (by omega) (by omega) (by omega), wt_3 (by omega), show r * 10 + way / 3 ^ m % 3 = 10 * r + way / 3 ^ m % 3 by omega]
    exact h1
theorem stB_o {d j : Nat} (h6 : I ≤ 6) (h4 : B ≤ 4) (hj : 43 ≤ j) : stB I T B W w p q st v d j = v j := psS_o h6 h4 hj
theorem VS_stB {d : Nat} (hv : VS I v) : VS I (stB I T B W w p q st v d) := VS_ps hv
theorem fc_keepL {n : Nat} (h : INV I T B R W s0) (hp : p < I) (hq : q < I) {v0 : Nat → Int32} : ∀ (m way fu : Nat) (s : S2) (v : Nat → Int32), m < 7 → way < 1000 → m < fu → Fr KS s0 s → DSt p q n lo hi st s → VS I v → s.1 21 3 = v → (∀ j, 49 ≤ j → v j = v0 j) → ∃ s', f_Deals_keepsBetween_L15 fu (nI way) (nI (wtB m)) s = some (s', kpB I T B W (s0.1 14 0) p q lo hi st v (dgB m way)) ∧ Fr Kbr s s' ∧ ∀ j, 49 ≤ j → s'.1 21 3 j = v0 j := by
  obtain ⟨h6, h8, h4⟩ := h.1.2.2.1.1
  intro m
  induction m with
  | zero =>
    intro way fu s v hm hw hf hF hD hv hs ho
    obtain ⟨g, rfl, -⟩ := suc_of hf
    refine ⟨s, ?_, Fr.refl _ _, fun j hj => by rw [hs]; exact ho j hj⟩
    show b_Deals_keepsBetween_L15 _ _ _ _ = _
    unfold b_Deals_keepsBetween_L15
    rw [show wtB 0 = 0 from rfl, if_pos (by decide)]
    rfl
  | succ m ih =>
    intro way fu s v hm hw hf hF hD hv hs ho
    obtain ⟨g, rfl, hg⟩ := suc_lt hf
    obtain ⟨p1, p2⟩ := pow3 m (by omega)
    have hlt : way / 3 ^ m < 1000 := Nat.lt_of_le_of_lt (Nat.div_le_self _ _) hw
    generalize hd : way / 3 ^ m % 3 = d
    have hd3 : d < 3 := by omega
    obtain ⟨t, ht⟩ : ∃ t, pkS (pkS s 31 0 12 (nI 255)) 31 0 13 (nI 0) = t := ⟨_, rfl⟩
    have Ft : Fr Kbr s t := by rw [← ht]; exact ((Fr.refl Kbr s).pk' _ (by unfold Kbr; simp)).pk' _ (by unfold Kbr Kad; simp)
    have hX0 : CX I T B W onA (xbS p q st d) 0 (s0.1 14 0) t := CX_x (CX_told h (hF.trans (Ft.mono fun _ _ _ => Kbr_KS)) (by rw [← ht, pkS_v, if_neg (by omega), pkS_v, if_pos ⟨rfl, rfl, rfl⟩]) (by rw [← ht, pkS_v, if_pos ⟨rfl, rfl, rfl⟩, nI_0]))
    have hD1 : DSt p q n lo hi st t := DSt_fr hD Ft fun k _ => by unfold Kbr Kad KP KD; simp
    have e3 : t.1 21 3 = v := by rw [← ht, pkS_1, if_neg (by omega), pkS_1, if_neg (by omega)]; exact hs
    -- from a state where the deal is told
    have rest : ∀ t2 : S2, Fr Kbr s t2 → CX I T B W onA (xbS p q st d) (if d = 0 then 0 else 1) (s0.1 14 0) t2 → t2.1 21 3 = v → ∃ s', f_Deals_keepsBetween_L61 (f_Deals_keepsBetween_L15 g) (nI way) (nI (3 ^ m)) t2 = some (s', kpB I T B W (s0.1 14 0) p q lo hi st v (d :: dgB m way)) ∧ Fr Kbr s s' ∧ ∀ j, 49 ≤ j → s'.1 21 3 j = v0 j := by
      intro t2 F2 hX2 e2
      obtain ⟨t3, a1, a2, -, -, -, a6⟩ := fc_pass (i := 3) (by rw [e2]; exact hv) hX2
      rw [e2] at a2
      have a2' : t3.1 21 3 = stB I T B W (s0.1 14 0) p q st v d := a2
      have F3 : Fr Kbr s t3 := F2.trans (a6.mono fun _ _ _ => Kbr_KP)
      have hD3 : DSt p q n lo hi st t3 := DSt_fr hD F3 fun k _ => by unfold Kbr Kad KP KD; simp
      have hv3 : VS I (stB I T B W (s0.1 14 0) p q st v d) := VS_stB hv
      obtain ⟨s', b1, b2, b3⟩ := ih way g t3 _ (by omega) hw hg (hF.trans (F3.mono fun _ _ _ => Kbr_KS)) hD3 hv3 a2' (fun j hj => (stB_o h6 h4 (by omega)).trans (ho j hj))
      unfold f_Deals_keepsBetween_L61
      rw [a1, Option.bind_some, hD3.1, hD3.2.1, fc_apart (by rw [a2']; exact hv3) hp hq, Option.bind_some, a2', g_D_isWithin_eq, hD3.2.2.1, hD3.2.2.2.1, of_3, div_nI (by omega) (by omega) (by omega), wt_3 (by omega)]
      show ∃ s', _ = some (s', inS (apS (stB I T B W (s0.1 14 0) p q st v d) p q) lo hi && kpB I T B W (s0.1 14 0) p q lo hi st (stB I T B W (s0.1 14 0) p q st v d) (dgB m way)) ∧ _
      cases c : inS (apS (stB I T B W (s0.1 14 0) p q st v d) p q) lo hi with
      | false =>
        rw [ifF]
        exact ⟨t3, rfl, F3, fun j hj => by rw [a2']; exact (stB_o h6 h4 (by omega)).trans (ho j hj)⟩
      | true =>
        rw [ifT, Bool.true_and]
        exact ⟨s', b1, F3.trans b2, b3⟩
    show ∃ s', b_Deals_keepsBetween_L15 _ _ _ _ = some (s', kpB I T B W (s0.1 14 0) p q lo hi st v ((way / 3 ^ m % 3) :: dgB m way)) ∧ _
    unfold b_Deals_keepsBetween_L15 f_Course_drawByTold
    rw [hd, wt_s, if_neg (nI_nle p1 (by omega)), if_neg (fun z => by have := (nI_eq (by omega) (by omega)).mp (z.trans nI_0.symm); omega), of_255, show Int32.ofInt 0 = nI 0 from of_0, Option.bind_some, Option.bind_some, Option.bind_some, ht, of_3, div_nI (by omega) p1 (by omega), jrem_nI (by omega) (by omega) (by omega), hd]
    by_cases d0 : d = 0
    · rw [if_pos (show nI d ≤ 0 by rw [d0]; decide)]
      exact rest t Ft (by rw [if_pos d0]; exact hX0) e3
    · obtain ⟨t2, b1, b2, b3⟩ := fc_addTie (a := p) (b := q) (k := nI (d - 1)) (st := st) hX0 (by omega) rfl hp hq
      rw [if_neg (nI_nle (by omega) (by omega)), hD1.1, hD1.2.1, hD1.2.2.2.2.2, of_1, sub_nI (by omega), b1, Option.bind_some]
      exact rest t2 (Ft.trans (b3.mono fun _ _ _ => Kbr_ad)) (by rw [if_neg d0]; exact b2) ((b3.arr fun _ => by unfold Kad; simp).trans e3)
theorem fc_keeps {n m way : Nat} (h : INV I T B R W s0) (hp : p < I) (hq : q < I) (hm : m < 7) (hw : way < 1000) (hF : Fr KS s0 s) (hD : DSt p q n lo hi st s) (hv : VS I v) (hmk : mkV (s0.1 21 0) (s.1 21 3) = v) : ∃ s', f_Deals_keepsBetween (nI way) (nI (3 ^ m)) s = some (s', kpB I T B W (s0.1 14 0) p q lo hi st v (dgB m way)) ∧ Fr Kbr s s' ∧ mkV (s0.1 21 0) (s'.1 21 3) = v := by
  obtain ⟨t0, ht0⟩ : ∃ t, cpS s 21 3 (s.1 21 0) 0 0 49 = t := ⟨_, rfl⟩
  have F0 : Fr Kbr s t0 := by rw [← ht0]; exact Fr_cp (fun k => by unfold Kbr; rw [KP_21]; rfl) s _ 0 0 49
  have e3 : t0.1 21 3 = v := by rw [← ht0, mkV_cp, show s.1 21 0 = s0.1 21 0 from hF.arr fun _ => rfl, hmk]
  obtain ⟨p1, p2⟩ := pow3 m hm
  obtain ⟨s', a1, a2, a3⟩ := fc_keepL (n := n) (v0 := v) h hp hq m way FU t0 v hm hw (lt_FU (by omega)) (hF.trans (F0.mono fun _ _ _ => Kbr_KS)) (DSt_fr hD F0 fun k _ => by unfold Kbr Kad KP KD; simp) hv e3 (fun _ _ => rfl)
  refine ⟨s', ?_, F0.trans a2, ?_⟩
  · unfold f_Deals_keepsBetween
    rw [fc_copy, Option.bind_some, ht0, of_3, div_nI (by omega) (by omega) (by omega), wt_3 hm, a1]
  · funext j
    unfold mkV
    by_cases d : j < 49
    · rw [if_pos d, ← hmk]
      exact (if_pos d).symm
    · rw [if_neg d, a3 j (by omega)]
/-- the best way so far: its row, its deals -/
def ltB (x : Nat) : Option (Nat × Nat) → Bool
  | none => true
  | some b => decide (x < b.2)
def fdB (k : List Nat → Bool) (r c : Nat) (b : Option (Nat × Nat)) (D : List Nat) : Option (Nat × Nat) := if k D && ltB (c + dlc D) b then some (rwD r D, c + dlc D) else b
def fBS (I T B : Nat) (W : Option WF6) (w : Nat → Int32) (p q : Nat) (lo hi st : Int32) (v : Nat → Int32) (r c m : Nat) (b : Option (Nat × Nat)) : Option (Nat × Nat) := (alB m).foldl (fdB (kpB I T B W w p q lo hi st v) r c) b
def wyB (n : Nat) : Option Nat → Option (Nat × Nat)
  | none => none
  | some way => some (rwD 0 (dgB n way), 0 + dlc (dgB n way))
def cdW : Option Nat → Int32
  | none => -1
  | some way => nI way
def fwW (n : Nat) : Option Nat → Nat
  | none => n + 1
  | some way => dlc (dgB n way)
def anB (l : Nat) : Option (Nat × Nat) → Int32
  | none => -1
  | some b => if l = 0 then nI b.1 else nI b.2
theorem dlc_le : ∀ (D : List Nat) (r : Nat), D.foldl (fun r d => r + (if d = 0 then 0 else 1)) r ≤ r + D.length := by
  intro D
  induction D with
  | nil => intro r; exact Nat.le_refl _
  | cons d D ih =>
    intro r
    have := ih (r + (if d = 0 then 0 else 1))
    show D.foldl _ (r + (if d = 0 then 0 else 1)) ≤ r + (D.length + 1)
    have : (if d = 0 then 0 else 1) ≤ 1 := by split <;> omega
    omega
theorem dgB_len : ∀ m way, (dgB m way).length = m := by
  intro m
  induction m with
  | zero => intro way; rfl
  | succ m ih => intro way; show (dgB m way).length + 1 = m + 1; rw [ih]
theorem fc_fewL {n l : Nat} (h : INV I T B R W s0) (hp : p < I) (hq : q < I) (hn : n < 7) (hl : l ≤ 1) (hv : VS I v) : ∀ (m way fu : Nat) (o : Option Nat) (s : S2), way + m = 3 ^ n → m < fu → (∀ z, o = some z → z < way) → Fr KS s0 s → DSt p q n lo hi st s → mkV (s0.1 21 0) (s.1 21 3) = v → ∃ s', f_Deals_fewestDeals_L39 fu (nI l) (cdW o) (nI (fwW n o)) (nI (3 ^ n)) (nI way) s = some (s', anB l (((rgL m way).map (dgB n)).foldl (fdB (kpB I T B W (s0.1 14 0) p q lo hi st v) 0 0) (wyB n o))) ∧ Fr KS s0 s' := by
  obtain ⟨p1, p2⟩ := pow3 n hn
  have hfw : ∀ o, fwW n o ≤ n + 1 := fun o => by
    cases o with
    | none => exact Nat.le_refl _
    | some z =>
      have := dlc_le (dgB n z) 0
      rw [dgB_len] at this
      show dlc (dgB n z) ≤ n + 1
      unfold dlc
      omega
  intro m
  induction m with
  | zero =>
    intro way fu o s hw hf ho hF hD hm
    obtain ⟨g, rfl, -⟩ := suc_of hf
    refine ⟨s, ?_, hF⟩
    show b_Deals_fewestDeals_L39 _ _ _ _ _ _ _ = some (s, anB l (wyB n o))
    unfold b_Deals_fewestDeals_L39 f_Deals_asDigits
    rw [if_pos (nI_le (by omega) (by omega)), of_m1]
    cases o with
    | none => exact if_pos rfl
    | some z =>
      have hz := ho z rfl
      rw [if_neg (show ¬ cdW (some z) = -1 from cdO_nm1 z (by omega))]
      rcases (show l = 0 ∨ l = 1 by omega) with rfl | rfl
      · rw [if_pos nI_0, of_3, div_nI (by omega) (by omega) (by omega), wt_3 hn, show Int32.ofInt 0 = nI 0 from of_0, show cdW (some z) = nI z from rfl, fc_digL n z 0 FU hn (by omega) (lt_FU (by omega))]
        rfl
      · rw [if_neg (show ¬ nI 1 = 0 by decide)]
        show some (s, nI (dlc (dgB n z))) = some (s, nI (0 + dlc (dgB n z)))
        rw [Nat.zero_add]
  | succ m ih =>
    intro way fu o s hw hf ho hF hD hm
    obtain ⟨g, rfl, hg⟩ := suc_lt hf
    have hd := dlc_le (dgB n way) 0
    rw [dgB_len] at hd
    have hd' : dlc (dgB n way) ≤ n := by unfold dlc; omega
    have hfo := hfw o
    have elt : ltB (0 + dlc (dgB n way)) (wyB n o) = decide (dlc (dgB n way) < fwW n o) := by
      cases o with
      | none => exact (decide_eq_true (show dlc (dgB n way) < n + 1 by omega)).symm
      | some z => show decide (0 + dlc (dgB n way) < 0 + dlc (dgB n z)) = decide (dlc (dgB n way) < dlc (dgB n z)); rw [Nat.zero_add, Nat.zero_add]
    show ∃ s', b_Deals_fewestDeals_L39 _ _ _ _ _ _ _ = some (s', anB l (((rgL m (way + 1)).map (dgB n)).foldl (fdB (kpB I T B W (s0.1 14 0) p q lo hi st v) 0 0) (fdB (kpB I T B W (s0.1 14 0) p q lo hi st v) 0 0 (wyB n o) (dgB n way)))) ∧ _
    unfold fdB
    rw [elt]
    unfold b_Deals_fewestDeals_L39 f_Deals_fewestDeals_L76
    rw [if_neg (nI_ge (by omega) (by omega)), fc_dealsIn hn (by omega), Option.bind_some, of_1, nI_add]
    by_cases c : dlc (dgB n way) < fwW n o
    · obtain ⟨s1, a1, a2, a3⟩ := fc_keeps (m := n) h hp hq hn (show way < 1000 by omega) hF hD hv hm
      have hF1 := hF.trans (a2.mono fun _ _ _ => Kbr_KS)
      have hD1 : DSt p q n lo hi st s1 := DSt_fr hD a2 fun k _ => by unfold Kbr Kad KP KD; simp
      rw [if_neg (nI_ge c (by omega)), a1, Option.bind_some, decide_eq_true c, Bool.and_true]
      cases k : kpB I T B W (s0.1 14 0) p q lo hi st v (dgB n way) with
      | false =>
        rw [ifF, if_neg (by decide)]
        exact ih (way + 1) g o s1 (by omega) hg (fun z hz => by have := ho z hz; omega) hF1 hD1 a3
      | true =>
        rw [ifT, if_pos rfl]
        exact ih (way + 1) g (some way) s1 (by omega) hg (fun z hz => by cases hz; omega) hF1 hD1 a3
    · rw [if_pos (nI_le (by omega) (by omega)), decide_eq_false c, Bool.and_false, if_neg (by decide)]
      exact ih (way + 1) g o s (by omega) hg (fun z hz => by have := ho z hz; omega) hF hD hm
theorem fc_wyL {n l : Nat} (hn : n < 7) (hD : DSt p q n lo hi st s) : ∀ (m j fu : Nat), j + m = n → m < fu → f_Deals_fewestDeals_L15 fu (nI l) (-1) (nI (n + 1)) (nI (3 ^ j)) (nI j) s = f_Deals_fewestDeals_L39 FU (nI l) (-1) (nI (n + 1)) (nI (3 ^ n)) (nI 0) s := by
  intro m
  induction m with
  | zero =>
    intro j fu hj hf
    obtain ⟨g, rfl, -⟩ := suc_of hf
    show b_Deals_fewestDeals_L15 _ _ _ _ _ _ _ = _
    unfold b_Deals_fewestDeals_L15
    rw [hD.2.2.2.2.1, if_pos (nI_le (by omega) (by omega)), show j = n by omega, show Int32.ofInt 0 = nI 0 from of_0]
  | succ m ih =>
    intro j fu hj hf
    obtain ⟨g, rfl, hg⟩ := suc_lt hf
    show b_Deals_fewestDeals_L15 _ _ _ _ _ _ _ = _
    unfold b_Deals_fewestDeals_L15
    rw [hD.2.2.2.2.1, if_neg (nI_ge (by omega) (by omega)), of_3, mul_nI, ← Nat.pow_succ, of_1, nI_add]
    exact ih (j + 1) g (by omega) hg
theorem fc_fewest {n l : Nat} (h : INV I T B R W s0) (hp : p < I) (hq : q < I) (hn : n < 7) (hl : l ≤ 1) (hv : VS I v) (hF : Fr KS s0 s) (hD : DSt p q n lo hi st s) (hm : mkV (s0.1 21 0) (s.1 21 3) = v) : ∃ s', f_Deals_fewestDeals (nI l) s = some (s', anB l (fBS I T B W (s0.1 14 0) p q lo hi st v 0 0 n none)) ∧ Fr KS s0 s' := by
  obtain ⟨p1, p2⟩ := pow3 n hn
  obtain ⟨s', a1, a2⟩ := fc_fewL (l := l) h hp hq hn hl hv (3 ^ n) 0 FU none s (by omega) (lt_FU (by omega)) (fun z hz => by cases hz) hF hD hm
  refine ⟨s', ?_, a2⟩
  have := fc_wyL (l := l) hn hD n 0 FU (by omega) (lt_FU (by omega))
  rw [Nat.pow_zero] at this
  unfold f_Deals_fewestDeals
  rw [hD.2.2.2.2.1, of_m1, of_1, nI_add, show Int32.ofInt 0 = nI 0 from of_0, this]
  rw [al_dg n hn] at a1
  exact a1
end
