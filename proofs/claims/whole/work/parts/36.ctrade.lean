/-! ===== trade: the class ===== -/
def KT (r c i _ : Nat) : Bool := (c == 26 || (c == 27 || (c == 28 || (c == 29 || c == 30)))) && i == r
def KL4 (r c i k : Nat) : Bool := c == 26 && (i == r && k == 4)
theorem KT_ne {r c i k : Nat} (h : ¬ (c = 26 ∨ c = 27 ∨ c = 28 ∨ c = 29 ∨ c = 30)) : KT r c i k = false := by
  unfold KT
  simp only [Bool.and_eq_false_iff, Bool.or_eq_false_iff, beq_eq_false_iff_ne]
  left
  omega
theorem KT_t {r c k : Nat} (h : c = 26 ∨ c = 27 ∨ c = 28 ∨ c = 29 ∨ c = 30) : KT r c r k = true := by
  unfold KT
  rcases h with rfl | rfl | rfl | rfl | rfl <;> simp
theorem KL4_f {r c i k : Nat} (h : ¬ c = 26) : KL4 r c i k = false := by
  unfold KL4
  simp [h]
theorem KL4_KT {r c i k : Nat} (h : KT r c i k = false) : KL4 r c i k = false := by
  unfold KT at h
  unfold KL4
  simp only [Bool.and_eq_false_iff, Bool.or_eq_false_iff, beq_eq_false_iff_ne] at h ⊢
  omega
def TC (I T B : Nat) (w : Nat → Int32) (s : S2) : Prop := SE I T B w ∧ s.1 14 0 = w ∧ CN I T B s
theorem TC_KT {r I T B : Nat} {w : Nat → Int32} {s s' : S2} (h : TC I T B w s) (hF : Fr (KT r) s s') : TC I T B w s' := by
  refine ⟨h.1, (hF.arr fun k => KT_ne (by omega)).trans h.2.1, ?_⟩
  unfold CN
  rw [hF.arr (c := 15) fun k => KT_ne (by omega)]
  exact h.2.2
theorem cdO_nm1 (o : Nat) (h : o < 2 ^ 31) : ¬ cdO (some o) = -1 := fun z => by have := nI_nm1 h; rw [show nI o = -1 from z] at this; exact cast this rfl
theorem fc_cheapL {r i b I T B : Nat} {v w le : Nat → Int32} (hv : VS I v) (hb : b < I) : ∀ (m k fu : Nat) (s : S2), k + m = I → m < fu → TC I T B w s → s.1 21 i = v → (∀ o, o < I → s.1 30 r o = le o) → (∀ o, chS I w v le b k = some o → s.1 26 r 4 = coS w v b o) → ∃ s', f_Trade_cheapest_L6 r 0 i fu (nI b) (cdO (chS I w v le b k)) (nI k) s = some (s', cdO (chS I w v le b I)) ∧ (∀ o, chS I w v le b I = some o → s'.1 26 r 4 = coS w v b o) ∧ Fr (KL4 r) s s' := by
  intro m
  induction m with
  | zero =>
    intro k fu s hk hf hX hs hle hlc
    obtain ⟨f, rfl, hf'⟩ := suc_of hf
    have h6 := hv.1
    have e : k = I := by omega
    subst e
    refine ⟨s, ?_, hlc, Fr.refl _ _⟩
    show b_Trade_cheapest_L6 r 0 i _ _ _ _ _ = _
    unfold b_Trade_cheapest_L6
    rw [show g_Sea_isles 0 s = nI k from hX.2.2.1, if_pos (nI_le (by omega) (by omega))]
  | succ m ih =>
    intro k fu s hk hf hX hs hle hlc
    obtain ⟨f, rfl, hf'⟩ := suc_lt hf
    have h6 := hv.1
    have hw := hX.2.1
    have hvs : VS I (s.1 21 i) := by rw [hs]; exact hv
    cases hok : okS I w v le b k with
    | false =>
      have ec : chS I w v le b (k + 1) = chS I w v le b k := by
        show (if okS I w v le b k && beS w v b k (chS I w v le b k) then some k else chS I w v le b k) = _
        rw [hok]; rfl
      obtain ⟨s', h1, h2, h3⟩ := ih (k + 1) f s (by omega) hf' hX hs hle (by rw [ec]; exact hlc)
      rw [ec] at h1
      refine ⟨s', ?_, h2, h3⟩
      show b_Trade_cheapest_L6 r 0 i _ _ _ _ _ = _
      unfold b_Trade_cheapest_L6 f_Trade_cheapest_L103
      rw [show g_Sea_isles 0 s = nI I from hX.2.2.1, if_neg (nI_ge (by omega) (by omega)), of_1, nI_add]
      unfold okS at hok
      by_cases c1 : k = b
      · rw [if_pos (by rw [c1])]; exact h1
      · rw [if_neg (fun z => c1 ((nI_eq (by omega) (by omega)).mp z)), fc_isHead hvs (by omega), Option.bind_some, hs]
        cases c2 : isH I v k with
        | false => rw [if_pos (by decide)]; exact h1
        | true =>
          rw [if_neg (by decide), ix_nI (by omega) (by omega), Option.bind_some, hle k (by omega)]
          by_cases c3 : 0 < le k
          · rw [if_neg (Int32.not_le.mpr c3), of_3, fc_ofIsle (by omega) (by omega), Option.bind_some, of_4, fc_ofIsle (by omega) (by omega), Option.bind_some, hw]
            by_cases c4 : w ((1 + k) * 8 + 3) = w ((1 + b) * 8 + 4)
            · simp [c1, c2, c3, c4] at hok
            · rw [if_neg c4]; exact h1
          · rw [if_pos (Int32.not_lt.mp c3)]; exact h1
    | true =>
      have hok' := hok
      unfold okS at hok'
      simp only [Bool.and_eq_true, decide_eq_true_eq] at hok'
      obtain ⟨c1, c2, c3, c4⟩ := hok'
      have ebody : ∀ (rr : S2 × Int32), (if cdO (chS I w v le b k) = (Int32.ofInt (-1)) then (f_Trade_cheapest_L93 r 0 i (f_Trade_cheapest_L6 r 0 i f) (nI b) (nI k) (coS w v b k) s) else (if (s.1 26 r 4) ≤ coS w v b k then (f_Trade_cheapest_L103 r 0 i (f_Trade_cheapest_L6 r 0 i f) (nI b) (cdO (chS I w v le b k)) (nI k) s) else (f_Trade_cheapest_L93 r 0 i (f_Trade_cheapest_L6 r 0 i f) (nI b) (nI k) (coS w v b k) s))) = some rr → f_Trade_cheapest_L6 r 0 i (f + 1) (nI b) (cdO (chS I w v le b k)) (nI k) s = some rr := by
        intro rr hrr
        show b_Trade_cheapest_L6 r 0 i _ _ _ _ _ = _
        unfold b_Trade_cheapest_L6
        rw [show g_Sea_isles 0 s = nI I from hX.2.2.1, if_neg (nI_ge (by omega) (by omega)), if_neg (fun z => c1 ((nI_eq (by omega) (by omega)).mp z)), fc_isHead hvs (by omega), Option.bind_some, hs, c2, if_neg (by decide), ix_nI (by omega) (by omega), Option.bind_some, hle k (by omega), if_neg (Int32.not_le.mpr c3), of_3, fc_ofIsle (by omega) (by omega), Option.bind_some, of_4, fc_ofIsle (by omega) (by omega), Option.bind_some, hw, if_pos c4, fc_priceOf (by omega), Option.bind_some, of_0, fc_ofWater0, Option.bind_some, fc_apart hvs hb (by omega), Option.bind_some, hs, hw]
        exact hrr
      have hupd : chS I w v le b (k + 1) = some k → ∃ s', f_Trade_cheapest_L93 r 0 i (f_Trade_cheapest_L6 r 0 i f) (nI b) (nI k) (coS w v b k) s = some (s', cdO (chS I w v le b I)) ∧ (∀ o, chS I w v le b I = some o → s'.1 26 r 4 = coS w v b o) ∧ Fr (KL4 r) s s' := by
        intro ec
        have F : Fr (KL4 r) s (pkS s 26 r 4 (coS w v b k)) := Fr.pk (by simp [KL4]) s _
        obtain ⟨s', h1, h2, h3⟩ := ih (k + 1) f (pkS s 26 r 4 (coS w v b k)) (by omega) hf' (TC_KT hX (F.mono fun _ _ _ => KL4_KT)) ((F.arr fun _ => KL4_f (by omega)).trans hs) (fun o ho => (F.1 _ _ _ (KL4_f (by omega))).trans (hle o ho)) (fun o ho => by
          rw [ec] at ho
          cases ho
          rw [pkS_v, if_pos ⟨rfl, rfl, rfl⟩])
        rw [ec] at h1
        refine ⟨s', ?_, h2, F.trans h3⟩
        unfold f_Trade_cheapest_L93 f_Trade_cheapest_L103
        rw [Option.bind_some, of_1, nI_add]
        exact h1
      cases hch : chS I w v le b k with
      | none =>
        have ec : chS I w v le b (k + 1) = some k := by
          show (if okS I w v le b k && beS w v b k (chS I w v le b k) then some k else chS I w v le b k) = _
          rw [hok, hch]; rfl
        obtain ⟨s', h1, h2⟩ := hupd ec
        refine ⟨s', ?_, h2⟩
        have := ebody (s', cdO (chS I w v le b I))
        rw [hch, of_m1, if_pos (show cdO none = (-1 : Int32) from rfl)] at this
        exact this h1
      | some q =>
        have hq := chS_lt hch
        have hlcq := hlc q hch
        have hbody := ebody
        rw [hch, of_m1, if_neg (cdO_nm1 q (by omega)), hlcq] at hbody
        by_cases hlt : coS w v b k < coS w v b q
        · have ec : chS I w v le b (k + 1) = some k := by
            show (if okS I w v le b k && beS w v b k (chS I w v le b k) then some k else chS I w v le b k) = _
            rw [hok, hch, show beS w v b k (some q) = decide (coS w v b k < coS w v b q) from rfl, decide_eq_true hlt]; rfl
          obtain ⟨s', h1, h2⟩ := hupd ec
          refine ⟨s', hbody _ ?_, h2⟩
          rw [if_neg (Int32.not_le.mpr hlt)]
          exact h1
        · have ec : chS I w v le b (k + 1) = some q := by
            show (if okS I w v le b k && beS w v b k (chS I w v le b k) then some k else chS I w v le b k) = _
            rw [hok, hch, show beS w v b k (some q) = decide (coS w v b k < coS w v b q) from rfl, decide_eq_false hlt]; rfl
          obtain ⟨s', h1, h2, h3⟩ := ih (k + 1) f s (by omega) hf' hX hs hle (fun o ho => by rw [ec] at ho; cases ho; exact hlcq)
          rw [ec] at h1
          refine ⟨s', hbody _ ?_, h2, h3⟩
          rw [if_pos (Int32.not_lt.mp hlt)]
          unfold f_Trade_cheapest_L103
          rw [of_1, nI_add]
          exact h1
theorem fc_cheapest {r i b I T B : Nat} {v w le : Nat → Int32} {s : S2} (hv : VS I v) (hb : b < I) (hX : TC I T B w s) (hs : s.1 21 i = v) (hle : ∀ o, o < I → s.1 30 r o = le o) : ∃ s', f_Trade_cheapest r 0 i (nI b) s = some (s', cdO (chS I w v le b I)) ∧ (∀ o, chS I w v le b I = some o → s'.1 26 r 4 = coS w v b o) ∧ Fr (KL4 r) s s' := by
  obtain ⟨s', h1, h2⟩ := fc_cheapL (r := r) (i := i) (b := b) (le := le) hv hb I 0 FU s (by omega) (lt_FU (by have := hv.1; omega)) hX hs hle (fun o h => by cases h)
  refine ⟨s', ?_, h2⟩
  unfold f_Trade_cheapest
  rw [of_m1, of_0]
  exact h1
/-- the class's rows of a trade: k isles have bought -/
def RT (r I k : Nat) (z : TS) (s : S2) : Prop := (∀ j, j < 36 → s.1 27 r j = z.1 j) ∧ (∀ j, j < 6 → s.1 29 r j = if j < k then z.2.1 j else 0) ∧ (∀ j, j < I → s.1 30 r j = z.2.2.1 j) ∧ (∀ j, j < 6 → s.1 28 r j = z.2.2.2 j)
theorem fc_buyL {r i b I T B : Nat} {v w : Nat → Int32} (hv : VS I v) (hb : b < I) : ∀ (n k fu : Nat) (s : S2) (z : TS), k + n = 6 → n < fu → TC I T B w s → s.1 21 i = v → RT r I (b + 1) z s → ∃ s', f_Trade_buyAll_L3 r 0 i fu (nI b) (nI k) s = some s' ∧ RT r I (b + 1) (byS I w v b n z) s' ∧ Fr (KT r) s s' := by
  intro n
  induction n with
  | zero =>
    intro k fu s z hk hf hX hs hz
    obtain ⟨f, rfl, hf'⟩ := suc_of hf
    refine ⟨s, ?_, hz, Fr.refl _ _⟩
    show b_Trade_buyAll_L3 r 0 i _ _ _ _ = _
    unfold b_Trade_buyAll_L3
    rw [of_6, if_pos (nI_le (by omega) (by omega))]
  | succ n ih =>
    intro k fu s z hk hf hX hs hz
    obtain ⟨f, rfl, hf'⟩ := suc_lt hf
    have h6 := hv.1
    obtain ⟨z1, z2, z3, z4⟩ := hz
    have hla : s.1 29 r b = z.2.1 b := by rw [z2 b (by omega), if_pos (by omega)]
    have hbody : f_Trade_buyAll_L3 r 0 i (f + 1) (nI b) (nI k) s = b_Trade_buyAll_L3 r 0 i (f_Trade_buyAll_L3 r 0 i f) (nI b) (nI k) s := rfl
    rw [hbody]
    unfold b_Trade_buyAll_L3
    rw [of_6, if_neg (nI_ge (by omega) (by omega)), ix_nI (n := 6) (k := b) (by omega) (by omega), Option.bind_some, hla]
    show ∃ s', _ ∧ RT r I (b + 1) (match puS I w v b z with
      | none => z
      | some z' => byS I w v b n z') s' ∧ _
    unfold puS
    by_cases hp : 0 < z.2.1 b
    · rw [if_neg (Int32.not_le.mpr hp), if_pos hp]
      obtain ⟨s1, a1, a2, a3⟩ := fc_cheapest (r := r) (i := i) (b := b) (le := z.2.2.1) hv hb hX hs z3
      have F1 : Fr (KT r) s s1 := a3.mono fun _ _ _ => KL4_KT
      rw [a1, Option.bind_some]
      cases hch : chS I w v z.2.2.1 b I with
      | none =>
        rw [show (cdO none : Int32) = -1 from rfl, of_m1, if_pos rfl]
        refine ⟨s1, rfl, ⟨fun j hj => ?_, fun j hj => ?_, fun j hj => ?_, fun j hj => ?_⟩, F1⟩
        · rw [a3.1 _ _ _ (KL4_f (by omega))]; exact z1 j hj
        · rw [a3.1 _ _ _ (KL4_f (by omega))]; exact z2 j hj
        · rw [a3.1 _ _ _ (KL4_f (by omega))]; exact z3 j hj
        · rw [a3.1 _ _ _ (KL4_f (by omega))]; exact z4 j hj
      | some o =>
        have ho := (chS_lt hch).1
        have hc := a2 o hch
        have y1 : s1.1 27 r = s.1 27 r := a3.arr fun _ => KL4_f (by omega)
        have y2 : s1.1 29 r = s.1 29 r := a3.arr fun _ => KL4_f (by omega)
        have y3 : s1.1 30 r = s.1 30 r := a3.arr fun _ => KL4_f (by omega)
        have y4 : s1.1 28 r = s.1 28 r := a3.arr fun _ => KL4_f (by omega)
        have ez3 := z3 o ho
        have key : ∀ st : S2, Fr (KT r) s st → RT r I (b + 1) (paS w v b o z) st → ∃ s', f_Trade_buyAll_L3 r 0 i f (nI b) (nI (k + 1)) st = some s' ∧ RT r I (b + 1) (byS I w v b n (paS w v b o z)) s' ∧ Fr (KT r) s s' := fun st g1 g2 => by
          obtain ⟨s', h1, h2, h3⟩ := ih (k + 1) f st (paS w v b o z) (by omega) hf' (TC_KT hX g1) ((g1.arr fun _ => KT_ne (by omega)).trans hs) g2
          exact ⟨s', h1, h2, g1.trans h3⟩
        dsimp only
        rw [of_m1, if_neg (cdO_nm1 o (by omega)), show (cdO (some o) : Int32) = nI o from rfl, mul_nI, nI_add]
        simp (disch := omega) only [ix_nI, Option.bind_some, pkS_1, Nat.reduceEqDiff, false_and, if_false, y1, y2, y3, y4, hla, ez3, hc, of_1, nI_add]
        refine key _ ?_ ?_
        · refine Fr.pk' (Fr.pk' (Fr.pk' (Fr.pk' F1 _ ?_) _ ?_) _ ?_) _ ?_ <;> exact KT_t (by omega)
        · unfold paS
          refine ⟨fun j hj => ?_, fun j hj => ?_, fun j hj => ?_, fun j hj => ?_⟩
          · simp only [pkS_v, Nat.reduceEqDiff, false_and, if_false, true_and, upd, y1]
            split
            · rename_i hh; rw [z1 _ (by omega)]
            · exact z1 j hj
          · simp only [pkS_v, Nat.reduceEqDiff, false_and, if_false, true_and, upd, y2]
            by_cases hj' : j = b
            · rw [if_pos hj', if_pos (by omega), if_pos hj']
            · rw [if_neg hj', z2 j hj]
              split <;> rfl
          · simp only [pkS_v, Nat.reduceEqDiff, false_and, if_false, true_and, upd, y3]
            split
            · rfl
            · exact z3 j hj
          · simp only [pkS_v, Nat.reduceEqDiff, false_and, if_false, true_and, upd, y4]
            split
            · rename_i hh; rw [z4 _ (by omega)]
            · exact z4 j hj
    · rw [if_pos (Int32.not_lt.mp hp), if_neg hp]
      exact ⟨s, rfl, ⟨z1, z2, z3, z4⟩, Fr.refl _ _⟩
theorem fc_buyAll {r i b I T B : Nat} {v w : Nat → Int32} {s : S2} {z : TS} (hv : VS I v) (hb : b < I) (hX : TC I T B w s) (hs : s.1 21 i = v) (hz : RT r I (b + 1) z s) : ∃ s', f_Trade_buyAll r 0 i (nI b) s = some s' ∧ RT r I (b + 1) (byS I w v b 6 z) s' ∧ Fr (KT r) s s' := by
  unfold f_Trade_buyAll
  rw [of_0]
  exact fc_buyL hv hb 6 0 FU s z (by omega) (lt_FU (by omega)) hX hs hz
theorem byS_la {I i j : Nat} {w v : Nat → Int32} (h : ¬ j = i) : ∀ (n : Nat) (z : TS), (byS I w v i n z).2.1 j = z.2.1 j := by
  intro n
  induction n with
  | zero => intro z; rfl
  | succ n ih =>
    intro z
    show (match puS I w v i z with
      | none => z
      | some z' => byS I w v i n z').2.1 j = _
    cases hp : puS I w v i z with
    | none => rfl
    | some z' =>
      dsimp only
      rw [ih z']
      unfold puS at hp
      split at hp
      · split at hp
        · cases hp
        · cases hp
          exact upd_ne _ _ h
      · cases hp
theorem trS_la {I : Nat} {w v : Nat → Int32} : ∀ {k j : Nat}, k ≤ j → (trS I w v k).2.1 j = if j < I then la0 I w v j else 0
  | 0, j, _ => rfl
  | k + 1, j, h => by
    show (byS I w v k 6 (trS I w v k)).2.1 j = _
    rw [byS_la (by omega), trS_la (k := k) (by omega)]
theorem la0_n {I T B : Nat} {w v : Nat → Int32} (hE : SE I T B w) {i : Nat} (hi : i < I) : ∃ q : Nat, q ≤ 9 ∧ la0 I w v i = nI q := by
  unfold la0
  split
  · exact (hE.2.2.2 i hi).1
  · exact ⟨0, by omega, nI_0.symm⟩
theorem trS_le {I T B : Nat} {w v : Nat → Int32} (hE : SE I T B w) : ∀ k, k ≤ I → ∀ o, o < I → ∃ q : Nat, q ≤ 99 ∧ (trS I w v k).2.2.1 o = nI q
  | 0, _, o, ho => (hE.2.2.2 o ho).2
  | k + 1, hk, o, ho => by
    have hz : ZN I k (trS I w v k) := ⟨by rw [trS_la (Nat.le_refl k), if_pos (by omega)]; exact la0_n hE (by omega), trS_le hE k (by omega)⟩
    exact ((byS_end (w := w) (v := v) hE.1.1 6 _ hz (ctS_lt _ (by have := hE.1.1; omega))).2).2 o ho
theorem trS_ZN {I T B : Nat} {w v : Nat → Int32} (hE : SE I T B w) {k : Nat} (hk : k < I) : ZN I k (trS I w v k) := ⟨by rw [trS_la (Nat.le_refl k), if_pos hk]; exact la0_n hE hk, trS_le hE k (by omega)⟩
theorem byS_0 {I i : Nat} {w v : Nat → Int32} {n : Nat} {z : TS} (h : z.2.1 i = 0) : byS I w v i n z = z := by
  have hp : puS I w v i z = none := by
    unfold puS
    rw [if_neg (by rw [h]; decide)]
  cases n with
  | zero => rfl
  | succ n => unfold byS; rw [hp]
theorem fc_runL {s0 : S2} {r i I T B : Nat} {v w : Nat → Int32} (hv : VS I v) : ∀ (m k fu : Nat) (s : S2), k + m = I → m < fu → TC I T B w s → s.1 21 i = v → RT r I k (trS I w v k) s → Fr (KT r) s0 s → ∃ s', f_Trade_run_L55 r 0 i fu (nI k) s = some s' ∧ RT r I I (trS I w v I) s' ∧ Fr (KT r) s0 s' := by
  intro m
  induction m with
  | zero =>
    intro k fu s hk hf hX hs hz hF
    obtain ⟨f, rfl, hf'⟩ := suc_of hf
    have h6 := hv.1
    refine ⟨s, ?_, by rw [show I = k by omega] at hz ⊢; exact hz, hF⟩
    show b_Trade_run_L55 r 0 i _ _ _ = _
    unfold b_Trade_run_L55
    rw [show g_Sea_isles 0 s = nI I from hX.2.2.1, if_pos (nI_le (by omega) (by omega))]
  | succ m ih =>
    intro k fu s hk hf hX hs hz hF
    obtain ⟨f, rfl, hf'⟩ := suc_lt hf
    have h6 := hv.1
    have hw := hX.2.1
    have hvs : VS I (s.1 21 i) := by rw [hs]; exact hv
    have hla : (trS I w v k).2.1 k = la0 I w v k := by rw [trS_la (Nat.le_refl k), if_pos (by omega)]
    show ∃ s', b_Trade_run_L55 r 0 i _ _ _ = _ ∧ _
    unfold b_Trade_run_L55 f_Trade_run_L100
    rw [show g_Sea_isles 0 s = nI I from hX.2.2.1, if_neg (nI_ge (by omega) (by omega)), fc_isHead hvs (by omega), Option.bind_some, hs, of_1, nI_add, of_4, of_5, fc_ofIsle (by omega) (by omega), Option.bind_some, fc_ofIsle (by omega) (by omega), Option.bind_some, hw]
    have skip : la0 I w v k = 0 → ∃ s', f_Trade_run_L55 r 0 i f (nI (k + 1)) s = some s' ∧ RT r I I (trS I w v I) s' ∧ Fr (KT r) s0 s' := by
      intro h0
      refine ih (k + 1) f s (by omega) hf' hX hs ?_ hF
      show RT r I (k + 1) (byS I w v k 6 (trS I w v k)) s
      rw [byS_0 (hla.trans h0)]
      obtain ⟨z1, z2, z3, z4⟩ := hz
      refine ⟨z1, fun j hj => ?_, z3, z4⟩
      rw [z2 j hj]
      by_cases c1 : j < k
      · rw [if_pos c1, if_pos (by omega)]
      · rw [if_neg c1]
        by_cases c2 : j = k
        · rw [if_pos (by omega), c2, hla, h0]
        · rw [if_neg (by omega)]
    cases hh : isH I v k with
    | false =>
      rw [if_pos (by decide)]
      exact skip (by unfold la0; rw [hh]; rfl)
    | true =>
      rw [if_neg (by decide)]
      by_cases h4 : w ((1 + k) * 8 + 4) = nI 4
      · rw [if_pos h4]
        exact skip (by unfold la0; simp [h4])
      · rw [if_neg h4, ix_nI (by omega) (by omega), Option.bind_some, Option.bind_some]
        have hl0 : la0 I w v k = w ((1 + k) * 8 + 5) := by unfold la0; simp [hh, h4]
        have F1 : Fr (KT r) s (pkS s 29 r k (w ((1 + k) * 8 + 5))) := Fr.pk (KT_t (by omega)) s _
        obtain ⟨z1, z2, z3, z4⟩ := hz
        obtain ⟨s2, b1, b2, b3⟩ := fc_buyAll (r := r) (i := i) (b := k) (z := trS I w v k) hv (by omega) (TC_KT hX F1) ((F1.arr fun _ => KT_ne (by omega)).trans hs) (by
          refine ⟨fun j hj => ?_, fun j hj => ?_, fun j hj => ?_, fun j hj => ?_⟩
          · rw [pkS_v, if_neg (by omega)]; exact z1 j hj
          · rw [pkS_v]
            by_cases c : j = k
            · rw [if_pos ⟨rfl, rfl, c⟩, if_pos (by omega), c, hla, hl0]
            · rw [if_neg (fun z => c z.2.2), z2 j hj]
              by_cases c1 : j < k
              · rw [if_pos c1, if_pos (by omega)]
              · rw [if_neg c1, if_neg (by omega)]
          · rw [pkS_v, if_neg (by omega)]; exact z3 j hj
          · rw [pkS_v, if_neg (by omega)]; exact z4 j hj)
        rw [b1, Option.bind_some]
        have F2 := F1.trans b3
        exact ih (k + 1) f s2 (by omega) hf' (TC_KT hX F2) ((F2.arr fun _ => KT_ne (by omega)).trans hs) b2 (hF.trans F2)
theorem fc_stockL {s0 : S2} {r i I T B : Nat} {v w : Nat → Int32} (h6 : I ≤ 6) : ∀ (m k fu : Nat) (s : S2), k + m = I → m < fu → TC I T B w s → (∀ j, j < k → s.1 30 r j = w ((1 + j) * 8 + 6)) → Fr (fun c i' _ => c == 30 && i' == r) s0 s → ∃ s', f_Trade_run_L26 r 0 i fu (nI k) s = f_Trade_run_L55 r 0 i FU 0 s' ∧ (∀ j, j < I → s'.1 30 r j = w ((1 + j) * 8 + 6)) ∧ Fr (fun c i' _ => c == 30 && i' == r) s0 s' := by
  intro m
  induction m with
  | zero =>
    intro k fu s hk hf hX hz hF
    obtain ⟨f, rfl, hf'⟩ := suc_of hf
    refine ⟨s, ?_, by rw [show I = k by omega]; exact hz, hF⟩
    show b_Trade_run_L26 r 0 i _ _ _ = _
    unfold b_Trade_run_L26
    rw [show g_Sea_isles 0 s = nI I from hX.2.2.1, if_pos (nI_le (by omega) (by omega)), of_0]
  | succ m ih =>
    intro k fu s hk hf hX hz hF
    obtain ⟨f, rfl, hf'⟩ := suc_lt hf
    have F1 : Fr (fun c i' _ => c == 30 && i' == r) s (pkS s 30 r k (w ((1 + k) * 8 + 6))) := Fr.pk (by simp) s _
    have F1' : Fr (KT r) s (pkS s 30 r k (w ((1 + k) * 8 + 6))) := Fr.pk (KT_t (by omega)) s _
    obtain ⟨s', h1, h2, h3⟩ := ih (k + 1) f _ (by omega) hf' (TC_KT hX F1') (fun j hj => by
      rw [pkS_v]
      by_cases c : j = k
      · rw [if_pos ⟨rfl, rfl, c⟩, c]
      · rw [if_neg (fun z => c z.2.2)]; exact hz j (by omega)) (hF.trans F1)
    refine ⟨s', ?_, h2, h3⟩
    show b_Trade_run_L26 r 0 i _ _ _ = _
    unfold b_Trade_run_L26
    rw [show g_Sea_isles 0 s = nI I from hX.2.2.1, if_neg (nI_ge (by omega) (by omega)), of_6, fc_ofIsle (by omega) (by omega), Option.bind_some, ix_nI (by omega) (by omega), Option.bind_some, Option.bind_some, of_1, nI_add, hX.2.1]
    exact h1
theorem fc_trade {s : S2} {r i I T B : Nat} {w : Nat → Int32} (hv : VS I (s.1 21 i)) (hX : TC I T B w s) : ∃ s', f_Trade_run r 0 i s = some s' ∧ RT r I I (trS I w (s.1 21 i) I) s' ∧ Fr (KT r) s s' := by
  have h6 := hv.1
  unfold f_Trade_run
  rw [of_0]
  have hk : ∀ c, (c = 27 ∨ c = 28 ∨ c = 29) → ∀ c' i' k, KT r c' i' k = false → Kar c r c' i' k = false := by
    intro c hc c' i' k h
    unfold KT at h
    unfold Kar
    simp only [Bool.and_eq_false_iff, Bool.or_eq_false_iff, beq_eq_false_iff_ne] at h ⊢
    omega
  obtain ⟨s1, a1, a2, a3⟩ := fc_fill (c := 27) (i := r) (n := 36) (x := 0) (s := s) (by omega)
  obtain ⟨s2, b1, b2, b3⟩ := fc_fill (c := 28) (i := r) (n := 6) (x := 0) (s := s1) (by omega)
  obtain ⟨s3, c1, c2, c3⟩ := fc_fill (c := 29) (i := r) (n := 6) (x := 0) (s := s2) (by omega)
  rw [a1, Option.bind_some, b1, Option.bind_some, c1, Option.bind_some]
  have F1 : Fr (KT r) s s1 := a3.mono (hk 27 (by omega))
  have F2 : Fr (KT r) s s2 := F1.trans (b3.mono (hk 28 (by omega)))
  have F3 : Fr (KT r) s s3 := F2.trans (c3.mono (hk 29 (by omega)))
  obtain ⟨s4, d1, d2, d3⟩ := fc_stockL (s0 := s3) (r := r) (i := i) (v := s.1 21 i) h6 I 0 FU s3 (by omega) (lt_FU (by omega)) (TC_KT hX F3) (fun j hj => by omega) (Fr.refl _ _)
  have F4 : Fr (KT r) s s4 := F3.trans (d3.mono fun c i' k h => by
    unfold KT at h
    simp only [Bool.and_eq_false_iff, Bool.or_eq_false_iff, beq_eq_false_iff_ne] at h ⊢
    omega)
  rw [nI_0] at d1
  rw [d1]
  refine fc_runL (s0 := s) hv I 0 FU s4 (by omega) (lt_FU (by omega)) (TC_KT hX F4) (F4.arr fun _ => KT_ne (by omega)) ⟨fun j hj => ?_, fun j hj => ?_, fun j hj => ?_, fun j hj => ?_⟩ F4
  · rw [d3.1 27 r j (by simp), c3.1 27 r j (by simp [Kar]), b3.1 27 r j (by simp [Kar]), a2 j hj]; rfl
  · rw [d3.1 29 r j (by simp), c2 j hj, if_neg (by omega)]
  · exact d2 j hj
  · rw [d3.1 28 r j (by simp), c3.1 28 r j (by simp [Kar]), b2 j hj]; rfl
