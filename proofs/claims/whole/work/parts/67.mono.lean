/-! ===== monopoly ===== -/
section
variable {I T B R : Nat} {W : Option WF6} {s s' s0 : S2} {w v : Nat → Int32}
def soS (I : Nat) (am : Nat → Int32) (o : Nat) : Int32 := suS (fun b => am (b * 6 + o)) I
def moS (I : Nat) (w am : Nat → Int32) (g : Int32) : Nat → Option Nat × Int32
  | 0 => (none, 0)
  | o + 1 => if w ((1 + o) * 8 + 3) = g ∧ ¬ soS I am o ≤ (moS I w am g o).2 then (some o, soS I am o) else moS I w am g o
theorem moS_ok {am : Nat → Int32} {g : Int32} : ∀ k, 0 ≤ (moS I w am g k).2 ∧ ∀ o, (moS I w am g k).1 = some o → o < k ∧ (moS I w am g k).2 = soS I am o := by
  intro k
  induction k with
  | zero => exact ⟨Int32.le_refl 0, fun o h => by cases h⟩
  | succ k ih =>
    obtain ⟨h1, h2⟩ := ih
    show 0 ≤ (if w ((1 + k) * 8 + 3) = g ∧ ¬ soS I am k ≤ (moS I w am g k).2 then (some k, soS I am k) else moS I w am g k).2 ∧ ∀ o, (if w ((1 + k) * 8 + 3) = g ∧ ¬ soS I am k ≤ (moS I w am g k).2 then (some k, soS I am k) else moS I w am g k).1 = some o → o < k + 1 ∧ (if w ((1 + k) * 8 + 3) = g ∧ ¬ soS I am k ≤ (moS I w am g k).2 then (some k, soS I am k) else moS I w am g k).2 = soS I am o
    by_cases c : w ((1 + k) * 8 + 3) = g ∧ ¬ soS I am k ≤ (moS I w am g k).2
    · rw [if_pos c]
      refine ⟨Int32.le_trans h1 (Int32.le_of_lt (Int32.not_le.mp c.2)), fun o ho => ?_⟩
      cases ho
      exact ⟨by omega, rfl⟩
    · rw [if_neg c]
      exact ⟨h1, fun o ho => ⟨by have := (h2 o ho).1; omega, (h2 o ho).2⟩⟩
theorem fc_soldL {r o : Nat} {am : Nat → Int32} (ho : o < 6) (hz : ∀ j, j < 36 → s.1 27 r j = am j) : ∀ (m k fu : Nat), k + m = 6 → m < fu → f_Trade_soldBy_L4 r fu (nI o) (suS (fun b => am (b * 6 + o)) k) (nI k) s = some (suS (fun b => am (b * 6 + o)) 6) := by
  intro m
  induction m with
  | zero =>
    intro k fu hk hf
    obtain ⟨f, rfl, hf'⟩ := suc_of hf
    show b_Trade_soldBy_L4 _ _ _ _ _ _ = _
    unfold b_Trade_soldBy_L4
    rw [of_6, if_pos (nI_le (by omega) (by omega)), show k = 6 by omega]
  | succ m ih =>
    intro k fu hk hf
    obtain ⟨f, rfl, hf'⟩ := suc_lt hf
    have st := ih (k + 1) f (by omega) hf'
    show b_Trade_soldBy_L4 _ _ _ _ _ _ = _
    unfold b_Trade_soldBy_L4
    rw [of_6, if_neg (nI_ge (by omega) (by omega)), fc_bought (by omega) ho, Option.bind_some, hz _ (by omega), of_1, nI_add]
    exact st
theorem suS_cut {f : Nat → Int32} : ∀ n, I ≤ n → (∀ j, I ≤ j → j < n → f j = 0) → suS f n = suS f I := by
  intro n
  induction n with
  | zero => intro h _; rw [show I = 0 by omega]
  | succ n ih =>
    intro h hz
    by_cases c : I = n + 1
    · rw [c]
    · show suS f n + f n = suS f I
      rw [hz n (by omega) (by omega), ih (by omega) (fun j h1 h2 => hz j h1 (by omega)), Int32.add_zero]
theorem fc_sold {r o : Nat} {am : Nat → Int32} (h6 : I ≤ 6) (ho : o < 6) (hz : ∀ j, j < 36 → s.1 27 r j = am j) (hA : AV I v am) : f_Trade_soldBy r (nI o) s = some (soS I am o) := by
  unfold f_Trade_soldBy soS
  rw [← suS_cut (f := fun b => am (b * 6 + o)) 6 h6 (fun j h1 h2 => by
    rcases hA (j * 6 + o) (by omega) with e | ⟨e, -⟩
    · exact e
    · have := isH_lt e
      omega), of_0, show (0 : Int32) = suS (fun b => am (b * 6 + o)) 0 from rfl]
  exact fc_soldL ho hz 6 0 FU (by omega) (lt_FU (by omega))
theorem fc_mostL {am : Nat → Int32} {g : Int32} (h6 : I ≤ 6) (hn : s.1 15 0 1 = nI I) (hw : s.1 14 0 = w) (hz : ∀ j, j < 36 → s.1 27 0 j = am j) (hA : AV I v am) : ∀ (m k fu : Nat), k + m = I → m < fu → f_Trade_mostSelling_L8 0 0 fu g (cdO (moS I w am g k).1) (moS I w am g k).2 (nI k) s = some (cdO (moS I w am g I).1) := by
  intro m
  induction m with
  | zero =>
    intro k fu hk hf
    obtain ⟨f, rfl, hf'⟩ := suc_of hf
    show b_Trade_mostSelling_L8 _ _ _ _ _ _ _ _ = _
    unfold b_Trade_mostSelling_L8
    rw [show g_Sea_isles 0 s = nI I from hn, if_pos (nI_le (by omega) (by omega)), show k = I by omega]
  | succ m ih =>
    intro k fu hk hf
    obtain ⟨f, rfl, hf'⟩ := suc_lt hf
    have st := ih (k + 1) f (by omega) hf'
    show b_Trade_mostSelling_L8 _ _ _ _ _ _ _ _ = _
    unfold b_Trade_mostSelling_L8 f_Trade_mostSelling_L50
    rw [show g_Sea_isles 0 s = nI I from hn, if_neg (nI_ge (by omega) (by omega)), of_3, fc_ofIsle (by omega) (by omega), Option.bind_some, hw, fc_sold h6 (by omega) hz hA, Option.bind_some, Option.bind_some, of_1, nI_add]
    rw [show moS I w am g (k + 1) = if w ((1 + k) * 8 + 3) = g ∧ ¬ soS I am k ≤ (moS I w am g k).2 then (some k, soS I am k) else moS I w am g k from rfl] at st
    by_cases c1 : w ((1 + k) * 8 + 3) = g
    · rw [if_pos c1]
      by_cases c2 : soS I am k ≤ (moS I w am g k).2
      · rw [if_neg (fun z => z.2 c2)] at st
        rw [if_pos c2]; exact st
      · rw [if_pos ⟨c1, c2⟩] at st
        rw [if_neg c2]; exact st
    · rw [if_neg (fun z => c1 z.1)] at st
      rw [if_neg c1]; exact st
theorem fm_monoI {am : Nat → Int32} {g x2 : Int32} {z : Option Nat × Int32} {o : Nat} (h : MW I T B w v s) (ho : o < I) (hz : ∀ j, j < 36 → s.1 84 0 j = am j) (k39 : Int32 → Int32 → Int32 → Int32 → Int32 → S2 → Option (S2 × Int32)) : ∀ (m k fu : Nat), k + m = I → m < fu → f_M_monopoly_L54 k39 fu g x2 (cdO z.1) z.2 (nI o) (if w ((1 + o) * 8 + 3) = g then suS (fun b => am (b * 6 + o)) k else 0) (nI k) s = if (if w ((1 + o) * 8 + 3) = g then soS I am o else 0) ≤ z.2 then k39 g x2 (cdO z.1) z.2 (nI (o + 1)) s else k39 g x2 (nI o) (if w ((1 + o) * 8 + 3) = g then soS I am o else 0) (nI (o + 1)) s := by
  have h6 := h.1.1.1
  intro m
  induction m with
  | zero =>
    intro k fu hk hf
    obtain ⟨f, rfl, hf'⟩ := suc_of hf
    show b_M_monopoly_L54 _ _ _ _ _ _ _ _ _ _ = _
    unfold b_M_monopoly_L54 f_M_monopoly_L116
    rw [h.2.2.1, if_pos (nI_le (by omega) (by omega)), show k = I by omega, of_1, nI_add]
    rfl
  | succ m ih =>
    intro k fu hk hf
    obtain ⟨f, rfl, hf'⟩ := suc_lt hf
    have st := ih (k + 1) f (by omega) hf'
    show b_M_monopoly_L54 _ _ _ _ _ _ _ _ _ _ = _
    unfold b_M_monopoly_L54 f_M_monopoly_L93
    rw [h.2.2.1, if_neg (nI_ge (by omega) (by omega)), of_3, fm_of (by omega) (by omega), Option.bind_some, h.2.2.2.2.1 o ho 3 (by omega) (by omega), of_6, mul_nI, nI_add, ix_nI (n := 36) (k := 6 * k + o) (by omega) (by omega), Option.bind_some, hz _ (by omega), show 6 * k + o = k * 6 + o by omega, of_1, nI_add, of_0, Int32.add_zero, ← st]
    by_cases c : w ((1 + o) * 8 + 3) = g
    · rw [if_pos c, if_pos c, if_pos c]
      rfl
    · rw [if_neg c, if_neg c, if_neg c]
theorem fm_monoO {am : Nat → Int32} {g x2 : Int32} (h : MW I T B w v s) (hz : ∀ j, j < 36 → s.1 84 0 j = am j) : ∀ (m k fu : Nat), k + m = I → m < fu → f_M_monopoly_L39 fu g x2 (cdO (moS I w am g k).1) (moS I w am g k).2 (nI k) s = some (s, if cdO (moS I w am g I).1 = -1 then -1 else if x2 = 0 then cdO (moS I w am g I).1 else (moS I w am g I).2) := by
  have h6 := h.1.1.1
  intro m
  induction m with
  | zero =>
    intro k fu hk hf
    obtain ⟨f, rfl, hf'⟩ := suc_of hf
    show b_M_monopoly_L39 _ _ _ _ _ _ _ = _
    unfold b_M_monopoly_L39
    rw [h.2.2.1, if_pos (nI_le (by omega) (by omega)), show k = I by omega, of_m1]
    by_cases c : cdO (moS I w am g I).1 = -1
    · rw [if_pos c, if_pos c, c]
    · rw [if_neg c, if_neg c]
      split <;> rfl
  | succ m ih =>
    intro k fu hk hf
    obtain ⟨f, rfl, hf'⟩ := suc_lt hf
    have st := ih (k + 1) f (by omega) hf'
    have hin := fm_monoI (am := am) (g := g) (x2 := x2) (z := moS I w am g k) (o := k) h (by omega) hz (f_M_monopoly_L39 f) I 0 FU (by omega) (lt_FU (by omega))
    rw [show (if w ((1 + k) * 8 + 3) = g then suS (fun b => am (b * 6 + k)) 0 else 0) = nI 0 from by split <;> rfl] at hin
    show b_M_monopoly_L39 _ _ _ _ _ _ _ = _
    unfold b_M_monopoly_L39
    rw [h.2.2.1, if_neg (nI_ge (by omega) (by omega)), show Int32.ofInt 0 = nI 0 from of_0, hin]
    rw [show moS I w am g (k + 1) = if w ((1 + k) * 8 + 3) = g ∧ ¬ soS I am k ≤ (moS I w am g k).2 then (some k, soS I am k) else moS I w am g k from rfl] at st
    have h0 := (moS_ok (I := I) (w := w) (am := am) (g := g) k).1
    by_cases c1 : w ((1 + k) * 8 + 3) = g
    · rw [if_pos c1]
      by_cases c2 : soS I am k ≤ (moS I w am g k).2
      · rw [if_neg (fun z => z.2 c2)] at st
        rw [if_pos c2]; exact st
      · rw [if_pos ⟨c1, c2⟩] at st
        rw [if_neg c2]; exact st
    · rw [if_neg (fun z => c1 z.1)] at st
      rw [if_neg c1, if_pos h0]; exact st
theorem q_monopoly (h : INV I T B R W s) (x y : Int32) : ∃ s1 r s2, f_D_monopoly x y s = some (s1, r) ∧ f_M_monopoly x y s1 = some (s2, r) ∧ INV I T B R W s2 := by
  have h6 := h.1.2.2.1.1.1
  unfold f_D_monopoly
  rw [v_hasSea h, g_D_isWithin_eq, g_D_isWithin_eq, of_m1]
  by_cases cI : I = 0
  · rw [decide_eq_false (fun z => z cI)]
    refine ⟨s, _, s, by rw [ifF], ?_, h⟩
    unfold f_M_monopoly
    rw [h.1.2.2.2.2.2.1.1, if_pos (by rw [cI]; exact nI_0), of_m1]
  · rw [decide_eq_true cI]
    have hM : ∀ t : S2, INV I T B R W t → ¬ t.1 60 0 28 = 0 := fun t ht z => by
      rw [ht.1.2.2.2.2.2.1.1] at z
      exact cI ((nI_eq (by omega) (by omega)).mp (z.trans nI_0.symm))
    cases c1 : inS x (Int32.ofInt 0) (Int32.ofInt 3) with
    | false => exact ⟨s, _, s, by rw [ifT, ifF], by unfold f_M_monopoly; rw [if_neg (hM s h), g_M_in_eq, c1, ifF, of_m1], h⟩
    | true =>
      cases c2 : inS y (Int32.ofInt 0) (Int32.ofInt 1) with
      | false => exact ⟨s, _, s, by rw [ifT, ifT, ifF], by unfold f_M_monopoly; rw [if_neg (hM s h), g_M_in_eq, c1, ifT, g_M_in_eq, c2, ifF, of_m1], h⟩
      | true =>
        obtain ⟨s1, p1, p2, p3, p4, p5, s2, q1, q2, q3, q4, q5, -⟩ := INV_trade h
        have hMW : MW I T B (s.1 14 0) (s.1 21 0) s2 := by
          have g1 := q3.1.2.2.1
          have g2 := q3.1.2.2.2.2.1
          have g3 := q3.1.2.2.2.2.2.1.1
          have g4 := q3.1.2.2.2.2.2.2.1
          have g5 := q3.1.2.2.2.2.2.2.2.2
          rw [q4] at g1 g4
          rw [q5] at g2 g5
          exact ⟨g1, g2, g3, g4.2.2.1 0 (by omega), g4.2.2.2.1, g5⟩
        have hA := trS_AV (w := s.1 14 0) (v := s.1 21 0) h6 I (Nat.le_refl I)
        have hc := fc_mostL (g := x) h6 p3.1.2.2.2.1.1 p4 p2.1 hA I 0 FU (by omega) (lt_FU (by omega))
        have hm := fm_monoO (g := x) (x2 := y) hMW q2.1 I 0 FU (by omega) (lt_FU (by omega))
        obtain ⟨-, k2⟩ := moS_ok (I := I) (w := s.1 14 0) (am := (trS I (s.1 14 0) (s.1 21 0) I).1) (g := x) I
        refine ⟨s1, (if cdO (moS I (s.1 14 0) (trS I (s.1 14 0) (s.1 21 0) I).1 x I).1 = -1 then -1 else if y = 0 then cdO (moS I (s.1 14 0) (trS I (s.1 14 0) (s.1 21 0) I).1 x I).1 else (moS I (s.1 14 0) (trS I (s.1 14 0) (s.1 21 0) I).1 x I).2), s2, ?_, ?_, q3⟩
        · rw [ifT, ifT, ifT, p1, Option.bind_some]
          unfold f_Trade_mostSelling
          rw [of_m1, of_0, show f_Trade_mostSelling_L8 0 0 FU x (-1) 0 0 s1 = _ from hc, Option.bind_some]
          by_cases c : cdO (moS I (s.1 14 0) (trS I (s.1 14 0) (s.1 21 0) I).1 x I).1 = -1
          · rw [if_pos c, if_pos c]
          · rw [if_neg c, if_neg c]
            by_cases cy : y = 0
            · rw [if_pos cy, if_pos cy]
            · rw [if_neg cy, if_neg cy]
              cases e : (moS I (s.1 14 0) (trS I (s.1 14 0) (s.1 21 0) I).1 x I).1 with
              | none => rw [e] at c; exact absurd rfl c
              | some o =>
                obtain ⟨o1, o2⟩ := k2 o e
                rw [o2, show cdO (some o) = nI o from rfl, fc_sold h6 (by omega) p2.1 hA]
                rfl
        · unfold f_M_monopoly
          rw [if_neg (hM s1 p3), g_M_in_eq, c1, ifT, g_M_in_eq, c2, ifT, q1, Option.bind_some, of_m1, of_0]
          exact hm
end
