/-! ===== pays ===== -/
section
variable {I T B R : Nat} {W : Option WF6} {s s' s0 : S2} {w v : Nat → Int32}
def suS (f : Nat → Int32) : Nat → Int32
  | 0 => 0
  | n + 1 => suS f n + f n
theorem suS_eq {f g : Nat → Int32} : ∀ n, (∀ j, j < n → g j = f j) → suS g n = suS f n := by
  intro n
  induction n with
  | zero => intro _; rfl
  | succ n ih =>
    intro h
    show suS g n + g n = suS f n + f n
    rw [ih fun j hj => h j (by omega), h n (by omega)]
theorem suS_upd {f g : Nat → Int32} {o : Nat} {d : Int32} (ho : g o = f o + d) (h : ∀ j, ¬ j = o → g j = f j) : ∀ n, o < n → suS g n = suS f n + d := by
  intro n
  induction n with
  | zero => intro h; omega
  | succ n ih =>
    intro hn
    show suS g n + g n = suS f n + f n + d
    by_cases c : n = o
    · subst c
      rw [suS_eq n fun j hj => h j (by omega), ho, Int32.add_assoc]
    · rw [ih (by omega), h n c, Int32.add_assoc, Int32.add_assoc, Int32.add_comm d]
theorem suS_0 : ∀ n, suS (fun _ => 0) n = 0 := by
  intro n
  induction n with
  | zero => rfl
  | succ n ih => show suS _ n + 0 = 0; rw [ih]; rfl
def PB (I : Nat) (w v : Nat → Int32) (i : Nat) (z : TS) : Prop := z.2.2.2 i = suS (fun o => z.1 (i * 6 + o) * coS w v i o) I ∧ ∃ L : Nat, z.2.1 i = nI L ∧ ∀ o, o < I → ∃ q : Nat, q + L ≤ 9 ∧ z.1 (i * 6 + o) = nI q
def LF (I : Nat) (z : TS) : Prop := ∀ o, o < I → ∃ q : Nat, q ≤ 99 ∧ z.2.2.1 o = nI q
theorem paS_PB {i o : Nat} {z : TS} (h6 : I ≤ 6) (ho : o < I) (h : PB I w v i z) (hl : LF I z) : PB I w v i (paS w v i o z) ∧ LF I (paS w v i o z) ∧ ∀ i', ¬ i' = i → PB I w v i' z → PB I w v i' (paS w v i o z) := by
  obtain ⟨h1, L, h2, h3⟩ := h
  obtain ⟨Q, q1, q2⟩ := h3 o ho
  obtain ⟨F, f1, f2⟩ := hl o ho
  have em : jmin (z.2.1 i) (z.2.2.1 o) = nI (min L F) := by rw [h2, f2, jmin_nI (by omega) (by omega)]
  have hm : min L F ≤ L ∧ min L F ≤ F := ⟨Nat.min_le_left _ _, Nat.min_le_right _ _⟩
  generalize min L F = m at em hm
  unfold PB LF paS
  rw [em]
  refine ⟨⟨?_, L - m, ?_, fun o' ho' => ?_⟩, fun o' ho' => ?_, fun i' hi' hp => ?_⟩
  · show upd z.2.2.2 i (z.2.2.2 i + nI m * coS w v i o) i = suS (fun o' => upd z.1 (i * 6 + o) (z.1 (i * 6 + o) + nI m) (i * 6 + o') * coS w v i o') I
    rw [upd_eq, h1]
    refine (suS_upd (o := o) ?_ (fun j hj => ?_) I ho).symm
    · rw [upd_eq, Int32.add_mul]
    · rw [upd_ne _ _ (by omega)]
  · show upd z.2.1 i (z.2.1 i - nI m) i = nI (L - m)
    rw [upd_eq, h2, sub_nI (by omega)]
  · show ∃ q : Nat, q + (L - m) ≤ 9 ∧ upd z.1 (i * 6 + o) (z.1 (i * 6 + o) + nI m) (i * 6 + o') = nI q
    by_cases c : o' = o
    · subst c
      exact ⟨Q + m, by omega, by rw [upd_eq, q2, nI_add]⟩
    · obtain ⟨q, k1, k2⟩ := h3 o' ho'
      exact ⟨q, by omega, by rw [upd_ne _ _ (by omega), k2]⟩
  · show ∃ q : Nat, q ≤ 99 ∧ upd z.2.2.1 o (z.2.2.1 o - nI m) o' = nI q
    by_cases c : o' = o
    · subst c
      exact ⟨F - m, by omega, by rw [upd_eq, f2, sub_nI (by omega)]⟩
    · obtain ⟨q, k1, k2⟩ := hl o' ho'
      exact ⟨q, k1, by rw [upd_ne _ _ c, k2]⟩
  · obtain ⟨p1, L', p2, p3⟩ := hp
    have e : ∀ o', o' < I → upd z.1 (i * 6 + o) (z.1 (i * 6 + o) + nI m) (i' * 6 + o') = z.1 (i' * 6 + o') := fun o' ho' => upd_ne _ _ (by omega)
    refine ⟨?_, L', ?_, fun o' ho' => ?_⟩
    · show upd z.2.2.2 i (z.2.2.2 i + nI m * coS w v i o) i' = suS (fun o' => upd z.1 (i * 6 + o) (z.1 (i * 6 + o) + nI m) (i' * 6 + o') * coS w v i' o') I
      rw [upd_ne _ _ hi', p1]
      exact (suS_eq I fun j hj => by rw [e j hj]).symm
    · show upd z.2.1 i (z.2.1 i - nI m) i' = nI L'
      rw [upd_ne _ _ hi', p2]
    · show ∃ q : Nat, q + L' ≤ 9 ∧ upd z.1 (i * 6 + o) (z.1 (i * 6 + o) + nI m) (i' * 6 + o') = nI q
      rw [e o' ho']
      exact p3 o' ho'
theorem byS_PB {i : Nat} (h6 : I ≤ 6) (hi : i < I) : ∀ (n : Nat) (z : TS), (∀ i', i' < I → PB I w v i' z) → LF I z → (∀ i', i' < I → PB I w v i' (byS I w v i n z)) ∧ LF I (byS I w v i n z) := by
  intro n
  induction n with
  | zero => intro z h hl; exact ⟨h, hl⟩
  | succ n ih =>
    intro z h hl
    show (∀ i', i' < I → PB I w v i' (match puS I w v i z with | none => z | some z' => byS I w v i n z')) ∧ LF I (match puS I w v i z with | none => z | some z' => byS I w v i n z')
    cases e : puS I w v i z with
    | none => exact ⟨h, hl⟩
    | some z' =>
      have : ∃ o, o < I ∧ z' = paS w v i o z := by
        unfold puS at e
        split at e
        · cases ec : chS I w v z.2.2.1 i I with
          | none => rw [ec] at e; cases e
          | some o =>
            rw [ec] at e
            cases e
            exact ⟨o, (chS_lt ec).1, rfl⟩
        · cases e
      obtain ⟨o, ho, rfl⟩ := this
      obtain ⟨k1, k2, k3⟩ := paS_PB h6 ho (h i hi) hl
      exact ih _ (fun i' hi' => by
        by_cases c : i' = i
        · rw [c]; exact k1
        · exact k3 i' c (h i' hi')) k2
theorem trS_PB (hS : SE I T B w) : ∀ k, k ≤ I → (∀ i, i < I → PB I w v i (trS I w v k)) ∧ LF I (trS I w v k) := by
  intro k
  have h6 := hS.1.1
  induction k with
  | zero =>
    intro _
    refine ⟨fun i hi => ⟨?_, ?_⟩, fun o ho => (hS.2.2.2 o ho).2⟩
    · show (0 : Int32) = suS (fun o => 0 * coS w v i o) I
      rw [show (fun o => (0 : Int32) * coS w v i o) = fun _ => 0 from funext fun o => Int32.zero_mul, suS_0]
    · obtain ⟨q, q1, q2⟩ := (hS.2.2.2 i hi).1
      have : ∃ L : Nat, L ≤ 9 ∧ (if i < I then la0 I w v i else 0) = nI L := by
        rw [if_pos hi]
        unfold la0
        split
        · exact ⟨q, q1, q2⟩
        · exact ⟨0, by omega, nI_0.symm⟩
      obtain ⟨L, l1, l2⟩ := this
      exact ⟨L, l2, fun o _ => ⟨0, by omega, nI_0.symm⟩⟩
  | succ k ih =>
    intro hk
    obtain ⟨g1, g2⟩ := ih (by omega)
    exact byS_PB h6 (by omega) 6 _ g1 g2
theorem fm_paysL {a : Nat} {z : TS} (h : MW I T B w v s) (ha : a < I) (hz : ∀ j, j < 36 → s.1 84 0 j = z.1 j) (hp : PB I w v a z) : ∀ (m k fu : Nat), k + m = I → m < fu → f_M_pays_L18 fu (nI a) (suS (fun o => z.1 (a * 6 + o) * coS w v a o) k) (nI k) s = some (s, suS (fun o => z.1 (a * 6 + o) * coS w v a o) I) := by
  have h6 := h.1.1.1
  obtain ⟨-, L, -, h3⟩ := hp
  intro m
  induction m with
  | zero =>
    intro k fu hk hf
    obtain ⟨f, rfl, hf'⟩ := suc_of hf
    show b_M_pays_L18 _ _ _ _ _ = _
    unfold b_M_pays_L18
    rw [h.2.2.1, if_pos (nI_le (by omega) (by omega)), show k = I by omega]
  | succ m ih =>
    intro k fu hk hf
    obtain ⟨f, rfl, hf'⟩ := suc_lt hf
    obtain ⟨q, q1, q2⟩ := h3 k (by omega)
    have st := ih (k + 1) f (by omega) hf'
    show b_M_pays_L18 _ _ _ _ _ = _
    unfold b_M_pays_L18 f_M_pays_L63
    rw [h.2.2.1, if_neg (nI_ge (by omega) (by omega)), of_6, mul_nI, nI_add, ix_nI (n := 36) (k := 6 * a + k) (by omega) (by omega), Option.bind_some, Option.bind_some, hz _ (by omega), fm_costOf h ha (by omega), Option.bind_some, of_1, nI_add, show 6 * a + k = a * 6 + k by omega, q2, of_0]
    rw [show suS (fun o => z.1 (a * 6 + o) * coS w v a o) (k + 1) = suS (fun o => z.1 (a * 6 + o) * coS w v a o) k + z.1 (a * 6 + k) * coS w v a k from rfl, q2] at st
    by_cases c : q = 0
    · subst c
      rw [if_pos (by decide)]
      rw [nI_0, Int32.zero_mul] at st
      exact st
    · rw [if_neg (nI_nle (by omega) (by omega))]
      exact st
theorem q_pays (h : INV I T B R W s) (x : Int32) : ∃ s1 r s2, f_D_pays x s = some (s1, r) ∧ f_M_pays x s1 = some (s2, r) ∧ INV I T B R W s2 := by
  have h6 := h.1.2.2.1.1.1
  unfold f_D_pays f_M_pays
  rw [(v_isle h x).1]
  cases c : inS x 0 (nI I - nI 1) with
  | false => exact ⟨s, _, s, by rw [ifF], by rw [(v_isle h x).2, c, ifF], h⟩
  | true =>
    obtain ⟨a, a1, rfl⟩ := inS_nI c (by omega)
    obtain ⟨s1, p1, p2, p3, p4, p5, s2, q1, q2, q3, q4, q5, -⟩ := INV_trade h
    have hPB := (trS_PB (v := s.1 21 0) h.1.2.2.1 I (Nat.le_refl I)).1 a a1
    have hMW : MW I T B (s.1 14 0) (s.1 21 0) s2 := by
      have g1 := q3.1.2.2.1
      have g2 := q3.1.2.2.2.2.1
      have g3 := q3.1.2.2.2.2.2.1.1
      have g4 := q3.1.2.2.2.2.2.2.1
      have g5 := q3.1.2.2.2.2.2.2.2.2
      rw [q4] at g1 g4
      rw [q5] at g2 g5
      exact ⟨g1, g2, g3, g4.2.2.1 0 (by omega), g4.2.2.2.1, g5⟩
    have := fm_paysL hMW a1 q2.1 hPB I 0 FU (by omega) (lt_FU (by omega))
    refine ⟨s1, (trS I (s.1 14 0) (s.1 21 0) I).2.2.2 a, s2, ?_, ?_, q3⟩
    · unfold f_Trade_paidBy
      rw [ifT, p1, Option.bind_some, ix_nI (by omega) (by omega), Option.bind_some, Option.bind_some, p2.2.2.2 a (by omega)]
    · rw [(v_isle p3 (nI a)).2, c, ifT, q1, Option.bind_some, hPB.1, show Int32.ofInt 0 = nI 0 from of_0]
      exact this
end
