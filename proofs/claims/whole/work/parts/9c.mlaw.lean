/-! ===== a rule's text: the reference's sums ===== -/
section
variable {s s0 t : S2} {tp : Nat → Nat} {n N : Nat}
/-- the reference's pair for a sign of the class -/
def kd (c : Nat) : Nat × Nat := if 256 ≤ c then (0, c - 256) else if c < 6 then (1, c) else if c = 43 then (2, 0) else if c = 45 then (3, 0) else if c = 42 then (4, 0) else if c = 47 then (5, 0) else if c = 61 then (6, 0) else if c = 60 then (7, 0) else if c = 62 then (8, 0) else if c = 33 then (9, 0) else if c = 38 then (10, 0) else (11, 0)
def Ksm (N c _ k : Nat) : Bool := (c == 60 && (k == 3 || (k == 4 || k == 5))) || (((c == 62 || c == 63) && (Nat.ble (520 * N) k && Nat.blt k (520 * N + 520))) || (c == 64 && k == N))
theorem ksm_t {N c k : Nat} (hc : c = 62 ∨ c = 63) (h : k < 520) : Ksm N c 0 (520 * N + k) = true := by
  unfold Ksm
  have e1 : Nat.ble (520 * N) (520 * N + k) = true := Nat.ble_eq_true_of_le (by omega)
  have e2 : Nat.blt (520 * N + k) (520 * N + 520) = true := Nat.ble_eq_true_of_le (by show 520 * N + k + 1 ≤ _; omega)
  rw [e1, e2]
  rcases hc with rfl | rfl <;> rfl
theorem ksm_4 {N : Nat} : Ksm N 64 0 N = true := by unfold Ksm; simp
def LM (s : S2) (N d : Nat) (L : List Nat) (i : Nat) (t : S2) : Prop := Fr (Ksm N) s t ∧ t.1 64 0 N = nI L.length ∧ (∀ k, k < L.length → t.1 62 0 (520 * N + k) = nI (kd (L[k]?.getD 0)).1 ∧ t.1 63 0 (520 * N + k) = nI (kd (L[k]?.getD 0)).2) ∧ t.1 60 0 3 = nI i ∧ t.1 60 0 4 = -1 ∧ t.1 60 0 5 = nI d
def MBD (s : S2) (N x q : Nat) (t : S2) : Prop := Fr (Ksm N) s t ∧ t.1 60 0 4 = nI q ∧ t.1 64 0 N = nI x
/-- what a law's reading starts from -/
def LB (N : Nat) (s : S2) : Prop := N < 5 ∧ s.1 60 0 14 = nI N
theorem LM_mA {L : List Nat} {d i : Nat} (h : LM s N d L i t) : mA t i = t := pkS_self _ _ _ _ _ h.2.2.2.1
theorem LM_at {L : List Nat} {d i : Nat} (h : LM s N d L i t) (j : Nat) : LM s N d L j (mA t j) := by
  obtain ⟨h1, h2, h3, h4, h5, h6⟩ := h
  exact ⟨h1.pk' _ rfl, (mA_o (by omega)).trans h2, fun k hk => ⟨(mA_o (by omega)).trans (h3 k hk).1, (mA_o (by omega)).trans (h3 k hk).2⟩, mA_at _ _, (mA_o (by omega)).trans h5, (mA_o (by omega)).trans h6⟩
theorem ksm_tp (h : Fr (Ksm N) s t) (hp : TPm n tp s) : TPm n tp t := by
  unfold TPm at hp ⊢
  rw [h.1 60 0 2 rfl, h.arr (c := 61) (i := 0) fun _ => rfl]
  exact hp
theorem ksm_14 (h : Fr (Ksm N) s t) (hb : LB N s) : t.1 60 0 14 = nI N := (h.1 60 0 14 rfl).trans hb.2
theorem put_eq {x : Nat} {a b : Int32} (hb : LB N s) (h : Fr (Ksm N) s t) (h4 : t.1 64 0 N = nI x) (hx : x < 520) : f_M_put a b t = some (pkS (pkS (pkS t 62 0 (520 * N + x) a) 63 0 (520 * N + x) b) 64 0 N (nI (x + 1))) := by
  have hN := hb.1
  have e1 := ksm_14 h hb
  unfold f_M_put
  simp only [pkS_v, show ¬ (60 = 62) by decide, show ¬ (60 = 63) by decide, show ¬ (64 = 62) by decide, show ¬ (64 = 63) by decide, false_and, if_false, e1]
  rw [ix_nI (n := 5) (k := N) hN (by omega), Option.bind_some, h4, of_520, mul_nI, nI_add, ix_nI (n := 2600) (k := 520 * N + x) (by omega) (by omega)]
  simp only [Option.bind_some, pkS_v, show ¬ (60 = 62) by decide, show ¬ (60 = 63) by decide, show ¬ (64 = 62) by decide, show ¬ (64 = 63) by decide, false_and, if_false, e1, h4]
  rw [ix_nI (n := 5) (k := N) hN (by omega)]
  simp only [Option.bind_some, h4, mul_nI, nI_add]
  rw [ix_nI (n := 2600) (k := 520 * N + x) (by omega) (by omega)]
  simp only [Option.bind_some, pkS_v, show ¬ (60 = 62) by decide, show ¬ (60 = 63) by decide, show ¬ (64 = 62) by decide, show ¬ (64 = 63) by decide, false_and, if_false, e1, h4]
  rw [of_1, nI_add]
theorem LM_put {L : List Nat} {d i c : Nat} {a b : Int32} (hb : LB N s) (h : LM s N d L i t) (hl : L.length < 520) (ha : a = nI (kd c).1) (hb2 : b = nI (kd c).2) : ∃ t', f_M_put a b t = some t' ∧ LM s N d (L ++ [c]) i t' := by
  obtain ⟨h1, h2, h3, h4, h5, h6⟩ := h
  refine ⟨_, put_eq hb h1 h2 hl, ((h1.pk' _ (ksm_t (Or.inl rfl) hl)).pk' _ (ksm_t (Or.inr rfl) hl)).pk' _ ksm_4, ?_, fun k hk => ?_, ?_, ?_, ?_⟩
  · rw [pkS_v, if_pos ⟨rfl, rfl, rfl⟩, List.length_append]
    rfl
  · rw [List.length_append] at hk
    have hk : k < L.length + 1 := hk
    refine ⟨?_, ?_⟩
    · rw [pkS_v, if_neg (by omega), pkS_v, if_neg (by omega), pkS_v]
      by_cases e1 : k = L.length
      · rw [if_pos ⟨rfl, rfl, by omega⟩, e1, List.getElem?_append_right (Nat.le_refl _), Nat.sub_self, ha]
        rfl
      · rw [if_neg (by omega), List.getElem?_append_left (by omega)]
        exact (h3 k (by omega)).1
    · rw [pkS_v, if_neg (by omega), pkS_v]
      by_cases e1 : k = L.length
      · rw [if_pos ⟨rfl, rfl, by omega⟩, e1, List.getElem?_append_right (Nat.le_refl _), Nat.sub_self, hb2]
        rfl
      · rw [if_neg (by omega), pkS_v, if_neg (by omega), List.getElem?_append_left (by omega)]
        exact (h3 k (by omega)).2
  · rw [pkS_v, if_neg (by omega), pkS_v, if_neg (by omega), pkS_v, if_neg (by omega)]; exact h4
  · rw [pkS_v, if_neg (by omega), pkS_v, if_neg (by omega), pkS_v, if_neg (by omega)]; exact h5
  · rw [pkS_v, if_neg (by omega), pkS_v, if_neg (by omega), pkS_v, if_neg (by omega)]; exact h6
theorem MBD_put {x q : Nat} {a b : Int32} (hb : LB N s) (h : MBD s N x q t) (hl : x < 520) : ∃ t', f_M_put a b t = some t' ∧ MBD s N (x + 1) q t' := by
  obtain ⟨h1, h2, h3⟩ := h
  refine ⟨_, put_eq hb h1 h3 hl, ((h1.pk' _ (ksm_t (Or.inl rfl) hl)).pk' _ (ksm_t (Or.inr rfl) hl)).pk' _ ksm_4, ?_, ?_⟩
  · rw [pkS_v, if_neg (by omega), pkS_v, if_neg (by omega), pkS_v, if_neg (by omega)]; exact h2
  · rw [pkS_v, if_pos ⟨rfl, rfl, rfl⟩]
theorem LM_bad {L : List Nat} {d i q : Nat} (h : LM s N d L i t) : MBD s N L.length q (bad4 t q) := by
  obtain ⟨h1, h2, h3, h4, h5, h6⟩ := LM_at h q
  exact ⟨h1.pk' _ rfl, by unfold bad4; rw [pkS_v, if_pos ⟨rfl, rfl, rfl⟩], by unfold bad4; rw [pkS_v, if_neg (by omega)]; exact h2⟩
theorem MBD_pk {x q k : Nat} {y : Int32} (h : MBD s N x q t) (hk : k = 3 ∨ k = 5) : MBD s N x q (pkS t 60 0 k y) := by
  have hK : Ksm N 60 0 k = true := by rcases hk with rfl | rfl <;> rfl
  exact ⟨h.1.pk' _ hK, by rw [pkS_v, if_neg (by omega)]; exact h.2.1, by rw [pkS_v, if_neg (by omega)]; exact h.2.2⟩
theorem lm_look {L : List Nat} {d i : Nat} (ht : TOK n tp) (hp : TPm n tp s) (h : LM s N d L i t) (hi : i ≤ n) : f_M_look t = some (mA t (skN tp n i), hmN tp n (skN tp n i)) := by
  have hl := fm_look ht (ksm_tp h.1 hp) hi
  rw [LM_mA h] at hl
  exact hl
theorem lm_bad {L : List Nat} {d i : Nat} (h : LM s N d L i t) (q : Nat) : f_M_bad (mA t q) = some (bad4 t q) := fm_bad h.2.2.2.2.1
def RMr (n : Nat) (s : S2) (N d : Nat) (L : List Nat) (i : Nat) (t' : S2) : RES → Prop
  | Sum.inl q => q ≤ n ∧ ∃ x, x ≤ L.length + (n - i) ∧ MBD s N x q t'
  | Sum.inr q => LM s N d (L ++ q.2) q.1 t' ∧ i + q.2.length ≤ q.1 ∧ i < q.1 ∧ q.1 ≤ n
def PMm (n : Nat) (s : S2) (N d : Nat) (f : S2 → Option S2) (sp : Nat → RES) : Prop := ∀ (t : S2) (L : List Nat) (i : Nat), LM s N d L i t → i ≤ n → L.length ≤ i → ∃ t', f t = some t' ∧ RMr n s N d L i t' (sp i)
/-- a plain number -/
theorem fm_plL (ht : TOK n tp) (hp : TPm n tp t) (h4 : t.1 60 0 4 = -1) : ∀ (m k v i fu : Nat), k + m = 4 → m < fu → i ≤ n → v < 10 ^ k → f_M_plainNumber_L4 fu (nI v) (nI k) (mA t i) = some (if dgN tp n (dgS tp n m v i).2 then bad4 t (dgS tp n m v i).2 else mA t (dgS tp n m v i).2, nI (dgS tp n m v i).1) := by
  have h240 := ht.1
  have fin : ∀ v i, i ≤ n → f_M_plainNumber_L48 (nI v) (mA t i) = some (if dgN tp n i then bad4 t i else mA t i, nI v) := fun v i hi => by
    unfold f_M_plainNumber_L48
    rw [fm_here ht hp hi, Option.bind_some, fm_digit ht]
    cases dgN tp n i with
    | false => rfl
    | true =>
      rw [ifT, fm_bad h4]
      rfl
  intro m
  induction m with
  | zero =>
    intro k v i fu hk hf hi hv
    obtain ⟨g, rfl, -⟩ := suc_of hf
    show b_M_plainNumber_L4 _ _ _ _ = _
    unfold b_M_plainNumber_L4
    rw [of_4, if_pos (nI_le (by omega) (by omega))]
    exact fin v i hi
  | succ m ih =>
    intro k v i fu hk hf hi hv
    obtain ⟨g, rfl, hg⟩ := suc_lt hf
    have hv4 : v < 10000 := Nat.lt_of_lt_of_le hv (Nat.pow_le_pow_right (by omega) (show k ≤ 4 by omega))
    show b_M_plainNumber_L4 _ _ _ _ = _
    unfold b_M_plainNumber_L4
    rw [of_4, if_neg (nI_ge (by omega) (by omega)), fm_here ht hp hi, Option.bind_some, fm_digit ht]
    unfold dgS
    cases c : dgN tp n i with
    | false =>
      rw [ifF, if_neg (show ¬ (false = true) by decide), fin v i hi, c]
    | true =>
      obtain ⟨c1, c2, c3⟩ := dgN_at c
      have e : hmN tp n i = nI (tp i) := if_pos c1
      rw [ifT, if_pos rfl, Option.bind_some, mA_at, of_1, nI_add, Option.bind_some, e, of_10, mul_nI, nI_add, of_48, sub_nI (by omega), nI_add, show pkS (mA t i) 60 0 3 (nI (i + 1)) = mA t (i + 1) from mA_mA t _ _]
      exact ih (k + 1) (10 * v + tp i - 48) (i + 1) g (by omega) hg (by omega) (by rw [Nat.pow_succ]; omega)
theorem lto_z : ∀ ch, ch < 256 → g_M_letterOf (nI ch) zS = cdO (cIx 2 ch) := by decide +kernel
theorem lto_at (ht : TOK n tp) {i : Nat} : g_M_letterOf (hmN tp n i) s = cdO (cIx 2 (chN tp n i)) := by
  unfold hmN chN
  by_cases d : i < n
  · rw [if_pos d, if_pos d]
    exact lto_z (tp i) (ht.2 i d).2
  · rw [if_neg d, if_neg d, cx2_n.1]
    rfl
theorem kd_num {v : Nat} : kd (256 + v) = (0, v) := by unfold kd; rw [if_pos (by omega), show 256 + v - 256 = v by omega]
theorem kd_let {k : Nat} (h : k < 6) : kd k = (1, k) := by unfold kd; rw [if_neg (by omega), if_pos h]
theorem kd_op : kd 43 = (2, 0) ∧ kd 45 = (3, 0) ∧ kd 42 = (4, 0) ∧ kd 47 = (5, 0) ∧ kd 61 = (6, 0) ∧ kd 60 = (7, 0) ∧ kd 62 = (8, 0) ∧ kd 33 = (9, 0) ∧ kd 38 = (10, 0) ∧ kd 124 = (11, 0) := by decide
/-- a bracket opens and closes -/
theorem lm_opens {L : List Nat} {d i : Nat} (hd : d ≤ 6) (h : LM s N d L i t) : ∃ t', f_M_opens t = some t' ∧ (d < 6 → LM s N (d + 1) L (i + 1) t') ∧ (d = 6 → MBD s N L.length i t') := by
  obtain ⟨h1, h2, h3, h4, h5, h6⟩ := h
  unfold f_M_opens f_M_opens_L13
  rw [h6, of_6]
  by_cases c : d = 6
  · subst c
    have hb := lm_bad (q := i) (h := (⟨h1, h2, h3, h4, h5, h6⟩ : LM s N 6 L i t))
    rw [LM_mA (⟨h1, h2, h3, h4, h5, h6⟩ : LM s N 6 L i t)] at hb
    rw [if_pos rfl, hb, Option.bind_some, Option.bind_some, Option.bind_some]
    exact ⟨_, rfl, fun z => absurd z (by omega), fun _ => MBD_pk (MBD_pk (LM_bad (⟨h1, h2, h3, h4, h5, h6⟩ : LM s N 6 L i t)) (Or.inr rfl)) (Or.inl rfl)⟩
  · rw [if_neg (fun z => c ((nI_eq (by omega) (by omega)).mp z)), of_1, nI_add, Option.bind_some, pkS_v, if_neg (by omega), h4, nI_add, Option.bind_some]
    refine ⟨_, rfl, fun _ => ⟨(h1.pk' _ rfl).pk' _ rfl, ?_, fun k hk => ⟨?_, ?_⟩, ?_, ?_, ?_⟩, fun z => absurd z c⟩
    · rw [pkS_v, if_neg (by omega), pkS_v, if_neg (by omega)]; exact h2
    · rw [pkS_v, if_neg (by omega), pkS_v, if_neg (by omega)]; exact (h3 k hk).1
    · rw [pkS_v, if_neg (by omega), pkS_v, if_neg (by omega)]; exact (h3 k hk).2
    · rw [pkS_v, if_pos ⟨rfl, rfl, rfl⟩]
    · rw [pkS_v, if_neg (by omega), pkS_v, if_neg (by omega)]; exact h5
    · rw [pkS_v, if_neg (by omega), pkS_v, if_pos ⟨rfl, rfl, rfl⟩]
theorem lm_closes {L : List Nat} {d i c : Nat} (ht : TOK n tp) (hp : TPm n tp s) (h0 : 0 < c) (hc : c < 256) (h : LM s N (d + 1) L i t) (hi : i ≤ n) (hd : d < 100) : ∃ t', f_M_closes (nI c) t = some t' ∧ (chN tp n (skN tp n i) = c → LM s N d L (skN tp n i + 1) t') ∧ (¬ chN tp n (skN tp n i) = c → MBD s N L.length (skN tp n i) t') := by
  unfold f_M_closes f_M_closes_L20
  rw [h.2.2.2.2.1, of_m1, if_pos rfl, lm_look ht hp h hi, Option.bind_some]
  show ∃ t', (if hmN tp n (skN tp n i) = nI c then _ else (f_M_bad (mA t (skN tp n i))).bind _) = _ ∧ _
  obtain ⟨h1, h2, h3, h4, h5, h6⟩ := LM_at h (skN tp n i)
  by_cases e : chN tp n (skN tp n i) = c
  · rw [if_pos ((hm_is ht h0 hc).mpr e), h4, of_1, nI_add, Option.bind_some, pkS_v, if_neg (by omega), h6, sub_nI (by omega), show d + 1 - 1 = d by omega, Option.bind_some]
    refine ⟨_, rfl, fun _ => ⟨(h1.pk' _ rfl).pk' _ rfl, ?_, fun k hk => ⟨?_, ?_⟩, ?_, ?_, ?_⟩, fun z => absurd e z⟩
    · rw [pkS_v, if_neg (by omega), pkS_v, if_neg (by omega)]; exact h2
    · rw [pkS_v, if_neg (by omega), pkS_v, if_neg (by omega)]; exact (h3 k hk).1
    · rw [pkS_v, if_neg (by omega), pkS_v, if_neg (by omega)]; exact (h3 k hk).2
    · rw [pkS_v, if_neg (by omega), pkS_v, if_pos ⟨rfl, rfl, rfl⟩]
    · rw [pkS_v, if_neg (by omega), pkS_v, if_neg (by omega)]; exact h5
    · rw [pkS_v, if_pos ⟨rfl, rfl, rfl⟩]
  · rw [if_neg (fun z => e ((hm_is ht h0 hc).mp z)), lm_bad h, Option.bind_some, Option.bind_some, Option.bind_some]
    exact ⟨_, rfl, fun z => absurd z e, fun _ => MBD_pk (MBD_pk (LM_bad h) (Or.inl rfl)) (Or.inr rfl)⟩
theorem mb_closes {x q : Nat} {a : Int32} (hq : q < 1000) (h : MBD s N x q t) : ∃ t', f_M_closes a t = some t' ∧ MBD s N x q t' := by
  unfold f_M_closes f_M_closes_L20
  rw [h.2.1, of_m1, if_neg (m1_ne hq), Option.bind_some, Option.bind_some]
  exact ⟨_, rfl, MBD_pk (MBD_pk h (Or.inl rfl)) (Or.inr rfl)⟩
theorem pmm_atom (ht : TOK n tp) (hp : TPm n tp s) (hb : LB N s) {g : S2 → Option S2} {gs : Nat → Nat → RES} {d : Nat} (hg : d < 6 → PMm n s N (d + 1) g (gs (d + 1))) (hd : d ≤ 6) : PMm n s N d (f_M_atom g) (atS tp n gs d) := by
  intro t L i h hi hL
  have h240 := ht.1
  have hk := skN_le (tp := tp) hi
  have hat := LM_at h (skN tp n i)
  have hch := chN_lt ht (skN tp n i)
  unfold f_M_atom atS
  rw [lm_look ht hp h hi, Option.bind_some]
  show ∃ t', (if bI (g_M_isDigit (hmN tp n (skN tp n i)) (mA t (skN tp n i))) = 0 then _ else (f_M_plainNumber (mA t (skN tp n i))).bind _) = _ ∧ _
  rw [fm_digit ht]
  cases c : dgN tp n (skN tp n i) with
  | true =>
    rw [ifT, if_pos rfl]
    have hlt := (dgN_at c).1
    have hpl := fm_plL ht (ksm_tp h.1 hp) h.2.2.2.2.1 4 0 0 (skN tp n i) FU (by omega) (lt_FU (by omega)) hk.2 (by omega)
    have hle := dgS_le (tp := tp) (n := n) 4 0 (skN tp n i) hk.2
    have hgt : skN tp n i < (dgS tp n 4 0 (skN tp n i)).2 := by
      have := dgS_le (tp := tp) (n := n) 3 (10 * 0 + tp (skN tp n i) - 48) (skN tp n i + 1) (by omega)
      have e2 : dgS tp n 4 0 (skN tp n i) = dgS tp n 3 (10 * 0 + tp (skN tp n i) - 48) (skN tp n i + 1) := by
        show (if dgN tp n (skN tp n i) then _ else _) = _
        rw [c, if_pos rfl]
      rw [e2]; omega
    unfold f_M_plainNumber
    rw [show Int32.ofInt 0 = nI 0 from of_0, hpl, Option.bind_some]
    have en : nuG tp n 4 (skN tp n i) = if dgN tp n (dgS tp n 4 0 (skN tp n i)).2 then Sum.inl (dgS tp n 4 0 (skN tp n i)).2 else Sum.inr (dgS tp n 4 0 (skN tp n i)) := by
      unfold nuG
      rw [skN_2 hi, c, if_pos rfl]
    rw [en]
    by_cases y : dgN tp n (dgS tp n 4 0 (skN tp n i)).2 = true
    · rw [if_pos y, if_pos y]
      obtain ⟨t', a1, a2⟩ := MBD_put (a := nI 0) (b := nI (dgS tp n 4 0 (skN tp n i)).1) hb (LM_bad (q := (dgS tp n 4 0 (skN tp n i)).2) h) (by omega)
      refine ⟨t', ?_, hle.2.1, L.length + 1, by omega, a2⟩
      show (f_M_put (nI 0) (nI (dgS tp n 4 0 (skN tp n i)).1) (bad4 t _)).bind _ = _
      rw [a1, Option.bind_some]
    · rw [if_neg y, if_neg y]
      obtain ⟨t', a1, a2⟩ := LM_put (c := 256 + (dgS tp n 4 0 (skN tp n i)).1) (a := nI 0) (b := nI (dgS tp n 4 0 (skN tp n i)).1) hb (LM_at h (dgS tp n 4 0 (skN tp n i)).2) (by omega) (by rw [kd_num]) (by rw [kd_num])
      refine ⟨t', ?_, a2, by show i + 1 ≤ _; omega, by show i < _; omega, hle.2.1⟩
      show (f_M_put (nI 0) (nI (dgS tp n 4 0 (skN tp n i)).1) (mA t _)).bind _ = _
      rw [a1, Option.bind_some]
  | false =>
    rw [ifF, if_neg (show ¬ (false = true) by decide)]
    show ∃ t', (if g_M_letterOf (hmN tp n (skN tp n i)) (mA t (skN tp n i)) = Int32.ofInt (-1) then (if hmN tp n (skN tp n i) = Int32.ofInt 91 then (f_M_opens (mA t (skN tp n i))).bind _ else (f_M_bad (mA t (skN tp n i))).bind _) else _) = _ ∧ _
    rw [lto_at ht, of_m1, of_91]
    by_cases b : chN tp n (skN tp n i) = 91
    · have hlt := chN_p b (by omega)
      rw [if_pos b, b, cx2_n.2, if_pos (show cdO none = -1 from rfl), if_pos ((hm_is ht (by omega) (by omega)).mpr b)]
      obtain ⟨t1, o1, o2, o3⟩ := lm_opens hd hat
      rw [o1, Option.bind_some]
      by_cases d6 : d < 6
      · have h1 := o2 d6
        obtain ⟨t2, a1, a2⟩ := hg d6 t1 L (skN tp n i + 1) h1 (by omega) (by omega)
        rw [if_pos d6, h1.2.2.2.2.1, if_pos rfl, a1, Option.bind_some, of_93]
        cases e : gs (d + 1) (skN tp n i + 1) with
        | inl q =>
          rw [e] at a2
          obtain ⟨x1, x, x2, x3⟩ := a2
          obtain ⟨t3, r1, r2⟩ := mb_closes (a := nI 93) (by omega) x3
          rw [r1, Option.bind_some]
          exact ⟨t3, rfl, x1, x, by omega, r2⟩
        | inr q =>
          rw [e] at a2
          obtain ⟨x2, x3, x4, x5⟩ := a2
          have hkq := skN_le (tp := tp) x5
          obtain ⟨t3, r1, r2, r3⟩ := lm_closes (c := 93) ht hp (by omega) (by omega) x2 x5 (by omega)
          rw [r1, Option.bind_some]
          refine ⟨t3, rfl, ?_⟩
          show RMr n s N d L i t3 (if chN tp n (skN tp n q.1) = 93 then Sum.inr (skN tp n q.1 + 1, q.2) else Sum.inl (skN tp n q.1))
          by_cases y : chN tp n (skN tp n q.1) = 93
          · have hlq := chN_p y (by omega)
            rw [if_pos y]
            exact ⟨r2 y, by show i + q.2.length ≤ skN tp n q.1 + 1; omega, by show i < skN tp n q.1 + 1; omega, by show skN tp n q.1 + 1 ≤ n; omega⟩
          · rw [if_neg y]
            exact ⟨hkq.2, _, by rw [List.length_append]; omega, r3 y⟩
      · have h1 := o3 (by omega)
        rw [if_neg d6, h1.2.1, if_neg (m1_ne (by omega))]
        exact ⟨t1, rfl, hk.2, _, by omega, h1⟩
    · rw [if_neg b]
      cases e : cIx 2 (chN tp n (skN tp n i)) with
      | none =>
        rw [if_pos (show cdO none = -1 from rfl), if_neg (fun z => b ((hm_is ht (by omega) (by omega)).mp z)), lm_bad h, Option.bind_some]
        exact ⟨_, rfl, hk.2, _, by omega, LM_bad h⟩
      | some k =>
        have hlt : skN tp n i < n := by
          apply Classical.byContradiction
          intro hn
          have : chN tp n (skN tp n i) = 0 := if_neg hn
          rw [this, cx2_n.1] at e
          cases e
        have hk6 : k < 6 := by
          unfold cIx at e
          rw [kb_l.2.2.1] at e
          have := ffS_lt 6 0 k e
          omega
        obtain ⟨t', a1, a2⟩ := LM_put (c := k) (a := nI 1) (b := nI k) hb (LM_at h (skN tp n i + 1)) (by omega) (by rw [kd_let hk6]) (by rw [kd_let hk6])
        refine ⟨t', ?_, a2, by show i + 1 ≤ skN tp n i + 1; omega, by show i < skN tp n i + 1; omega, by show skN tp n i + 1 ≤ n; omega⟩
        rw [if_neg (show ¬ cdO (some k) = -1 from cdO_nm1 k (by omega))]
        show (some (pkS (mA t (skN tp n i)) 60 0 3 ((mA t (skN tp n i)).1 60 0 3 + Int32.ofInt 1))).bind _ = _
        rw [mA_at, of_1, nI_add, Option.bind_some, show pkS (mA t (skN tp n i)) 60 0 3 (nI (skN tp n i + 1)) = mA t (skN tp n i + 1) from mA_mA t _ _, lto_at ht, e]
        show (f_M_put (nI 1) (nI k) (mA t (skN tp n i + 1))).bind _ = _
        rw [a1, Option.bind_some]
theorem pmm_termL (ht : TOK n tp) (hp : TPm n tp s) (hb : LB N s) {g : S2 → Option S2} {gs : Nat → Nat → RES} {d : Nat} (ha : PMm n s N d (f_M_atom g) (atS tp n gs d)) : ∀ (m fu i : Nat) (L0 L : List Nat) (t : S2), n < i + m → m + 1 < fu → i ≤ n → L0.length + L.length ≤ i → LM s N d (L0 ++ L) (skN tp n i) t → ∃ t', f_M_term_L21 g fu (hmN tp n (skN tp n i)) t = some t' ∧ (match tmL tp n (atS tp n gs d) 42 47 m i L with
    | Sum.inl q => q ≤ n ∧ ∃ x, x ≤ L0.length + L.length + (n - i) ∧ MBD s N x q t'
    | Sum.inr q => LM s N d (L0 ++ q.2) q.1 t' ∧ i + q.2.length ≤ q.1 + L.length ∧ i ≤ q.1 ∧ q.1 ≤ n) := by
  have h240 := ht.1
  intro m
  induction m with
  | zero => intro fu i L0 L t h1 h2 h3; omega
  | succ m ih =>
    intro fu i L0 L t h1 h2 h3 h5 h
    obtain ⟨g', rfl, hg⟩ := suc_lt h2
    obtain ⟨g'', rfl, hg2⟩ := suc_of hg
    have hk := skN_le (tp := tp) h3
    have hch := chN_lt ht (skN tp n i)
    have is1 : (hmN tp n (skN tp n i) = nI 42) = (chN tp n (skN tp n i) = 42) := hm_is ht (by omega) (by omega)
    have is2 : (hmN tp n (skN tp n i) = nI 47) = (chN tp n (skN tp n i) = 47) := hm_is ht (by omega) (by omega)
    show ∃ t', b_M_term_L21 _ _ _ _ = _ ∧ _
    unfold b_M_term_L21
    rw [of_42, of_47]
    by_cases c : chN tp n (skN tp n i) = 42 ∨ chN tp n (skN tp n i) = 47
    · have hlt : skN tp n i < n := chN_p (c := chN tp n (skN tp n i)) rfl (by rcases c with c | c <;> omega)
      have e0 : ∀ (A B : Option S2), (if hmN tp n (skN tp n i) = nI 42 then A else (if hmN tp n (skN tp n i) = nI 47 then A else B)) = A := fun A B => by
        by_cases c' : chN tp n (skN tp n i) = 42
        · rw [if_pos (is1.mpr c')]
        · rw [if_neg (fun z => c' (is1.mp z)), if_pos (is2.mpr (by omega))]
      rw [e0]
      -- the sign's own pair
      obtain ⟨kv, hkv, hL59⟩ : ∃ kv : Int32, kv = nI (kd (chN tp n (skN tp n i))).1 ∧ ∀ q2, (if hmN tp n (skN tp n i) = nI 42 then f_M_term_L59 g (f_M_term_L21 g (g'' + 1)) (Int32.ofInt 4) q2 else f_M_term_L59 g (f_M_term_L21 g (g'' + 1)) (Int32.ofInt 5) q2) = f_M_term_L59 g (f_M_term_L21 g (g'' + 1)) kv q2 := by
        by_cases c' : chN tp n (skN tp n i) = 42
        · exact ⟨nI 4, by rw [c', kd_op.2.2.1], fun q2 => by rw [if_pos (is1.mpr c'), of_4]⟩
        · have c2' : chN tp n (skN tp n i) = 47 := by omega
          exact ⟨nI 5, by rw [c2', kd_op.2.2.2.1], fun q2 => by rw [if_neg (fun z => c' (is1.mp z)), of_5]⟩
      have hkv2 : (0 : Int32) = nI (kd (chN tp n (skN tp n i))).2 := by
        rcases c with c | c
        · rw [c, kd_op.2.2.1]; exact nI_0.symm
        · rw [c, kd_op.2.2.2.1]; exact nI_0.symm
      unfold f_M_term_L33
      obtain ⟨t1, a1, a2⟩ := ha _ (L0 ++ L) (skN tp n i + 1) (LM_at h (skN tp n i + 1)) (by omega) (by rw [List.length_append]; omega)
      rw [h.2.2.2.1, of_1, nI_add, Option.bind_some, show pkS t 60 0 3 (nI (skN tp n i + 1)) = mA t (skN tp n i + 1) from rfl, a1, Option.bind_some, of_42, hL59]
      unfold f_M_term_L59 f_M_term_L79
      rw [show Int32.ofInt 0 = (0 : Int32) from of_0]
      cases e : (atS tp n gs d) (skN tp n i + 1) with
      | inl q =>
        rw [e] at a2
        rw [tl_bad c e]
        obtain ⟨x1, x, x2, x3⟩ := a2
        rw [List.length_append] at x2
        obtain ⟨t2, r1, r2⟩ := MBD_put (a := kv) (b := 0) hb x3 (by omega)
        rw [r1, Option.bind_some, r2.2.1, of_m1, if_neg (m1_ne (by omega))]
        refine ⟨t2, ?_, x1, x + 1, by omega, r2⟩
        show b_M_term_L21 _ _ _ _ = _
        unfold b_M_term_L21
        rw [of_42, of_47, if_neg (show ¬ (-1 : Int32) = nI 42 by decide), if_neg (show ¬ (-1 : Int32) = nI 47 by decide)]
      | inr q =>
        rw [e] at a2
        rw [tl_go c e]
        obtain ⟨x2, x3, x4, x5⟩ := a2
        obtain ⟨t2, d1, d2⟩ := LM_put (c := chN tp n (skN tp n i)) (a := kv) (b := 0) hb x2 (by rw [List.length_append, List.length_append]; omega) hkv hkv2
        rw [d1, Option.bind_some, d2.2.2.2.2.1, of_m1, if_pos rfl, lm_look ht hp d2 x5, Option.bind_some]
        obtain ⟨t', r1, r2⟩ := ih (g'' + 1) q.1 L0 (L ++ q.2 ++ [chN tp n (skN tp n i)]) (mA t2 (skN tp n q.1)) (by omega) (by omega) x5 (by rw [List.length_append, List.length_append]; show L0.length + (L.length + q.2.length + 1) ≤ q.1; omega) (by rw [← List.append_assoc, ← List.append_assoc]; exact LM_at d2 _)
        refine ⟨t', r1, ?_⟩
        cases z : tmL tp n (atS tp n gs d) 42 47 m q.1 (L ++ q.2 ++ [chN tp n (skN tp n i)]) with
        | inl y =>
          rw [z] at r2
          obtain ⟨y1, x, y2, y3⟩ := r2
          rw [List.length_append, List.length_append] at y2
          have y2 : x ≤ L0.length + (L.length + q.2.length + 1) + (n - q.1) := y2
          exact ⟨y1, x, by omega, y3⟩
        | inr y =>
          rw [z] at r2
          obtain ⟨y2, y3, y4, y5⟩ := r2
          rw [List.length_append, List.length_append] at y3
          have y3 : q.1 + y.2.length ≤ y.1 + (L.length + q.2.length + 1) := y3
          exact ⟨y2, by omega, by omega, y5⟩
    · rw [if_neg (fun z => c (Or.inl (is1.mp z))), if_neg (fun z => c (Or.inr (is2.mp z))), tl_stop c]
      exact ⟨_, rfl, h, by show i + L.length ≤ skN tp n i + L.length; omega, hk.1, hk.2⟩
theorem pmm_term (ht : TOK n tp) (hp : TPm n tp s) (hb : LB N s) {g : S2 → Option S2} {gs : Nat → Nat → RES} {d : Nat} (ha : PMm n s N d (f_M_atom g) (atS tp n gs d)) : PMm n s N d (f_M_term g) (lpR tp n (atS tp n gs d) 42 47) := by
  have h240 := ht.1
  intro t L i h hi hL
  obtain ⟨t1, a1, a2⟩ := ha t L i h hi hL
  unfold f_M_term lpR f_M_term_L20
  rw [a1, Option.bind_some]
  cases e : (atS tp n gs d) i with
  | inl q =>
    rw [e] at a2
    obtain ⟨x1, x, x2, x3⟩ := a2
    rw [x3.2.1, of_m1, if_neg (m1_ne (by omega))]
    refine ⟨t1, ?_, x1, x, x2, x3⟩
    show b_M_term_L21 _ _ _ _ = _
    unfold b_M_term_L21
    rw [of_42, of_47, if_neg (show ¬ (-1 : Int32) = nI 42 by decide), if_neg (show ¬ (-1 : Int32) = nI 47 by decide)]
  | inr q =>
    rw [e] at a2
    obtain ⟨x2, x3, x4, x5⟩ := a2
    rw [x2.2.2.2.2.1, of_m1, if_pos rfl, lm_look ht hp x2 x5, Option.bind_some]
    obtain ⟨t', r1, r2⟩ := pmm_termL ht hp hb ha 241 FU q.1 L q.2 (mA t1 (skN tp n q.1)) (by omega) (lt_FU (by omega)) x5 (by omega) (LM_at x2 _)
    refine ⟨t', r1, ?_⟩
    show RMr n s N d L i t' (tmL tp n (atS tp n gs d) 42 47 241 q.1 q.2)
    cases z : tmL tp n (atS tp n gs d) 42 47 241 q.1 q.2 with
    | inl y =>
      rw [z] at r2
      obtain ⟨y1, x, y2, y3⟩ := r2
      exact ⟨y1, x, by omega, y3⟩
    | inr y =>
      rw [z] at r2
      obtain ⟨y2, y3, y4, y5⟩ := r2
      exact ⟨y2, by omega, by omega, y5⟩
theorem pmm_sumL (ht : TOK n tp) (hp : TPm n tp s) (hb : LB N s) {g : S2 → Option S2} {gs : Nat → Nat → RES} {d : Nat} (ha : PMm n s N d (f_M_term g) (teS tp n gs d)) : ∀ (m fu i : Nat) (L0 L : List Nat) (t : S2), n < i + m → m + 1 < fu → i ≤ n → L0.length + L.length ≤ i → LM s N d (L0 ++ L) (skN tp n i) t → ∃ t', f_M_sum_L21 g fu (hmN tp n (skN tp n i)) t = some t' ∧ (match tmL tp n (teS tp n gs d) 43 45 m i L with
    | Sum.inl q => q ≤ n ∧ ∃ x, x ≤ L0.length + L.length + (n - i) ∧ MBD s N x q t'
    | Sum.inr q => LM s N d (L0 ++ q.2) q.1 t' ∧ i + q.2.length ≤ q.1 + L.length ∧ i ≤ q.1 ∧ q.1 ≤ n) := by
  have h240 := ht.1
  intro m
  induction m with
  | zero => intro fu i L0 L t h1 h2 h3; omega
  | succ m ih =>
    intro fu i L0 L t h1 h2 h3 h5 h
    obtain ⟨g', rfl, hg⟩ := suc_lt h2
    obtain ⟨g'', rfl, hg2⟩ := suc_of hg
    have hk := skN_le (tp := tp) h3
    have hch := chN_lt ht (skN tp n i)
    have is1 : (hmN tp n (skN tp n i) = nI 43) = (chN tp n (skN tp n i) = 43) := hm_is ht (by omega) (by omega)
    have is2 : (hmN tp n (skN tp n i) = nI 45) = (chN tp n (skN tp n i) = 45) := hm_is ht (by omega) (by omega)
    show ∃ t', b_M_sum_L21 _ _ _ _ = _ ∧ _
    unfold b_M_sum_L21
    rw [of_43, of_45]
    by_cases c : chN tp n (skN tp n i) = 43 ∨ chN tp n (skN tp n i) = 45
    · have hlt : skN tp n i < n := chN_p (c := chN tp n (skN tp n i)) rfl (by rcases c with c | c <;> omega)
      have e0 : ∀ (A B : Option S2), (if hmN tp n (skN tp n i) = nI 43 then A else (if hmN tp n (skN tp n i) = nI 45 then A else B)) = A := fun A B => by
        by_cases c' : chN tp n (skN tp n i) = 43
        · rw [if_pos (is1.mpr c')]
        · rw [if_neg (fun z => c' (is1.mp z)), if_pos (is2.mpr (by omega))]
      rw [e0]
      -- the sign's own pair
      obtain ⟨kv, hkv, hL59⟩ : ∃ kv : Int32, kv = nI (kd (chN tp n (skN tp n i))).1 ∧ ∀ q2, (if hmN tp n (skN tp n i) = nI 43 then f_M_sum_L59 g (f_M_sum_L21 g (g'' + 1)) (Int32.ofInt 2) q2 else f_M_sum_L59 g (f_M_sum_L21 g (g'' + 1)) (Int32.ofInt 3) q2) = f_M_sum_L59 g (f_M_sum_L21 g (g'' + 1)) kv q2 := by
        by_cases c' : chN tp n (skN tp n i) = 43
        · exact ⟨nI 2, by rw [c', kd_op.1], fun q2 => by rw [if_pos (is1.mpr c'), of_2]⟩
        · have c2' : chN tp n (skN tp n i) = 45 := by omega
          exact ⟨nI 3, by rw [c2', kd_op.2.1], fun q2 => by rw [if_neg (fun z => c' (is1.mp z)), of_3]⟩
      have hkv2 : (0 : Int32) = nI (kd (chN tp n (skN tp n i))).2 := by
        rcases c with c | c
        · rw [c, kd_op.1]; exact nI_0.symm
        · rw [c, kd_op.2.1]; exact nI_0.symm
      unfold f_M_sum_L33
      obtain ⟨t1, a1, a2⟩ := ha _ (L0 ++ L) (skN tp n i + 1) (LM_at h (skN tp n i + 1)) (by omega) (by rw [List.length_append]; omega)
      rw [h.2.2.2.1, of_1, nI_add, Option.bind_some, show pkS t 60 0 3 (nI (skN tp n i + 1)) = mA t (skN tp n i + 1) from rfl, a1, Option.bind_some, of_43, hL59]
      unfold f_M_sum_L59 f_M_sum_L79
      rw [show Int32.ofInt 0 = (0 : Int32) from of_0]
      cases e : (teS tp n gs d) (skN tp n i + 1) with
      | inl q =>
        rw [e] at a2
        rw [tl_bad c e]
        obtain ⟨x1, x, x2, x3⟩ := a2
        rw [List.length_append] at x2
        obtain ⟨t2, r1, r2⟩ := MBD_put (a := kv) (b := 0) hb x3 (by omega)
        rw [r1, Option.bind_some, r2.2.1, of_m1, if_neg (m1_ne (by omega))]
        refine ⟨t2, ?_, x1, x + 1, by omega, r2⟩
        show b_M_sum_L21 _ _ _ _ = _
        unfold b_M_sum_L21
        rw [of_43, of_45, if_neg (show ¬ (-1 : Int32) = nI 43 by decide), if_neg (show ¬ (-1 : Int32) = nI 45 by decide)]
      | inr q =>
        rw [e] at a2
        rw [tl_go c e]
        obtain ⟨x2, x3, x4, x5⟩ := a2
        obtain ⟨t2, d1, d2⟩ := LM_put (c := chN tp n (skN tp n i)) (a := kv) (b := 0) hb x2 (by rw [List.length_append, List.length_append]; omega) hkv hkv2
        rw [d1, Option.bind_some, d2.2.2.2.2.1, of_m1, if_pos rfl, lm_look ht hp d2 x5, Option.bind_some]
        obtain ⟨t', r1, r2⟩ := ih (g'' + 1) q.1 L0 (L ++ q.2 ++ [chN tp n (skN tp n i)]) (mA t2 (skN tp n q.1)) (by omega) (by omega) x5 (by rw [List.length_append, List.length_append]; show L0.length + (L.length + q.2.length + 1) ≤ q.1; omega) (by rw [← List.append_assoc, ← List.append_assoc]; exact LM_at d2 _)
        refine ⟨t', r1, ?_⟩
        cases z : tmL tp n (teS tp n gs d) 43 45 m q.1 (L ++ q.2 ++ [chN tp n (skN tp n i)]) with
        | inl y =>
          rw [z] at r2
          obtain ⟨y1, x, y2, y3⟩ := r2
          rw [List.length_append, List.length_append] at y2
          have y2 : x ≤ L0.length + (L.length + q.2.length + 1) + (n - q.1) := y2
          exact ⟨y1, x, by omega, y3⟩
        | inr y =>
          rw [z] at r2
          obtain ⟨y2, y3, y4, y5⟩ := r2
          rw [List.length_append, List.length_append] at y3
          have y3 : q.1 + y.2.length ≤ y.1 + (L.length + q.2.length + 1) := y3
          exact ⟨y2, by omega, by omega, y5⟩
    · rw [if_neg (fun z => c (Or.inl (is1.mp z))), if_neg (fun z => c (Or.inr (is2.mp z))), tl_stop c]
      exact ⟨_, rfl, h, by show i + L.length ≤ skN tp n i + L.length; omega, hk.1, hk.2⟩
theorem pmm_sum (ht : TOK n tp) (hp : TPm n tp s) (hb : LB N s) {g : S2 → Option S2} {gs : Nat → Nat → RES} {d : Nat} (ha : PMm n s N d (f_M_term g) (teS tp n gs d)) : PMm n s N d (fb_M_sum g) (lpR tp n (teS tp n gs d) 43 45) := by
  have h240 := ht.1
  intro t L i h hi hL
  obtain ⟨t1, a1, a2⟩ := ha t L i h hi hL
  unfold fb_M_sum lpR f_M_sum_L20
  rw [a1, Option.bind_some]
  cases e : (teS tp n gs d) i with
  | inl q =>
    rw [e] at a2
    obtain ⟨x1, x, x2, x3⟩ := a2
    rw [x3.2.1, of_m1, if_neg (m1_ne (by omega))]
    refine ⟨t1, ?_, x1, x, x2, x3⟩
    show b_M_sum_L21 _ _ _ _ = _
    unfold b_M_sum_L21
    rw [of_43, of_45, if_neg (show ¬ (-1 : Int32) = nI 43 by decide), if_neg (show ¬ (-1 : Int32) = nI 45 by decide)]
  | inr q =>
    rw [e] at a2
    obtain ⟨x2, x3, x4, x5⟩ := a2
    rw [x2.2.2.2.2.1, of_m1, if_pos rfl, lm_look ht hp x2 x5, Option.bind_some]
    obtain ⟨t', r1, r2⟩ := pmm_sumL ht hp hb ha 241 FU q.1 L q.2 (mA t1 (skN tp n q.1)) (by omega) (lt_FU (by omega)) x5 (by omega) (LM_at x2 _)
    refine ⟨t', r1, ?_⟩
    show RMr n s N d L i t' (tmL tp n (teS tp n gs d) 43 45 241 q.1 q.2)
    cases z : tmL tp n (teS tp n gs d) 43 45 241 q.1 q.2 with
    | inl y =>
      rw [z] at r2
      obtain ⟨y1, x, y2, y3⟩ := r2
      exact ⟨y1, x, by omega, y3⟩
    | inr y =>
      rw [z] at r2
      obtain ⟨y2, y3, y4, y5⟩ := r2
      exact ⟨y2, by omega, by omega, y5⟩
theorem pmm_sumS (ht : TOK n tp) (hp : TPm n tp s) (hb : LB N s) : ∀ (f d : Nat), d ≤ 6 → 7 ≤ d + f → PMm n s N d (f_M_sum f) (sumS tp n f d) := by
  intro f
  induction f with
  | zero => intro d h1 h2; omega
  | succ f ih =>
    intro d h1 h2
    have ha := pmm_atom (g := f_M_sum f) (gs := sumS tp n f) (d := d) ht hp hb (fun h6 => ih (d + 1) (by omega) (by omega)) h1
    exact pmm_sum ht hp hb (pmm_term ht hp hb ha)
end
