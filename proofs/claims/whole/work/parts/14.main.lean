/-! ===== the small machine is sound: a call of it is a contract of the machine ===== -/
/-- a call of a method, at most d deep -/
def kcall {S : Type} (O : MOps S) : Nat → MCall S
  | 0 => fun _ _ _ _ => False
  | d + 1 => fun m as σ Post => match kprog m with
    | some (cd, mx, rt) => cond (Nat.ble (mwt as) mx) (mrun O (kcall O d) cd rt Post 0 (minit as mx) [] σ (kcost m)) False
    | none => False
/-- the statics: nest mates, texts, tables, the script -/
def ZK (A : Nat → Prop) (ad : Nat × Nat → Nat) (xv : Value) (xs : Nat → Int32) (L : Nat) (U : State) : Prop :=
  (∀ q ∈ knest, va_Nw (.methodLinkNest q.1 q.2.1 q.2.2.1 q.2.2.2) U) ∧ (∀ q ∈ kstrs, vk_R q.1 q.2.1 q.2.2.1 (ad (2, q.2.2.2)) U) ∧
  vk_S 3 [4, 32, 6] [kbyt 0, kbyt 1, kbyt 2] (fun i => ad (2, i)) (fun i => ad (3, i)) A U U.heap ∧
  (∀ i, i < 5 → va_T .int (ad (4, i)) (kstat i).length (fun j => .int (lgD (kstat i) j)) A U U.heap) ∧
  (∀ i C n d v, ksta i = some (C, n, d) → k2gs i = some v → va_Z C n d (em ad xv v) A U U.heap) ∧
  va_T .int (ad (5, 0)) L (fun j => .int (xs j)) A U U.heap ∧ va_AO "DriftSea$Rule" U ∧ va_AO "DriftSea$State" U
abbrev strK (k : Nat) (r : Nat × Nat) (v : MV) : Prop := ∃ i, i < 3 ∧ r = (2, i) ∧ ((k = 0 ∧ v = .inl 0) ∨ (k = 1 ∧ v = .inr (.inr (3, i))))
abbrev nextA {S : Type} (D : va_G) (A : Nat → Prop) (rep : S → va_W) (szR : S → Nat → Prop) (σ σ' : S) (x : Nat) : Prop := ∀ n : Nat, szR σ n → szR σ' (n + 1) ∧ ∀ (q : Nat) (E : va_E) (H1 : Heap), va_P D vwCl (rep σ ++ [(q, E)]) H1 → va_D A (rep σ ++ [(q, E)]) → H1.size ≤ n + 1 → q = x
/-- what a heap of the small machine must keep to -/
def OLaw {S : Type} (O : MOps S) (D : va_G) (A : Nat → Prop) (rep : S → va_W) (szR : S → Nat → Prop) (ad : Nat × Nat → Nat) (xv : Value) (vok : MV → Prop) (cT : Nat → ClassId) (tys : List (ClassId × FieldType)) (xs : Nat → Int32) (L : Nat) : Prop :=
  (∀ a k σ r v, vok (.inr (.inr r)) → O.gf σ r a k = some v → vok v ∧ 2 ≤ r.1 ∧ ((∃ (q0 : Nat) (fs : List Value), cellAt rep σ q0 (ad r) (.inr (a, fs)) ∧ fs[k]? = some (em ad xv v)) ∨ (a = 13 ∧ strK k r v))) ∧
  (∀ a k C T N σ r v σ', vwCl[a]? = some (C, T, N) → vok (.inr (.inr r)) → vok v → O.pf σ r a k v = some σ' → 2 ≤ r.1 ∧ (∀ n, szR σ n → szR σ' n) ∧ (∃ (q0 : Nat) (fs : List Value), cellAt rep σ q0 (ad r) (.inr (a, fs)) ∧ k < fs.length ∧ rep σ' = (rep σ).set q0 (ad r, .inr (a, fs.set k (em ad xv v)))) ∧ ∃ ty, parseFieldDescriptor (T k).2.2.1 = some ty ∧ narrow ty (em ad xv v) = em ad xv v ∧ fits ty (em ad xv v) = true) ∧
  (∀ σ r n f, vok (.inr (.inr r)) → O.ai σ r = some (n, f) → 2 ≤ r.1 ∧ n < 2 ^ 31 ∧ ((∃ q0 : Nat, cellAt rep σ q0 (ad r) (.inl (cT 0, n, .inl f))) ∨ (∃ i, i < 5 ∧ r = (4, i) ∧ n = (kstat i).length ∧ f = lgD (kstat i)) ∨ (r = (5, 0) ∧ n = L ∧ f = xs))) ∧
  (∀ σ r n f f' σ', vok (.inr (.inr r)) → O.ai σ r = some (n, f) → O.wi σ r f' = some σ' → 2 ≤ r.1 ∧ n < 2 ^ 31 ∧ (∀ n, szR σ n → szR σ' n) ∧ ∃ q0 : Nat, cellAt rep σ q0 (ad r) (.inl (cT 0, n, .inl f)) ∧ rep σ' = (rep σ).set q0 (ad r, .inl (cT 0, n, .inl f'))) ∧
  (∀ σ r n f, vok (.inr (.inr r)) → O.al σ r = some (n, f) → 2 ≤ r.1 ∧ n < 2 ^ 31 ∧ ∃ q0 : Nat, cellAt rep σ q0 (ad r) (.inl (cT 1, n, .inr (.inl f)))) ∧
  (∀ σ r n f f' σ', vok (.inr (.inr r)) → O.al σ r = some (n, f) → O.wl σ r f' = some σ' → 2 ≤ r.1 ∧ n < 2 ^ 31 ∧ (∀ n, szR σ n → szR σ' n) ∧ ∃ q0 : Nat, cellAt rep σ q0 (ad r) (.inl (cT 1, n, .inr (.inl f))) ∧ rep σ' = (rep σ).set q0 (ad r, .inl (cT 1, n, .inr (.inl f')))) ∧
  (∀ σ r n f, vok (.inr (.inr r)) → O.ar σ r = some (n, f) → 2 ≤ r.1 ∧ n < 2 ^ 31 ∧ (∀ j, j < n → vok (.inr (.inr (f j)))) ∧ ∃ (q0 t0 : Nat) (C : String) (g : Nat → Option Nat), cellAt rep σ q0 (ad r) (.inl (cT t0, n, .inr (.inr (.inr (.inr g))))) ∧ tys[t0]? = some (cT t0, .object C) ∧ ∀ j, j < n → va_rf (g j) = er ad xv (f j)) ∧
  (∀ σ r n f j x σ', vok (.inr (.inr r)) → vok (.inr (.inr x)) → O.ar σ r = some (n, f) → j < n → O.wr σ r j x = some σ' → 2 ≤ r.1 ∧ 2 ≤ x.1 ∧ n < 2 ^ 31 ∧ (∀ n, szR σ n → szR σ' n) ∧ ∃ (q0 t0 qk ci : Nat) (r0 : vw_C) (vs : List Value) (g : Nat → Option Nat), cellAt rep σ q0 (ad r) (.inl (cT t0, n, .inr (.inr (.inr (.inr g))))) ∧ tys[t0]? = some (cT t0, .object r0.1) ∧ cellAt rep σ qk (ad x) (.inr (ci, vs)) ∧ vwCl[ci]? = some r0 ∧ rep σ' = (rep σ).set q0 (ad r, .inl (cT t0, n, .inr (.inr (.inr (.inr (va_up g j (some (ad x))))))))) ∧
  (∀ σ r n, vok (.inr (.inr r)) → O.ln σ r = some n → 2 ≤ r.1 ∧ ((∃ (q0 t0 : Nat) (x : vp_A) (cA : ClassId) (ty : FieldType), cellAt rep σ q0 (ad r) (.inl (cA, x)) ∧ x.1 = n ∧ tys[t0]? = some (cA, ty)) ∨ (∃ i, i < 5 ∧ r = (4, i) ∧ n = (kstat i).length) ∨ (∃ i, i < 3 ∧ r = (3, i) ∧ n = (kbyt i).length) ∨ (r = (5, 0) ∧ n = L))) ∧
  (∀ σ r n f, vok (.inr (.inr r)) → O.ab σ r = some (n, f) → ∃ i, i < 3 ∧ r = (3, i) ∧ n = (kbyt i).length ∧ f = lgD (kbyt i)) ∧
  (∀ i v, O.gs i = some v → k2gs i = some v ∧ vok v) ∧
  (∀ σ r ci, vok (.inr (.inr r)) → O.co σ r = some ci → 2 ≤ r.1 ∧ ((∃ (q0 : Nat) (fs : List Value), cellAt rep σ q0 (ad r) (.inr (ci, fs))) ∨ (ci = 13 ∧ ∃ i, i < 3 ∧ r = (2, i)))) ∧
  (∀ a C T N (ty0 : Nat → FieldType) σ r n σ', vwCl[a]? = some (C, T, N) → (∀ k, k < N → parseFieldDescriptor (T k).2.2.1 = some (ty0 k)) → O.nw σ a = some (r, n, σ') → vok (.inr (.inr r)) ∧ 2 ≤ r.1 ∧ n = N ∧ ∃ fs : List Value, (∀ j, j < N → defaultValue (ty0 j) = vp_V fs j) ∧ rep σ' = rep σ ++ [(ad r, .inr (a, fs))] ∧ nextA D A rep szR σ σ' (ad r)) ∧
  (∀ σ n r σ', O.na σ 0 n = some (r, σ') → vok (.inr (.inr r)) ∧ 2 ≤ r.1 ∧ rep σ' = rep σ ++ [(ad r, .inl (cT 0, n, .inl (fun _ => 0)))] ∧ nextA D A rep szR σ σ' (ad r)) ∧
  (∀ σ n r σ', O.na σ 1 n = some (r, σ') → vok (.inr (.inr r)) ∧ 2 ≤ r.1 ∧ rep σ' = rep σ ++ [(ad r, .inl (cT 1, n, .inr (.inl (fun _ => 0))))] ∧ nextA D A rep szR σ σ' (ad r)) ∧
  (∀ a σ n r σ', (a = 2 ∨ a = 3) → O.na σ a n = some (r, σ') → vok (.inr (.inr r)) ∧ 2 ≤ r.1 ∧ rep σ' = rep σ ++ [(ad r, .inl (cT a, n, .inr (.inr (.inr (.inr (fun _ => none))))))] ∧ nextA D A rep szR σ σ' (ad r)) ∧
  (∀ x, vok (.inl x)) ∧ (∀ x, vok (.inr (.inl x))) ∧ vok (.inr (.inr (0, 0))) ∧ (∀ i, i < 3 → vok (.inr (.inr (2, i))))
theorem lgD_getD : ∀ (l : List Int32) (j : Nat), lgD l j = l.getD j 0
  | [], _ => rfl
  | _ :: _, 0 => rfl
  | _ :: r, j + 1 => by
    show lgD r j = _
    rw [lgD_getD r j]; rfl
theorem Wd_good : ∀ w ∈ Wd, goodWord w = true := fun _ h => (List.mem_filter.mp h).2
theorem off_none {d v : Int} : ∀ {l : List (Int × Int)}, (∀ q ∈ l, ¬ q.1 = v) → Op.lookupswitch.offset l d v = d
  | [], _ => rfl
  | (x, o) :: r, h => by
    rw [Op.lookupswitch.offset_cons, if_neg (h (x, o) List.mem_cons_self)]
    exact off_none fun q hq => h q (List.mem_cons_of_mem _ hq)
theorem fetch_mem : ∀ {cd : MC} {pc : Nat} {e : ME}, mfetch cd pc = some e → (pc, e) ∈ cd
  | [], _, _, h => by simp [mfetch] at h
  | q :: r, pc, e, h => by
    unfold mfetch at h
    cases hq : Nat.beq q.1 pc with
    | true =>
      rw [hq] at h
      have h2 : q.2 = e := Option.some.inj h
      have h1 := Nat.eq_of_beq_eq_true hq
      exact List.mem_cons.mpr (Or.inl (by rw [← h1, ← h2]))
    | false =>
      rw [hq] at h
      exact List.mem_cons_of_mem _ (fetch_mem (cd := r) h)
theorem cchk_mem {own : String} {ini : Bool} {bs : ByteArray} : ∀ {cd : MC} {ws : List Nat}, cchk own ini bs cd ws = true → ∀ q ∈ cd, ∃ w, decb bs q.1 q.2.1 q.2.2.1 = true ∧ elkb own ini q.1 q.2 w = true
  | [], _, _, _, hq => by cases hq
  | q :: r, [], h, _, _ => by simp [cchk] at h
  | q :: r, w :: ws, h, z, hz => by
    obtain ⟨h1, h2⟩ := Bool.and_eq_true_iff.mp h
    obtain ⟨h2, h3⟩ := Bool.and_eq_true_iff.mp h2
    rcases List.mem_cons.mp hz with rfl | hz
    · exact ⟨w, h1, h2⟩
    · exact cchk_mem h3 z hz
theorem decb_dec {bs : ByteArray} {pc nx : Nat} {ins : Instr} (h : decb bs pc ins nx = true) : Dec bs pc ins nx := by
  obtain ⟨h1, h2⟩ := Bool.and_eq_true_iff.mp h
  obtain ⟨h2, h3⟩ := Bool.and_eq_true_iff.mp h2
  refine ⟨of_decide_eq_true h1, of_decide_eq_true h2, ?_⟩
  rcases Bool.or_eq_true_iff.mp h3 with h3 | h3
  · exact Or.inl (of_decide_eq_true h3)
  · exact Or.inr (of_decide_eq_true h3)
theorem slkb_lk {A : Nat → Prop} {ad : Nat × Nat → Nat} {xv : Value} {xs : Nat → Int32} {L w i : Nat} {own : String} {y : MethodName} {s : State} (hZ : ZK A ad xv xs L s) (h : slkb w own i y = true) : Lk Wd own i y s := by
  rcases Bool.or_eq_true_iff.mp h with h | h
  · exact Or.inl (inW_mem h)
  · obtain ⟨q, h1, h2⟩ := List.any_eq_true.mp h
    obtain ⟨h2, h3⟩ := Bool.and_eq_true_iff.mp h2
    obtain ⟨h3, h4⟩ := Bool.and_eq_true_iff.mp h3
    have e1 := of_decide_eq_true h2
    have e2 := of_decide_eq_true h3
    have e3 := of_decide_eq_true h4
    refine Or.inr ⟨q.2.2.2, ?_⟩
    have := hZ.1 q h1
    rw [e1, e2, e3] at this
    exact this
/-- the classes, each with its words -/
theorem cls_ok {a N : Nat} {C : String} {T : u_T} (h : vwCl[a]? = some (C, T, N)) : (∀ w ∈ u_ws C T N, w ∈ Wd) ∧ (∃ ty0 : Nat → FieldType, ∀ k, k < N → parseFieldDescriptor (T k).2.2.1 = some (ty0 k)) ∧ (∀ a, a < N → ∀ b, b < N → a ≠ b → (T a).2.1 ≠ (T b).2.1) ∧ Cond.instantiable C N ∈ Wd ∧ Cond.initialized C ∈ Wd := by
  match a, h with
  | 0, h => cases h; exact ⟨wsIn_mem kcl_0, ⟨tyX0, tyX0_ok⟩, nmX0, inW_mem kci_0.1, inW_mem kci_0.2⟩
  | 1, h => cases h; exact ⟨wsIn_mem kcl_1, ⟨tyX1, tyX1_ok⟩, nmX1, inW_mem kci_1.1, inW_mem kci_1.2⟩
  | 2, h => cases h; exact ⟨wsIn_mem kcl_2, ⟨tyX2, tyX2_ok⟩, nmX2, inW_mem kci_2.1, inW_mem kci_2.2⟩
  | 3, h => cases h; exact ⟨wsIn_mem kcl_3, ⟨tyX3, tyX3_ok⟩, nmX3, inW_mem kci_3.1, inW_mem kci_3.2⟩
  | 4, h => cases h; exact ⟨wsIn_mem kcl_4, ⟨tyX4, tyX4_ok⟩, nmX4, inW_mem kci_4.1, inW_mem kci_4.2⟩
  | 5, h => cases h; exact ⟨wsIn_mem kcl_5, ⟨tyX5, tyX5_ok⟩, nmX5, inW_mem kci_5.1, inW_mem kci_5.2⟩
  | 6, h => cases h; exact ⟨wsIn_mem kcl_6, ⟨tyX6, tyX6_ok⟩, nmX6, inW_mem kci_6.1, inW_mem kci_6.2⟩
  | 7, h => cases h; exact ⟨wsIn_mem kcl_7, ⟨tyX7, tyX7_ok⟩, nmX7, inW_mem kci_7.1, inW_mem kci_7.2⟩
  | 8, h => cases h; exact ⟨wsIn_mem kcl_8, ⟨tyX8, tyX8_ok⟩, nmX8, inW_mem kci_8.1, inW_mem kci_8.2⟩
  | 9, h => cases h; exact ⟨wsIn_mem kcl_9, ⟨tyX9, tyX9_ok⟩, nmX9, inW_mem kci_9.1, inW_mem kci_9.2⟩
  | 10, h => cases h; exact ⟨wsIn_mem kcl_10, ⟨tyX10, tyX10_ok⟩, nmX10, inW_mem kci_10.1, inW_mem kci_10.2⟩
  | 11, h => cases h; exact ⟨wsIn_mem kcl_11, ⟨tyX11, tyX11_ok⟩, nmX11, inW_mem kci_11.1, inW_mem kci_11.2⟩
  | 12, h => cases h; exact ⟨wsIn_mem kcl_12, ⟨tyX12, tyX12_ok⟩, nmX12, inW_mem kci_12.1, inW_mem kci_12.2⟩
  | n + 13, h => exact absurd (List.getElem?_eq_some_iff.mp h).1 (by show ¬ n + 13 < 13; omega)
/-- what a checked method gives -/
def KOK (m : Nat) : Prop := ∀ y bs mx ret n kd, kinfo m = some (y, bs, mx, ret, n, kd) → MInfo Wd y bs mx ret n ∧ plainName y.cls = true ∧ (kd = 0 → Cond.static y ∈ Wd) ∧ (kd = 1 → Cond.instanceMethod y ∈ Wd ∧ Cond.selects y.cls y y ∈ Wd) ∧ (kd = 2 → Cond.instanceMethod y ∈ Wd ∧ y.name = "<init>") ∧ ∃ cd rt ws, kprog m = some (cd, mx, rt) ∧ rtok rt ret = true ∧ cchk y.cls (decide (y.name = "<init>")) bs cd ws = true
theorem mchk_ok {m w1 w2 w3 w4 : Nat} {ws : List Nat} (h : mchk m w1 w2 w3 w4 ws = true) : KOK m := by
  intro y bs mx ret n kd hk
  unfold mchk at h
  rw [hk] at h
  cases hp : kprog m with
  | none => rw [hp] at h; simp at h
  | some q =>
    obtain ⟨cd, mx', rt⟩ := q
    rw [hp] at h
    dsimp only at h
    obtain ⟨a1, h⟩ := Bool.and_eq_true_iff.mp h
    obtain ⟨a2, h⟩ := Bool.and_eq_true_iff.mp h
    obtain ⟨a3, h⟩ := Bool.and_eq_true_iff.mp h
    obtain ⟨a4, h⟩ := Bool.and_eq_true_iff.mp h
    obtain ⟨a5, h⟩ := Bool.and_eq_true_iff.mp h
    obtain ⟨a6, h⟩ := Bool.and_eq_true_iff.mp h
    obtain ⟨a7, h⟩ := Bool.and_eq_true_iff.mp h
    obtain ⟨a8, h⟩ := Bool.and_eq_true_iff.mp h
    obtain ⟨a9, h⟩ := Bool.and_eq_true_iff.mp h
    obtain ⟨b1, b2⟩ := Bool.and_eq_true_iff.mp h
    have e1 := Nat.eq_of_beq_eq_true a1
    subst e1
    have a9 := of_decide_eq_true a9
    refine ⟨⟨inW_mem a4, inW_mem a5, ⟨of_decide_eq_true a7, of_decide_eq_true a8⟩, fun sig hs => ?_, Nat.le_of_ble_eq_true a2⟩, a6, fun z => ?_, fun z => ?_, fun z => ?_, cd, rt, ws, rfl, a3, b2⟩
    · rw [hs] at a9
      exact (Option.some.inj a9).symm
    · subst z; exact inW_mem b1
    · subst z
      obtain ⟨c1, c2⟩ := Bool.and_eq_true_iff.mp b1
      exact ⟨inW_mem c1, inW_mem c2⟩
    · subst z
      obtain ⟨c1, c2⟩ := Bool.and_eq_true_iff.mp b1
      exact ⟨inW_mem c1, of_decide_eq_true c2⟩
theorem kw_nat : Cond.native arraycopyName ∈ Wd := inW_mem (w := 560) (by decide +kernel)
theorem kw_sta : Cond.static arraycopyName ∈ Wd := inW_mem (w := 559) (by decide +kernel)
theorem kw_sys : Cond.initialized "java/lang/System" ∈ Wd := inW_mem (w := 131) (by decide +kernel)
theorem kw_oi : Cond.instanceMethod Lib.objectInit ∈ Wd := inW_mem (w := 149) (by decide +kernel)
theorem kw_oc : Cond.code Lib.objectInit ⟨#[0xb1]⟩ 1 none ∈ Wd := inW_mem (w := 150) (by decide +kernel)
theorem kw_s101 : Cond.static Lib.Math.abs.name ∈ Wd := inW_mem (w := 1117) (by decide +kernel)
theorem kw_c101 : Cond.code Lib.Math.abs.name Lib.Math.abs.code 1 (some .int) ∈ Wd := inW_mem (w := 1118) (by decide +kernel)
theorem kw_s102 : Cond.static Lib.Math.max.name ∈ Wd := inW_mem (w := 603) (by decide +kernel)
theorem kw_c102 : Cond.code Lib.Math.max.name Lib.Math.max.code 2 (some .int) ∈ Wd := inW_mem (w := 604) (by decide +kernel)
theorem kw_s103 : Cond.static Lib.Math.min.name ∈ Wd := inW_mem (w := 606) (by decide +kernel)
theorem kw_c103 : Cond.code Lib.Math.min.name Lib.Math.min.code 2 (some .int) ∈ Wd := inW_mem (w := 607) (by decide +kernel)
theorem kw_s104 : Cond.static Lib.MathLoose.max_long.x ∈ Wd := inW_mem (w := 910) (by decide +kernel)
theorem kw_c104 : Cond.code Lib.MathLoose.max_long.x Lib.MathLoose.max_long.code 4 (some .long) ∈ Wd := inW_mem (w := 911) (by decide +kernel)
theorem kw_s105 : Cond.static Lib.MathLoose.min_long.x ∈ Wd := inW_mem (w := 907) (by decide +kernel)
theorem kw_c105 : Cond.code Lib.MathLoose.min_long.x Lib.MathLoose.min_long.code 4 (some .long) ∈ Wd := inW_mem (w := 908) (by decide +kernel)
theorem kw_math : Cond.initialized "java/lang/Math" ∈ Wd := inW_mem (w := 134) (by decide +kernel)
theorem kw_ai : Cond.arrayClass FieldType.int ∈ Wd := inW_mem (w := 167) (by decide +kernel)
theorem kw_al : Cond.arrayClass FieldType.long ∈ Wd := inW_mem (w := 2393) (by decide +kernel)
