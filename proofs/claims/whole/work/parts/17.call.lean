/-! ===== a call of the small machine is a contract ===== -/
theorem mlg_rep : ∀ (n k : Nat), mlg (List.replicate n none) k = none
  | 0, _ => rfl
  | n + 1, 0 => rfl
  | n + 1, k + 1 => mlg_rep n k
theorem minit_arg {ad : Nat × Nat → Nat} {xv : Value} (hxv : xvOk xv) : ∀ (as : List MV) (n off k : Nat) (v : MV), mlg (minit as n) k = some v → (off + k, em ad xv v) ∈ lv_args off (as.map (em ad xv))
  | [], n, off, k, v, h => by
    have : mlg (minit [] n) k = none := mlg_rep n k
    rw [this] at h
    cases h
  | .inl x :: r, n, off, 0, v, h => by
    cases h
    exact List.mem_cons_self
  | .inl x :: r, n, off, k + 1, v, h => by
    have := minit_arg (ad := ad) hxv r (n - 1) (off + 1) k v h
    rw [show off + (k + 1) = off + 1 + k by omega]
    exact List.mem_cons_of_mem _ this
  | .inr (.inl x) :: r, n, off, 0, v, h => by
    cases h
    exact List.mem_cons_self
  | .inr (.inl x) :: r, n, off, 1, v, h => by cases h
  | .inr (.inl x) :: r, n, off, k + 2, v, h => by
    have := minit_arg (ad := ad) hxv r (n - 2) (off + 2) k v h
    rw [show off + (k + 2) = off + 2 + k by omega]
    exact List.mem_cons_of_mem _ this
  | .inr (.inr x) :: r, n, off, 0, v, h => by
    cases h
    exact List.mem_cons_self
  | .inr (.inr x) :: r, n, off, k + 1, v, h => by
    have := minit_arg (ad := ad) hxv r (n - 1) (off + 1) k v h
    rw [show off + (k + 1) = off + 1 + k by omega]
    refine List.mem_cons_of_mem _ ?_
    have hc : (em ad xv (.inr (.inr x))).category = 1 := em_cat hxv _
    rw [if_neg (by rw [hc]; decide)]
    exact this
theorem minit_mem : ∀ (as : List MV) (n k : Nat) (v : MV), mlg (minit as n) k = some v → v ∈ as
  | [], n, k, v, h => by
    have : mlg (minit [] n) k = none := mlg_rep n k
    rw [this] at h
    cases h
  | .inl x :: r, n, 0, v, h => by cases h; exact List.mem_cons_self
  | .inl x :: r, n, k + 1, v, h => List.mem_cons_of_mem _ (minit_mem r (n - 1) k v h)
  | .inr (.inl x) :: r, n, 0, v, h => by cases h; exact List.mem_cons_self
  | .inr (.inl x) :: r, n, 1, v, h => by cases h
  | .inr (.inl x) :: r, n, k + 2, v, h => List.mem_cons_of_mem _ (minit_mem r (n - 2) k v h)
  | .inr (.inr x) :: r, n, 0, v, h => by cases h; exact List.mem_cons_self
  | .inr (.inr x) :: r, n, k + 1, v, h => List.mem_cons_of_mem _ (minit_mem r (n - 1) k v h)
theorem minit_len : ∀ (as : List MV) (n : Nat), mwt as ≤ n → (minit as n).length = n
  | [], n, _ => List.length_replicate ..
  | .inl x :: r, n, h => by
    have h : 1 + mwt r ≤ n := h
    show (minit r (n - 1)).length + 1 = n
    rw [minit_len r (n - 1) (by omega)]; omega
  | .inr (.inl x) :: r, n, h => by
    have h : 2 + mwt r ≤ n := h
    show (minit r (n - 2)).length + 1 + 1 = n
    rw [minit_len r (n - 2) (by omega)]; omega
  | .inr (.inr x) :: r, n, h => by
    have h : 1 + mwt r ≤ n := h
    show (minit r (n - 1)).length + 1 = n
    rw [minit_len r (n - 1) (by omega)]; omega
theorem lg_len {ad : Nat × Nat → Nat} {xv : Value} (hxv : xvOk xv) : ∀ as : List MV, (lg_sl (as.map (em ad xv))).length = mwt as
  | [] => rfl
  | v :: r => by
    show (lg_sl (em ad xv v :: r.map (em ad xv))).length = mcat v + mwt r
    unfold lg_sl
    rw [List.flatMap_cons, List.length_append]
    have ih := lg_len (ad := ad) hxv r
    unfold lg_sl at ih
    rw [ih, em_cat hxv]
    rcases v with x | x | x <;> simp [mcat]
theorem LVr_init {ad : Nat × Nat → Nat} {xv : Value} {vok : MV → Prop} (hxv : xvOk xv) {as : List MV} {mx : Nat} (hv : ∀ v ∈ as, vok v) (hw : mwt as ≤ mx) : LVr ad xv vok mx ((lg_sl (as.map (em ad xv)) ++ List.replicate (mx - (lg_sl (as.map (em ad xv))).length) Slot.unset).toArray) (minit as mx) := by
  have h := lv_entry (as.map (em ad xv)) (n := mx) (by rw [lg_len hxv]; exact hw)
  refine ⟨⟨h.1, h.2.1, fun q hq => h.2.2 q ?_⟩, minit_len as mx hw, fun k v hk => hv v (minit_mem as mx k v hk)⟩
  obtain ⟨h1, v, h2, h3⟩ := LVl_mem.mp hq
  have := minit_arg (ad := ad) hxv as mx 0 q.1 v h2
  rw [Nat.zero_add, ← h3] at this
  exact this
theorem narrow_bool {x : Int32} (h : x = 0 ∨ x = 1) : narrow .boolean (.int x) = .int x ∧ narrow .byte (.int x) = .int x := by
  rcases h with rfl | rfl <;> exact ⟨rfl, rfl⟩
set_option maxHeartbeats 4000000 in
theorem sound_call {l : Launch} {S : Type} {ad : Nat × Nat → Nat} {xv : Value} {vok : MV → Prop} {O : MOps S} {D : va_G} {A : Nat → Prop} {rep : S → va_W} {szR : S → Nat → Prop} {tys : List (ClassId × FieldType)} {cT : Nat → ClassId} {xs : Nat → Int32} {L : Nat} (hall : ∀ m, KOK m)
    (hxv : xvOk xv) (hty : tys = [(cT 0, .int), (cT 1, .long), (cT 2, .object "DriftSea$Rule"), (cT 3, .object "DriftSea$State")]) (hO : OLaw O D A rep szR ad xv vok cT tys xs L) (hZ : ZLaw A (ZK A ad xv xs L)) (hSz : SzLaw D A rep szR) :
    ∀ (d a : Nat) (as : List MV) (σ : S) (Q' : S → Option MV → Prop) (y : MethodName) (cb : ByteArray) (mx : Nat) (ret : Option FieldType) (n kd : Nat), kcall O d a as σ Q' → (∀ v ∈ as, vok v) → kinfo a = some (y, cb, mx, ret, n, kd) → CMet l Wd D tys A (ZK A ad xv xs L) rep szR ad xv vok d y cb mx ret (kcost a).1 (kcost a).2 as σ Q' := by
  intro d
  induction d with
  | zero => exact fun a as σ Q' y cb mx ret n kd h => h.elim
  | succ d ih =>
    intro a as σ Q' y cb mx ret n kd h hva hi
    obtain ⟨z1, z2, z3, z4, z5, cd, rt, ws, hp, hrt, hck⟩ := hall a y cb mx ret n kd hi
    have h : (match kprog a with
      | some (cd, mx, rt) => cond (Nat.ble (mwt as) mx) (mrun O (kcall O d) cd rt Q' 0 (minit as mx) [] σ (kcost a)) False
      | none => False) := h
    rw [hp] at h
    have h : cond (Nat.ble (mwt as) mx) (mrun O (kcall O d) cd rt Q' 0 (minit as mx) [] σ (kcost a)) False := h
    cases hw : Nat.ble (mwt as) mx with
    | false => rw [hw] at h; exact h.elim
    | true =>
      rw [hw] at h
      have hw := Nat.le_of_ble_eq_true hw
      have h : mrun O (kcall O d) cd rt Q' 0 (minit as mx) [] σ (kcost a) := h
      refine Met.ofW (cc := cb) (maxL := mx) (ret := ret) z2 rfl ?_
      intro p e s m args below meth c s₁ B hml hv
      obtain ⟨rfl, hF, hH, hsz⟩ := hv
      have hts0 := atoms_spec (ws := Cond.code y cb mx ret :: Wd) B.pre
      have hts : ∀ w ∈ Wd, w.before (as.map (em ad xv)).toArray s = true := fun w hw => hts0 w (List.mem_cons_of_mem _ hw)
      have hown : s.vm.findClass y.cls = some m.cls := findClass_of_methodNamed B.named
      have hnm : meth.name = y.name := (name_of_methodNamed B.named B.method).1
      have hlocks := B.notSynchronized
      have hr := B.returns
      have hb := B.bytes
      have hx := B.exec
      show W p l e (rmD (d + 1) (kcost a).1 (kcost a).2) s m (as.map (em ad xv)).toArray below meth c s.heap [] 0 0 (MQ below (MQc D A rep szR ad xv vok (kcost a).1 Q') (as.map (em ad xv)).toArray s (kcost a).1 (kcost a).2 A) (entryFrame m (as.map (em ad xv)).toArray mx)
      have hcl := sound_closed (p := p) (l := l) (e := e) (R := rmD (d + 1) (kcost a).1 (kcost a).2) (s := s) (m := m) (args := (as.map (em ad xv)).toArray) (below := below) (meth := meth) (c := c) (Q := MQ below (MQc D A rep szR ad xv vok (kcost a).1 Q') (as.map (em ad xv)).toArray s (kcost a).1 (kcost a).2 A) (O := O) (call := kcall O d) (rt := rt) (Post := Q') (cd := cd) (ini := decide (y.name = "<init>")) (d := d) (ws := ws)
        hx hb hml hown hxv hts ⟨Nat.le_refl _, Nat.le_refl _⟩ hF hty hO hZ hSz hall (fun z => by rw [hnm]; exact of_decide_eq_true z) hck (fun a as σ Q' y cb mx ret n kd g1 g2 g3 => ih a as σ Q' y cb mx ret n kd g1 g2 g3)
        (fun σ x H locs cells slots ls pc g1 g2 g3 g4 g5 g6 g7 g8 => by
          have g6 : cells = (kcost a).1 := g6
          subst g6
          refine W.widen (k := (kcost a).1) (n := (kcost a).2) (Nat.le_refl _) g7 ?_
          have hq : ∀ t : State, t.heap = H → s.WarmedH t.vm → MQc D A rep szR ad xv vok (kcost a).1 Q' (as.map (em ad xv)).toArray s (.returned (some (.int x))) t := fun t ht hW => ⟨⟨σ, some (.inl x), rfl, g2, by rw [ht]; exact g3, g5, fun v hv => by cases hv; exact hO.2.2.2.2.2.2.2.2.2.2.2.2.2.2.2.2.1 x⟩, g4.F ht⟩
          rcases g1 with rfl | ⟨rfl, g1⟩ | ⟨rfl, j, hj, rfl⟩
          · match ret, hrt, hr with
            | some .int, _, hr => exact W.iret hx hb hr hq g4.2.2 g8
          · match ret, hrt, hr with
            | some .boolean, _, hr => exact W.zret hx hb hr (narrow_bool g1).1 hq g4.2.2 g8
            | some .byte, _, hr => exact W.zret hx hb hr (narrow_bool g1).2 hq g4.2.2 g8
          · match ret, hrt, hr with
            | some .char, _, hr => exact W.zret hx hb hr (pk_charN hj).1 hq g4.2.2 g8)
        (fun σ x H locs cells slots ls pc g1 g2 g3 g4 g5 g6 g7 g8 => by
          have g6 : cells = (kcost a).1 := g6
          subst g6
          subst g1
          refine W.widen (k := (kcost a).1) (n := (kcost a).2) (Nat.le_refl _) g7 ?_
          match ret, hrt, hr with
          | some .long, _, hr => exact W.lret hx hb hr (fun t ht hW => ⟨⟨σ, some (.inr (.inl x)), rfl, g2, by rw [ht]; exact g3, g5, fun v hv => by cases hv; exact hO.2.2.2.2.2.2.2.2.2.2.2.2.2.2.2.2.2.1 x⟩, g4.F ht⟩) g4.2.2 g8)
        (fun σ H locs cells slots ls pc g1 g2 g3 g4 g5 g6 g7 g8 => by
          have g6 : cells = (kcost a).1 := g6
          subst g6
          subst g1
          refine W.widen (k := (kcost a).1) (n := (kcost a).2) (Nat.le_refl _) g7 ?_
          match ret, hrt, hr with
          | none, _, hr => exact W.vret hx hb hr (fun t ht hW => ⟨⟨σ, none, rfl, g2, by rw [ht]; exact g3, g5, fun v hv => by cases hv⟩, g4.F ht⟩) g4.2.2 g8)
      have hrun := h _ hcl s.heap [] 0 0 _ hH va_S.rf (LVr_init hxv hva hw) (fun v hv => by cases hv) hsz (by show 0 + (kcost a).1 = _; exact Nat.zero_add _) (by show 0 + (kcost a).2 ≤ _; rw [Nat.zero_add]; exact Nat.le_refl _)
      rw [lg_entry_eq]
      exact hrun
