/-! ===== the small machine's calls and returns are the machine's ===== -/
section SNF
variable {p : Program} {l : Launch} {e : Env} {R : Room} {s : State} {m : MethodId} {args : Array Value} {below : List Frame} {meth : Method} {c : Code} {Q : State → Prop} {S : Type} {ad : Nat × Nat → Nat} {xv : Value} {vok : MV → Prop} {nL : Nat} {bs : ByteArray} {pc nx : Nat} {lv : ML} {st : List MV} {σ : S} {b : Nat × Nat} {O : MOps S} {call : MCall S} {rt : Nat} {Post : S → Option MV → Prop} {a k : Nat} {sw : List (Int × Nat)} {D : va_G} {A : Nat → Prop} {rep : S → va_W} {szR : S → Nat → Prop} {tys : List (ClassId × FieldType)} {own : String} {cT : Nat → ClassId} {Z : State → Prop} {Wd : List Cond} {y : MethodName} {cb : ByteArray} {mx na d : Nat} {ret : Option FieldType}
abbrev SZs (szR : S → Nat → Prop) (s : State) : S → Nat → Prop := fun σ cells => szR σ (s.heap.size + cells)
/-- what a callee's soundness says -/
def CMet (l : Launch) (Wd : List Cond) (D : va_G) (tys : List (ClassId × FieldType)) (A : Nat → Prop) (Z : State → Prop) (rep : S → va_W) (szR : S → Nat → Prop) (ad : Nat × Nat → Nat) (xv : Value) (vok : MV → Prop) (d : Nat) (y : MethodName) (cb : ByteArray) (mx : Nat) (ret : Option FieldType) (mc ms : Nat) (as : List MV) (σ : S) (Post : S → Option MV → Prop) : Prop :=
  Met l y (Cond.code y cb mx ret :: Wd) (rmD d mc ms) (va_Pc (as.map (em ad xv)) (MPre D tys A Z rep szR σ)) (MQc D A rep szR ad xv vok mc Post) mc ms A
theorem sk_static {i : Nat} (hx : p.tables.exec = Jvm.exec) (hb : c.code = bs) (hml : c.maxLocals = nL) (hown : s.vm.findClass own = some m.cls) (hxv : xvOk xv) (hts : ∀ w ∈ Wd, w.before args s = true) (hG : ∀ w ∈ Wd, goodWord w = true) (hI : MInfo Wd y cb mx ret na) (hR : d + 1 ≤ R.frames ∧ 64 * (d + 1) ≤ R.locals) (hst : Cond.static y ∈ Wd) (hlk : Lk Wd own i y s)
    (hZ : ZLaw A Z) (hSz : SzLaw D A rep szR) (hF : FX D tys A Z s) (hk : k = na)
    (hcall : ∀ as σ Q', call a as σ Q' → (∀ v ∈ as, vok v) → CMet l Wd D tys A Z rep szR ad xv vok d y cb mx ret 0 0 as σ Q')
    (hdec : Dec bs pc (.invokestatic i) nx) (h : mstep O call rt Post (PY p l e R s m args below meth c Q D A rep (SZs szR s) ad xv vok nL) (.invokestatic i, nx, a + 1, k, sw) lv st σ b) : PY p l e R s m args below meth c Q D A rep (SZs szR s) ad xv vok nL pc lv st σ b := by
  obtain ⟨hd, rfl⟩ := hdec.at 2 rfl
  dsimp only [mstep] at h
  unfold mcall0 at h
  split at h
  · exact h.elim
  · rename_i as rest htk
    obtain ⟨xs, t1, t2, t3⟩ := mtake_spec htk
    rw [List.append_nil] at t2
    subst t2
    subst t3
    cases hc : Nat.ble (mwt rest) 8 with
    | false => rw [hc] at h; exact h.elim
    | true =>
      rw [hc] at h
      have hc := Nat.le_of_ble_eq_true hc
      dsimp only [cond] at h
      split at h
      · obtain ⟨Q', g1, g2⟩ := h
        intro H locs cells slots ls h1 h2 h3 h4 h5 h6 h7
        refine W_sz fun hsz => ?_
        have hva : ∀ v ∈ as, vok v := fun v q => h4 v (List.mem_append_left _ (List.mem_reverse.mpr q))
        have hvr : ∀ v ∈ rest, vok v := fun v q => h4 v (List.mem_append_right _ q)
        have hM := hcall as σ Q' g1 hva
        have hr := sc_static (e := e) (below := below) (meth := meth) (locs := locs) (cells := cells) (slots := slots) (ls := ls) (rest := rest.map (em ad xv)) (Q' := Q') hx hb hml hown hts hG hI hR hst hlk hM ⟨MPre.blind hZ _ _, fun U hU hW => ⟨rfl, MPre.at hZ hSz hF h1 h2 h5 hsz hU hW⟩⟩ (by rw [List.length_map, t1, hk]) h3.1.1 (by rw [em_wt hxv]; exact hc) hd ⟨by omega, by omega⟩
        rw [List.map_append, List.map_reverse]
        exact sc_back hSz h1 h5 hsz hr h2 fun σ' r H1 locs1 k1 k2 k3 k4 k5 => by
          have kk := g2 σ' r k1 H1 locs1 cells slots ls k2 k3 h3 (vok_mpush k5 hvr) k4 h6 h7
          rw [← mpush_em] at kk
          exact kk
      · exact h.elim
theorem sk_virtual {i : Nat} {C : String} (hx : p.tables.exec = Jvm.exec) (hb : c.code = bs) (hml : c.maxLocals = nL) (hown : s.vm.findClass own = some m.cls) (hxv : xvOk xv) (hts : ∀ w ∈ Wd, w.before args s = true) (hG : ∀ w ∈ Wd, goodWord w = true) (hI : MInfo Wd y cb mx ret na) (hR : d + 1 ≤ R.frames ∧ 64 * (d + 1) ≤ R.locals) (hin : Cond.instanceMethod y ∈ Wd) (hse : Cond.selects C y y ∈ Wd) (hlk : Lk Wd own i y s)
    (hZ : ZLaw A Z) (hSz : SzLaw D A rep szR) (hF : FX D tys A Z s) (hk : k = na + 1)
    (hco : ∀ σ r ci q, O.co σ r = some ci → vok (.inr (.inr r)) → q ∈ sw → ci = q.2 → 2 ≤ r.1 ∧ ∀ H locs, HRel D A rep σ H → va_S A s.heap H locs → ∃ cell : Cell, H[ad r]? = some cell ∧ cell.vm.isStatics = false ∧ s.vm.findClass C = some cell.cls)
    (hcall : ∀ as σ Q', call a as σ Q' → (∀ v ∈ as, vok v) → CMet l Wd D tys A Z rep szR ad xv vok d y cb mx ret 0 0 as σ Q')
    (hdec : Dec bs pc (.invokevirtual i) nx) (h : mstep O call rt Post (PY p l e R s m args below meth c Q D A rep (SZs szR s) ad xv vok nL) (.invokevirtual i, nx, a, k, sw) lv st σ b) : PY p l e R s m args below meth c Q D A rep (SZs szR s) ad xv vok nL pc lv st σ b := by
  obtain ⟨hd, rfl⟩ := hdec.at 2 rfl
  dsimp only [mstep] at h
  unfold mcall1 at h
  split at h
  · exact h.elim
  · rename_i as0 rest htk
    obtain ⟨xs, t1, t2, t3⟩ := mtake_spec htk
    rw [List.append_nil] at t2
    subst t2
    subst t3
    cases hc : Nat.ble (mwt rest) 8 with
    | false => rw [hc] at h; exact h.elim
    | true =>
      rw [hc] at h
      have hc := Nat.le_of_ble_eq_true hc
      dsimp only [cond] at h
      split at h
      · rename_i r0 as1 q
        split at h
        · rename_i ci hci
          cases hq : Nat.beq ci q.2 with
          | false => rw [hq] at h; exact h.elim
          | true =>
            rw [hq] at h
            obtain ⟨Q', g1, g2⟩ := h
            intro H locs cells slots ls h1 h2 h3 h4 h5 h6 h7
            refine W_sz fun hsz => ?_
            have hva : ∀ v ∈ (.inr (.inr r0) :: as1 : List MV), vok v := fun v q => h4 v (List.mem_append_left _ (List.mem_reverse.mpr q))
            have hvr : ∀ v ∈ rest, vok v := fun v q => h4 v (List.mem_append_right _ q)
            obtain ⟨w1, w2⟩ := hco σ r0 ci q hci (vok_hd hva) List.mem_cons_self (Nat.eq_of_beq_eq_true hq)
            have hM := hcall (.inr (.inr r0) :: as1) σ Q' g1 hva
            have he : (List.map (em ad xv) (.inr (.inr r0) :: as1)) = .ref (ad r0) :: as1.map (em ad xv) := by
              show er ad xv r0 :: _ = _
              rw [er_ref w1]
            unfold CMet at hM
            rw [he] at hM
            have hr := sc_virtual (e := e) (below := below) (meth := meth) (locs := locs) (cells := cells) (slots := slots) (ls := ls) (rest := rest.map (em ad xv)) hx hb hml hown hts hG hI hR hin hse hlk hM ⟨MPre.blind hZ _ _, w2 H locs h1 h2, fun U hU hW => ⟨rfl, MPre.at hZ hSz hF h1 h2 h5 hsz hU hW⟩⟩ (by rw [List.length_map]; simp at t1; omega) h3.1.1 (by rw [em_wt hxv]; exact hc) hd ⟨by omega, by omega⟩
            have hs0 : ((.inr (.inr r0) :: as1 : List MV).reverse ++ rest).map (em ad xv) = (as1.map (em ad xv)).reverse ++ .ref (ad r0) :: rest.map (em ad xv) := by
              rw [List.map_append, List.map_reverse, he]; simp
            rw [hs0]
            exact sc_back hSz h1 h5 hsz hr h2 fun σ' r H1 locs1 k1 k2 k3 k4 k5 => by
              have kk := g2 σ' r k1 H1 locs1 cells slots ls k2 k3 h3 (vok_mpush k5 hvr) k4 h6 h7
              rw [← mpush_em] at kk
              exact kk
        · exact h.elim
      · exact h.elim
theorem sk_special {i : Nat} (hx : p.tables.exec = Jvm.exec) (hb : c.code = bs) (hml : c.maxLocals = nL) (hown : s.vm.findClass own = some m.cls) (hxv : xvOk xv) (hts : ∀ w ∈ Wd, w.before args s = true) (hG : ∀ w ∈ Wd, goodWord w = true) (hI : MInfo Wd y cb mx none na) (hR : d + 1 ≤ R.frames ∧ 64 * (d + 1) ≤ R.locals) (hin : Cond.instanceMethod y ∈ Wd) (hyn : y.name = "<init>") (hlk : Lk Wd own i y s)
    (hZ : ZLaw A Z) (hSz : SzLaw D A rep szR) (hF : FX D tys A Z s) (hk : k = na + 1)
    (hco : ∀ σ r ci, O.co σ r = some ci → vok (.inr (.inr r)) → 2 ≤ r.1)
    (hcall : ∀ q as σ Q', q ∈ sw → call a as σ Q' → (∀ v ∈ as, vok v) → CMet l Wd D tys A Z rep szR ad xv vok d y cb mx none q.1.toNat q.2 as σ Q')
    (hdec : Dec bs pc (.invokespecial i) nx) (h : mstep O call rt Post (PY p l e R s m args below meth c Q D A rep (SZs szR s) ad xv vok nL) (.invokespecial i, nx, a + 1, k, sw) lv st σ b) : PY p l e R s m args below meth c Q D A rep (SZs szR s) ad xv vok nL pc lv st σ b := by
  obtain ⟨hd, rfl⟩ := hdec.at 2 rfl
  dsimp only [mstep] at h
  unfold mcall2 at h
  split at h
  · exact h.elim
  · rename_i as0 rest htk
    obtain ⟨xs, t1, t2, t3⟩ := mtake_spec htk
    rw [List.append_nil] at t2
    subst t2
    subst t3
    cases hc : Nat.ble (mwt rest) 8 with
    | false => rw [hc] at h; exact h.elim
    | true =>
      rw [hc] at h
      have hc := Nat.le_of_ble_eq_true hc
      dsimp only [cond] at h
      split at h
      · rename_i r0 as1 q
        split at h
        · rename_i ci hci
          cases hq : Nat.ble q.1.toNat b.1 && Nat.ble q.2 b.2 with
          | false => rw [hq] at h; exact h.elim
          | true =>
            rw [hq] at h
            obtain ⟨q1, q2⟩ := Bool.and_eq_true_iff.mp hq
            have q1 := Nat.le_of_ble_eq_true q1
            have q2 := Nat.le_of_ble_eq_true q2
            obtain ⟨Q', g1, g2⟩ := h
            intro H locs cells slots ls h1 h2 h3 h4 h5 h6 h7
            refine W_sz fun hsz => ?_
            have hva : ∀ v ∈ (.inr (.inr r0) :: as1 : List MV), vok v := fun v q => h4 v (List.mem_append_left _ (List.mem_reverse.mpr q))
            have hvr : ∀ v ∈ rest, vok v := fun v q => h4 v (List.mem_append_right _ q)
            have w1 := hco σ r0 ci hci (vok_hd hva)
            have hM := hcall q (.inr (.inr r0) :: as1) σ Q' List.mem_cons_self g1 hva
            have he : (List.map (em ad xv) (.inr (.inr r0) :: as1)) = .ref (ad r0) :: as1.map (em ad xv) := by
              show er ad xv r0 :: _ = _
              rw [er_ref w1]
            unfold CMet at hM
            rw [he] at hM
            have hr := sc_special (e := e) (below := below) (meth := meth) (locs := locs) (cells := cells) (slots := slots) (ls := ls) (rest := rest.map (em ad xv)) hx hb hml hown hts hG hI hR hin hyn hlk hM ⟨MPre.blind hZ _ _, fun U hU hW => ⟨rfl, MPre.at hZ hSz hF h1 h2 h5 hsz hU hW⟩⟩ (by rw [List.length_map]; simp at t1; omega) h3.1.1 (by rw [em_wt hxv]; exact hc) hd ⟨by omega, by omega⟩
            have hs0 : ((.inr (.inr r0) :: as1 : List MV).reverse ++ rest).map (em ad xv) = (as1.map (em ad xv)).reverse ++ .ref (ad r0) :: rest.map (em ad xv) := by
              rw [List.map_append, List.map_reverse, he]; simp
            rw [hs0]
            exact sc_back hSz h1 h5 hsz hr h2 fun σ' r H1 locs1 k1 k2 k3 k4 k5 => by
              have kk := g2 σ' r k1 H1 locs1 (cells + q.1.toNat) (slots + q.2) ls k2 k3 h3 (vok_mpush k5 hvr) k4 (by show _ + (b.1 - q.1.toNat) = _; omega) (by show _ + (b.2 - q.2) ≤ _; omega)
              rw [← mpush_em] at kk
              exact kk
        · exact h.elim
      · exact h.elim
/-- Object's constructor -/
theorem sk_object {i : Nat} (hx : p.tables.exec = Jvm.exec) (hb : c.code = bs) (hml : c.maxLocals = nL) (hown : s.vm.findClass own = some m.cls) (hxv : xvOk xv) (hR : d + 1 ≤ R.frames ∧ 64 * (d + 1) ≤ R.locals)
    (hlink : (Cond.methodLink own i Lib.objectInit).before args s = true) (hinst : (Cond.instanceMethod Lib.objectInit).before args s = true) (hcode : (Cond.code Lib.objectInit ⟨#[0xb1]⟩ 1 none).before args s = true)
    (hdec : Dec bs pc (.invokespecial i) nx) (h : mstep O call rt Post (PY p l e R s m args below meth c Q D A rep (SZs szR s) ad xv vok nL) (.invokespecial i, nx, 0, k, sw) lv st σ b) : PY p l e R s m args below meth c Q D A rep (SZs szR s) ad xv vok nL pc lv st σ b := by
  obtain ⟨hd, rfl⟩ := hdec.at 2 rfl
  dsimp only [mstep] at h
  split at h
  · rename_i r st'
    cases hc : Nat.ble (mwt st') 8 && Nat.ble 2 r.1 with
    | false => rw [hc] at h; exact h.elim
    | true =>
      rw [hc] at h
      obtain ⟨hc, w1⟩ := Bool.and_eq_true_iff.mp hc
      have hc := Nat.le_of_ble_eq_true hc
      have w1 := Nat.le_of_ble_eq_true w1
      intro H locs cells slots ls h1 h2 h3 h4 h5 h6 h7
      show W p l e R s m args below meth c H locs cells slots Q (F0 m pc ls (er ad xv r :: st'.map (em ad xv)))
      rw [er_ref w1]
      refine W.objInit hx hb hown hlink hinst hcode (g := F0 m pc ls (.ref (ad r) :: st'.map (em ad xv))) rfl (h3.1.1.trans hml.symm) rfl hd (by omega) ?_ (h H locs cells slots ls h1 h2 h3 (vok_tl h4) h5 h6 h7)
      show 2 * 0 + _ + 12 ≤ _
      rw [em_wt hxv]
      omega
  · exact h.elim
/-- returns: by what the walk's end asks -/
theorem sk_ireturn (hret : ∀ x H locs cells slots ls, (rt = 1 ∨ (rt = 2 ∧ (x = 0 ∨ x = 1)) ∨ (rt = 3 ∧ ∃ j : Nat, j < 65536 ∧ x = nI j)) → Post σ (some (.inl x)) → HRel D A rep σ H → va_S A s.heap H locs → szR σ (s.heap.size + cells) → cells = R.cells → slots ≤ R.slots → decode bs pc = .ok (.ireturn, 1) → W p l e R s m args below meth c H locs cells slots Q (F0 m pc ls [.int x]))
    (hdec : Dec bs pc .ireturn nx) (h : mstep O call rt Post (PY p l e R s m args below meth c Q D A rep (SZs szR s) ad xv vok nL) (.ireturn, nx, a, k, sw) lv st σ b) : PY p l e R s m args below meth c Q D A rep (SZs szR s) ad xv vok nL pc lv st σ b := by
  obtain ⟨hd, rfl⟩ := hdec.at 0 rfl
  dsimp only [mstep] at h
  split at h
  · rename_i x
    cases hc : Nat.beq b.1 0 with
    | false => rw [hc] at h; exact h.elim
    | true =>
      rw [hc] at h
      have hc := Nat.eq_of_beq_eq_true hc
      intro H locs cells slots ls h1 h2 h3 h4 h5 h6 h7
      exact hret x H locs cells slots ls (Or.inl rfl) h h1 h2 h5 (by omega) (by omega) hd
  · rename_i x
    cases hc : Nat.beq b.1 0 with
    | false => rw [hc] at h; exact h.elim
    | true =>
      rw [hc] at h
      have hc := Nat.eq_of_beq_eq_true hc
      intro H locs cells slots ls h1 h2 h3 h4 h5 h6 h7
      exact hret x H locs cells slots ls (Or.inr (Or.inl ⟨rfl, h.1⟩)) h.2 h1 h2 h5 (by omega) (by omega) hd
  · rename_i x
    cases hc : Nat.beq b.1 0 with
    | false => rw [hc] at h; exact h.elim
    | true =>
      rw [hc] at h
      have hc := Nat.eq_of_beq_eq_true hc
      intro H locs cells slots ls h1 h2 h3 h4 h5 h6 h7
      exact hret x H locs cells slots ls (Or.inr (Or.inr ⟨rfl, h.1⟩)) h.2 h1 h2 h5 (by omega) (by omega) hd
  · exact h.elim
theorem sk_lreturn (hret : ∀ x H locs cells slots ls, rt = 4 → Post σ (some (.inr (.inl x))) → HRel D A rep σ H → va_S A s.heap H locs → szR σ (s.heap.size + cells) → cells = R.cells → slots ≤ R.slots → decode bs pc = .ok (.lreturn, 1) → W p l e R s m args below meth c H locs cells slots Q (F0 m pc ls [.long x]))
    (hdec : Dec bs pc .lreturn nx) (h : mstep O call rt Post (PY p l e R s m args below meth c Q D A rep (SZs szR s) ad xv vok nL) (.lreturn, nx, a, k, sw) lv st σ b) : PY p l e R s m args below meth c Q D A rep (SZs szR s) ad xv vok nL pc lv st σ b := by
  obtain ⟨hd, rfl⟩ := hdec.at 0 rfl
  dsimp only [mstep] at h
  split at h
  · rename_i x
    cases hc : Nat.beq b.1 0 with
    | false => rw [hc] at h; exact h.elim
    | true =>
      rw [hc] at h
      have hc := Nat.eq_of_beq_eq_true hc
      intro H locs cells slots ls h1 h2 h3 h4 h5 h6 h7
      exact hret x H locs cells slots ls rfl h h1 h2 h5 (by omega) (by omega) hd
  · exact h.elim
theorem sk_return (hret : ∀ H locs cells slots ls, rt = 0 → Post σ none → HRel D A rep σ H → va_S A s.heap H locs → szR σ (s.heap.size + cells) → cells = R.cells → slots ≤ R.slots → decode bs pc = .ok (.return_, 1) → W p l e R s m args below meth c H locs cells slots Q (F0 m pc ls []))
    (hdec : Dec bs pc .return_ nx) (h : mstep O call rt Post (PY p l e R s m args below meth c Q D A rep (SZs szR s) ad xv vok nL) (.return_, nx, a, k, sw) lv st σ b) : PY p l e R s m args below meth c Q D A rep (SZs szR s) ad xv vok nL pc lv st σ b := by
  obtain ⟨hd, rfl⟩ := hdec.at 0 rfl
  dsimp only [mstep] at h
  split at h
  · cases hc : Nat.beq b.1 0 with
    | false => rw [hc] at h; exact h.elim
    | true =>
      rw [hc] at h
      have hc := Nat.eq_of_beq_eq_true hc
      intro H locs cells slots ls h1 h2 h3 h4 h5 h6 h7
      exact hret H locs cells slots ls rfl h h1 h2 h5 (by omega) (by omega) hd
  · exact h.elim
end SNF
