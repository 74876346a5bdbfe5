/-! ===== copies, new cells, calls, returns ===== -/
theorem nI_nneg {j : Nat} (h : j < 2 ^ 31) : ¬ nI j < 0 := nI_pos h
section SND
variable {p : Program} {l : Launch} {e : Env} {R : Room} {s : State} {m : MethodId} {args : Array Value} {below : List Frame} {meth : Method} {c : Code} {Q : State → Prop} {S : Type} {ad : Nat × Nat → Nat} {xv : Value} {vok : MV → Prop} {nL : Nat} {bs : ByteArray} {pc nx : Nat} {lv : ML} {st : List MV} {σ : S} {b : Nat × Nat} {O : MOps S} {call : MCall S} {rt : Nat} {Post : S → Option MV → Prop} {a k : Nat} {sw : List (Int × Nat)} {D : va_G} {A : Nat → Prop} {rep : S → va_W} {SZ : S → Nat → Prop} {tys : List (ClassId × FieldType)} {Ts : List Cond} {own : String} {cT : Nat → ClassId}
theorem W_sz {H : Heap} {locs : List Loc} {cells slots : Nat} {g : JFrame} (k : H.size ≤ s.heap.size + cells → W p l e R s m args below meth c H locs cells slots Q g) : W p l e R s m args below meth c H locs cells slots Q g := fun T hT X => k (by rw [← hT]; exact X.heapSize) T hT X
/-- System.arraycopy out of a static int array -/
theorem lq_copyt {H : Heap} {locs : List Loc} {cells slots : Nat} {ls : Array Slot} {rest : List Value} {cl : List vw_C} {ws : va_W} {x1 : Nat} (hexec : p.tables.exec = Jvm.exec) (hb : c.code = bs) (hml : c.maxLocals = ls.size) {index : Nat} (hown : s.vm.findClass own = some m.cls) (hlink : (Cond.methodLink own index arraycopyName).before args s = true) (hnat : (Cond.native arraycopyName).before args s = true) (hstat : (Cond.static arraycopyName).before args s = true) (hini : (Cond.initialized "java/lang/System").before args s = true)
    (hK : va_K D cl tys s) (hP : va_P D cl ws H) (hD : va_D A ws) (hS : va_S A s.heap H locs) {b0 n0 : Nat} {f : Nat → Int32} (hX : va_T .int b0 n0 (fun j => .int (f j)) A s s.heap) (q1 t1 : Nat) {c1 : ClassId} {n1 : Nat} {g : Nat → Int32} (ha1 : ws[q1]? = some (x1, .inl (c1, n1, .inl g))) (ht1 : tys[t1]? = some (c1, .int))
    {sp dp n : Int32} (h1 : ¬ sp < 0) (h2 : ¬ dp < 0) (h3 : ¬ n < 0) (h4 : sp.toNatClampNeg + n.toNatClampNeg ≤ n0) (h5 : dp.toNatClampNeg + n.toNatClampNeg ≤ n1)
    (hframes : 1 ≤ R.frames) (hlocals : (rest.map fun v => v.category).sum + (nativeFrameWords "java/lang/System" "arraycopy" 5 + 11) ≤ R.locals) (hdg : decode bs pc = .ok (.invokestatic index, 3))
    (kk : ∀ (H1 : Heap) (locs1 : List Loc), va_P D cl (ws.set q1 (x1, .inl (c1, n1, .inl (va_cpy f g sp.toNatClampNeg dp.toNatClampNeg n.toNatClampNeg)))) H1 → va_D A (ws.set q1 (x1, .inl (c1, n1, .inl (va_cpy f g sp.toNatClampNeg dp.toNatClampNeg n.toNatClampNeg)))) → va_S A s.heap H1 locs1 → W p l e R s m args below meth c H1 locs1 cells slots Q (F0 m (pc + 3) ls rest)) : W p l e R s m args below meth c H locs cells slots Q (F0 m pc ls (.int n :: .int dp :: .ref x1 :: .int sp :: .ref b0 :: rest)) := by
  have nn : ∀ z : Int32, ¬ z < 0 → z.toInt = (z.toNatClampNeg : Int) := by
    intro z hz
    have hz0 : (0 : Int) ≤ z.toInt := by
      have := Int32.not_lt.mp hz
      simpa using Int32.le_iff_toInt_le.mp this
    show z.toInt = ((z.toInt.toNat : Nat) : Int)
    omega
  intro T hT X
  obtain ⟨scr, hs1, hs2, hs3, hs4, -, hs5, hs7⟩ := hX
  have hc0 : H[b0]? = some scr := by rw [hS.2.1 b0 (Array.getElem?_eq_some_iff.mp hs1).1 hs7]; exact hs1
  have hc1 : H[x1]? = some (vp_cell c1 (n1, .inl g)) := hP q1 _ ha1
  obtain ⟨hs6, k0, hk0, cm0, hkk0⟩ := hs2
  obtain ⟨-, k1, hk1, cm1, hkk1⟩ := (hK.2 t1 _ ht1).1 n1 (fun j => .int (g j))
  obtain ⟨vm', X', step⟩ := X.arraycopy hexec hown hlink hnat hstat hini (src := b0) (dst := x1) (cs := scr) (cd := vp_cell c1 (n1, .inl g)) (srcPos := sp) (destPos := dp) (n := n) (by rw [hT]; exact hc0) (by rw [hT]; exact hc1)
    hs6 (fun _ h => by cases h) hs3 (fun h => by cases h) hk0 hk1 hkk0 hkk1 (by simp [refKind]) h1 h2 h3
    (by rw [nn sp h1, nn n h3]; omega)
    (by rw [nn dp h2, nn n h3]; show ¬ _ > ((arrV c1 n1 (fun j => .int (g j))).slots.size : Int); rw [arrV_size]; omega)
    (fun vm₁ _ i hi => by
      have e : scr.slots.getD (sp.toNatClampNeg + i) .null = .int (f (sp.toNatClampNeg + i)) := by
        rw [Array.getD_eq_getD_getElem?, hs5 _ (by omega)]
        rfl
      refine ⟨?_, ?_⟩
      · rw [e]
        rfl
      · rw [e]
        exact trivial)
    (g := F0 m pc ls (.int n :: .int dp :: .ref x1 :: .int sp :: .ref b0 :: rest)) rfl (by rw [hml]) (rest := rest) rfl (by rw [hb]; exact hdg) hframes (by show 2 * 0 + _ + _ ≤ _; omega)
  have e1 : copied scr (vp_cell c1 (n1, .inl g)) sp dp n = vp_cell c1 (n1, .inl (va_cpy f g sp.toNatClampNeg dp.toNatClampNeg n.toNatClampNeg)) := va_copiedX (fun z => .int z) scr c1 f g hs5 h4
  rw [e1] at X' step
  have hl : x1 < H.size := (Array.getElem?_eq_some_iff.mp hc1).1
  generalize hz : va_cpy f g sp.toNatClampNeg dp.toNatClampNeg n.toNatClampNeg = z at *
  have hheap : ((T.setVm vm').setCell x1 (vp_cell c1 (n1, .inl z))).heap = H.setIfInBounds x1 (vp_cell c1 (n1, .inl z)) := by rw [← hT]; rfl
  have oq : ∀ q : Nat, q ≠ x1 → (H.setIfInBounds x1 (vp_cell c1 (n1, .inl z)))[q]? = H[q]? := fun q hq => by simp [Array.getElem?_setIfInBounds, Ne.symm hq]
  obtain ⟨t, a1, b1⟩ := kk _ _ (hP.set hD ha1 (show (H.setIfInBounds x1 _)[x1]? = some _ by simp [Array.getElem?_setIfInBounds, hl]) oq) (hD.set ha1) ⟨by simp; exact hS.1, fun q g1 g2 => by
      rw [oq q (fun e => g2 (by rw [e]; exact hD.2 q1 _ ha1))]
      exact hS.2.1 q g1 g2, fun q hq => by
      rcases List.mem_append.mp hq with h | h
      · exact hS.2.2 q h
      · obtain ⟨z, -, hz⟩ := List.mem_map.mp h
        rw [← hz]
        exact hD.2 q1 _ ha1⟩ _ hheap X'
  exact ⟨t, step t a1, b1⟩
theorem sh_arraycopy {i : Nat} (hx : p.tables.exec = Jvm.exec) (hb : c.code = bs) (hml : c.maxLocals = nL) (hxv : xvOk xv) (hK : va_K D vwCl tys s) (hty : tys[0]? = some (cT 0, .int)) (hown : s.vm.findClass own = some m.cls)
    (hlink : (Cond.methodLink own i arraycopyName).before args s = true) (hnat : (Cond.native arraycopyName).before args s = true) (hstat : (Cond.static arraycopyName).before args s = true) (hini : (Cond.initialized "java/lang/System").before args s = true) (hfr : 1 ≤ R.frames) (hlo : 40 ≤ R.locals)
    (hlai : ∀ σ r n f, vok (.inr (.inr r)) → O.ai σ r = some (n, f) → 2 ≤ r.1 ∧ n < 2 ^ 31 ∧ ((∃ q0 : Nat, cellAt rep σ q0 (ad r) (.inl (cT 0, n, .inl f))) ∨ va_T .int (ad r) n (fun j => .int (f j)) A s s.heap))
    (hlwi : ∀ σ r n f f' σ', vok (.inr (.inr r)) → O.ai σ r = some (n, f) → O.wi σ r f' = some σ' → 2 ≤ r.1 ∧ n < 2 ^ 31 ∧ (∀ n, SZ σ n → SZ σ' n) ∧ ∃ q0 : Nat, cellAt rep σ q0 (ad r) (.inl (cT 0, n, .inl f)) ∧ rep σ' = (rep σ).set q0 (ad r, .inl (cT 0, n, .inl f')))
    (hdec : Dec bs pc (.invokestatic i) nx) (h : mstep O call rt Post (PY p l e R s m args below meth c Q D A rep SZ ad xv vok nL) (.invokestatic i, nx, 0, 5, sw) lv st σ b) : PY p l e R s m args below meth c Q D A rep SZ ad xv vok nL pc lv st σ b := by
  obtain ⟨hd, rfl⟩ := hdec.at 2 rfl
  dsimp only [mstep] at h
  split at h
  · split at h
    · rename_i n dp r1 sp r0 st'
      split at h
      · rename_i n0 f0 n1 f1 hv0 hv1
        obtain ⟨n', dp', sp', rfl, rfl, rfl, g1, g2, g3, hk⟩ := h
        split at hk
        · rename_i σ' hv'
          intro H locs cells slots ls h1 h2 h3 h4 h5 h6 h7
          obtain ⟨w1, w2, w3⟩ := hlai σ r0 n0 f0 (vok_hd (vok_tl (vok_tl (vok_tl (vok_tl h4))))) hv0
          obtain ⟨y1, y2, y3, q1, y4, y5⟩ := hlwi σ r1 n1 f1 _ σ' (vok_hd (vok_tl (vok_tl h4))) hv1 hv'
          show W p l e R s m args below meth c H locs cells slots Q (F0 m pc ls (.int (nI n') :: .int (nI dp') :: er ad xv r1 :: .int (nI sp') :: er ad xv r0 :: st'.map (em ad xv)))
          rw [er_ref w1, er_ref y1]
          have e1 : (nI n').toNatClampNeg = n' := nI_clamp (by omega)
          have e2 : (nI dp').toNatClampNeg = dp' := nI_clamp (by omega)
          have e3 : (nI sp').toNatClampNeg = sp' := nI_clamp (by omega)
          have hloc : ((st'.map (em ad xv)).map fun v => v.category).sum + (nativeFrameWords "java/lang/System" "arraycopy" 5 + 11) ≤ R.locals := by
            rw [em_wt hxv]
            have := Nat.le_of_ble_eq_true g3
            have : nativeFrameWords "java/lang/System" "arraycopy" 5 + 11 ≤ 32 := by decide
            omega
          have kk : ∀ (H1 : Heap) (locs1 : List Loc), va_P D vwCl ((rep σ).set q1 (ad r1, .inl (cT 0, n1, .inl (va_cpy f0 f1 (nI sp').toNatClampNeg (nI dp').toNatClampNeg (nI n').toNatClampNeg)))) H1 → va_D A ((rep σ).set q1 (ad r1, .inl (cT 0, n1, .inl (va_cpy f0 f1 (nI sp').toNatClampNeg (nI dp').toNatClampNeg (nI n').toNatClampNeg)))) → va_S A s.heap H1 locs1 → W p l e R s m args below meth c H1 locs1 cells slots Q (F0 m (pc + 3) ls (st'.map (em ad xv))) := fun H1 locs1 k1 k2 k3 => by
            rw [e1, e2, e3, ← y5] at k1 k2
            exact hk H1 locs1 cells slots ls ⟨k1, k2⟩ k3 h3 (vok_tl (vok_tl (vok_tl (vok_tl (vok_tl h4))))) (y3 _ h5) h6 h7
          rcases w3 with ⟨q0, w3⟩ | w3
          · exact va_copyi hx hb (hml.trans h3.1.1.symm) hown hlink hnat hstat hini hK h1.1 h1.2 h2 q0 q1 0 0 w3 y4 hty hty rfl (nI_nneg (by omega)) (nI_nneg (by omega)) (nI_nneg (by omega)) (by rw [e1, e3]; exact g1) (by rw [e1, e2]; exact g2) (fun _ _ => rfl) hfr hloc hd kk
          · exact lq_copyt hx hb (hml.trans h3.1.1.symm) hown hlink hnat hstat hini hK h1.1 h1.2 h2 w3 q1 0 y4 hty (nI_nneg (by omega)) (nI_nneg (by omega)) (nI_nneg (by omega)) (by rw [e1, e3]; exact g1) (by rw [e1, e2]; exact g2) hfr hloc hd kk
        · exact hk.elim
      · exact h.elim
    · exact h.elim
  all_goals first | exact h.elim | contradiction | (rename_i hh; exact absurd rfl hh)
theorem sh_m101 {i : Nat} (hx : p.tables.exec = Jvm.exec) (hb : c.code = bs) (hml : c.maxLocals = nL) (hxv : xvOk xv) (hvi : ∀ x, vok (.inl x)) (hvl : ∀ x, vok (.inr (.inl x))) (hown : s.vm.findClass own = some m.cls)
    (hlink : (Cond.methodLink own i Lib.Math.abs.name).before args s = true) (hstat : (Cond.static Lib.Math.abs.name).before args s = true) (hini : (Cond.initialized "java/lang/Math").before args s = true) (hcode : (Cond.code Lib.Math.abs.name Lib.Math.abs.code 1 (some .int)).before args s = true) (hfr : 1 ≤ R.frames) (hlo : 40 ≤ R.locals)
    (hdec : Dec bs pc (.invokestatic i) nx) (h : mstep O call rt Post (PY p l e R s m args below meth c Q D A rep SZ ad xv vok nL) (.invokestatic i, nx, 0, 101, sw) lv st σ b) : PY p l e R s m args below meth c Q D A rep SZ ad xv vok nL pc lv st σ b := by
  obtain ⟨hd, rfl⟩ := hdec.at 2 rfl
  match st, h with
  | [], h => simp [mstep, mmath] at h
  | .inr (.inl _) :: _, h => simp [mstep, mmath] at h
  | .inr (.inr _) :: _, h => simp [mstep, mmath] at h
  | .inl x :: st', h =>
    have h : cond (Nat.ble (mwt (.inl x :: st')) 12) (PY p l e R s m args below meth c Q D A rep SZ ad xv vok nL (pc + 3) lv (.inl (if 0 ≤ x then x else 0 - x) :: st') σ b) False := h
    cases hc : Nat.ble (mwt (.inl x :: st')) 12 with
    | false => rw [hc] at h; exact h.elim
    | true =>
      rw [hc] at h
      have hc := Nat.le_of_ble_eq_true hc
      have hc : 1 + mwt st' ≤ 12 := hc
      intro H locs cells slots ls h1 h2 h3 h4 h5 h6 h7
      have hw : ((st'.map (em ad xv)).map fun v => v.category).sum + 15 ≤ R.locals := by
        rw [em_wt hxv]; omega
      exact va_mabs hx hb (hml.trans h3.1.1.symm) hown hlink hstat hini hcode hfr (by omega) (by omega) (by omega) hd (h H locs cells slots ls h1 h2 h3 (vok_cons (hvi _) (vok_tl h4)) h5 h6 h7)
theorem sh_m102 {i : Nat} (hx : p.tables.exec = Jvm.exec) (hb : c.code = bs) (hml : c.maxLocals = nL) (hxv : xvOk xv) (hvi : ∀ x, vok (.inl x)) (hvl : ∀ x, vok (.inr (.inl x))) (hown : s.vm.findClass own = some m.cls)
    (hlink : (Cond.methodLink own i Lib.Math.max.name).before args s = true) (hstat : (Cond.static Lib.Math.max.name).before args s = true) (hini : (Cond.initialized "java/lang/Math").before args s = true) (hcode : (Cond.code Lib.Math.max.name Lib.Math.max.code 2 (some .int)).before args s = true) (hfr : 1 ≤ R.frames) (hlo : 40 ≤ R.locals)
    (hdec : Dec bs pc (.invokestatic i) nx) (h : mstep O call rt Post (PY p l e R s m args below meth c Q D A rep SZ ad xv vok nL) (.invokestatic i, nx, 0, 102, sw) lv st σ b) : PY p l e R s m args below meth c Q D A rep SZ ad xv vok nL pc lv st σ b := by
  obtain ⟨hd, rfl⟩ := hdec.at 2 rfl
  match st, h with
  | [], h => simp [mstep, mmath] at h
  | .inr (.inl _) :: _, h => simp [mstep, mmath] at h
  | .inr (.inr _) :: _, h => simp [mstep, mmath] at h
  | [.inl _], h => simp [mstep, mmath] at h
  | .inl _ :: .inr (.inl _) :: _, h => simp [mstep, mmath] at h
  | .inl _ :: .inr (.inr _) :: _, h => simp [mstep, mmath] at h
  | .inl y :: .inl x :: st', h =>
    have h : cond (Nat.ble (mwt (.inl y :: .inl x :: st')) 12) (PY p l e R s m args below meth c Q D A rep SZ ad xv vok nL (pc + 3) lv (.inl (if x < y then y else x) :: st') σ b) False := h
    cases hc : Nat.ble (mwt (.inl y :: .inl x :: st')) 12 with
    | false => rw [hc] at h; exact h.elim
    | true =>
      rw [hc] at h
      have hc := Nat.le_of_ble_eq_true hc
      have hc : 1 + (1 + mwt st') ≤ 12 := hc
      intro H locs cells slots ls h1 h2 h3 h4 h5 h6 h7
      have hw : ((st'.map (em ad xv)).map fun v => v.category).sum + 15 ≤ R.locals := by
        rw [em_wt hxv]; omega
      exact va_mmax hx hb (hml.trans h3.1.1.symm) hown hlink hstat hini hcode hfr (by omega) (by omega) (by omega) hd (h H locs cells slots ls h1 h2 h3 (vok_cons (hvi _) (vok_tl (vok_tl h4))) h5 h6 h7)
theorem sh_m103 {i : Nat} (hx : p.tables.exec = Jvm.exec) (hb : c.code = bs) (hml : c.maxLocals = nL) (hxv : xvOk xv) (hvi : ∀ x, vok (.inl x)) (hvl : ∀ x, vok (.inr (.inl x))) (hown : s.vm.findClass own = some m.cls)
    (hlink : (Cond.methodLink own i Lib.Math.min.name).before args s = true) (hstat : (Cond.static Lib.Math.min.name).before args s = true) (hini : (Cond.initialized "java/lang/Math").before args s = true) (hcode : (Cond.code Lib.Math.min.name Lib.Math.min.code 2 (some .int)).before args s = true) (hfr : 1 ≤ R.frames) (hlo : 40 ≤ R.locals)
    (hdec : Dec bs pc (.invokestatic i) nx) (h : mstep O call rt Post (PY p l e R s m args below meth c Q D A rep SZ ad xv vok nL) (.invokestatic i, nx, 0, 103, sw) lv st σ b) : PY p l e R s m args below meth c Q D A rep SZ ad xv vok nL pc lv st σ b := by
  obtain ⟨hd, rfl⟩ := hdec.at 2 rfl
  match st, h with
  | [], h => simp [mstep, mmath] at h
  | .inr (.inl _) :: _, h => simp [mstep, mmath] at h
  | .inr (.inr _) :: _, h => simp [mstep, mmath] at h
  | [.inl _], h => simp [mstep, mmath] at h
  | .inl _ :: .inr (.inl _) :: _, h => simp [mstep, mmath] at h
  | .inl _ :: .inr (.inr _) :: _, h => simp [mstep, mmath] at h
  | .inl y :: .inl x :: st', h =>
    have h : cond (Nat.ble (mwt (.inl y :: .inl x :: st')) 12) (PY p l e R s m args below meth c Q D A rep SZ ad xv vok nL (pc + 3) lv (.inl (if y < x then y else x) :: st') σ b) False := h
    cases hc : Nat.ble (mwt (.inl y :: .inl x :: st')) 12 with
    | false => rw [hc] at h; exact h.elim
    | true =>
      rw [hc] at h
      have hc := Nat.le_of_ble_eq_true hc
      have hc : 1 + (1 + mwt st') ≤ 12 := hc
      intro H locs cells slots ls h1 h2 h3 h4 h5 h6 h7
      have hw : ((st'.map (em ad xv)).map fun v => v.category).sum + 15 ≤ R.locals := by
        rw [em_wt hxv]; omega
      exact va_mmin hx hb (hml.trans h3.1.1.symm) hown hlink hstat hini hcode hfr (by omega) (by omega) (by omega) hd (h H locs cells slots ls h1 h2 h3 (vok_cons (hvi _) (vok_tl (vok_tl h4))) h5 h6 h7)
theorem sh_m104 {i : Nat} (hx : p.tables.exec = Jvm.exec) (hb : c.code = bs) (hml : c.maxLocals = nL) (hxv : xvOk xv) (hvi : ∀ x, vok (.inl x)) (hvl : ∀ x, vok (.inr (.inl x))) (hown : s.vm.findClass own = some m.cls)
    (hlink : (Cond.methodLink own i Lib.MathLoose.max_long.x).before args s = true) (hstat : (Cond.static Lib.MathLoose.max_long.x).before args s = true) (hini : (Cond.initialized "java/lang/Math").before args s = true) (hcode : (Cond.code Lib.MathLoose.max_long.x Lib.MathLoose.max_long.code 4 (some .long)).before args s = true) (hfr : 1 ≤ R.frames) (hlo : 40 ≤ R.locals)
    (hdec : Dec bs pc (.invokestatic i) nx) (h : mstep O call rt Post (PY p l e R s m args below meth c Q D A rep SZ ad xv vok nL) (.invokestatic i, nx, 0, 104, sw) lv st σ b) : PY p l e R s m args below meth c Q D A rep SZ ad xv vok nL pc lv st σ b := by
  obtain ⟨hd, rfl⟩ := hdec.at 2 rfl
  match st, h with
  | [], h => simp [mstep, mmath] at h
  | .inl _ :: _, h => simp [mstep, mmath] at h
  | .inr (.inr _) :: _, h => simp [mstep, mmath] at h
  | [.inr (.inl _)], h => simp [mstep, mmath] at h
  | .inr (.inl _) :: .inl _ :: _, h => simp [mstep, mmath] at h
  | .inr (.inl _) :: .inr (.inr _) :: _, h => simp [mstep, mmath] at h
  | .inr (.inl y) :: .inr (.inl x) :: st', h =>
    have h : cond (Nat.ble (mwt (.inr (.inl y) :: .inr (.inl x) :: st')) 12) (PY p l e R s m args below meth c Q D A rep SZ ad xv vok nL (pc + 3) lv (.inr (.inl (if y < x then x else y)) :: st') σ b) False := h
    cases hc : Nat.ble (mwt (.inr (.inl y) :: .inr (.inl x) :: st')) 12 with
    | false => rw [hc] at h; exact h.elim
    | true =>
      rw [hc] at h
      have hc := Nat.le_of_ble_eq_true hc
      have hc : 2 + (2 + mwt st') ≤ 12 := hc
      intro H locs cells slots ls h1 h2 h3 h4 h5 h6 h7
      have hw : ((st'.map (em ad xv)).map fun v => v.category).sum + 15 ≤ R.locals := by
        rw [em_wt hxv]; omega
      exact va_mmax_long hx hb (hml.trans h3.1.1.symm) hown hlink hstat hini hcode hfr (by omega) (by omega) (by omega) hd (h H locs cells slots ls h1 h2 h3 (vok_cons (hvl _) (vok_tl (vok_tl h4))) h5 h6 h7)
theorem sh_m105 {i : Nat} (hx : p.tables.exec = Jvm.exec) (hb : c.code = bs) (hml : c.maxLocals = nL) (hxv : xvOk xv) (hvi : ∀ x, vok (.inl x)) (hvl : ∀ x, vok (.inr (.inl x))) (hown : s.vm.findClass own = some m.cls)
    (hlink : (Cond.methodLink own i Lib.MathLoose.min_long.x).before args s = true) (hstat : (Cond.static Lib.MathLoose.min_long.x).before args s = true) (hini : (Cond.initialized "java/lang/Math").before args s = true) (hcode : (Cond.code Lib.MathLoose.min_long.x Lib.MathLoose.min_long.code 4 (some .long)).before args s = true) (hfr : 1 ≤ R.frames) (hlo : 40 ≤ R.locals)
    (hdec : Dec bs pc (.invokestatic i) nx) (h : mstep O call rt Post (PY p l e R s m args below meth c Q D A rep SZ ad xv vok nL) (.invokestatic i, nx, 0, 105, sw) lv st σ b) : PY p l e R s m args below meth c Q D A rep SZ ad xv vok nL pc lv st σ b := by
  obtain ⟨hd, rfl⟩ := hdec.at 2 rfl
  match st, h with
  | [], h => simp [mstep, mmath] at h
  | .inl _ :: _, h => simp [mstep, mmath] at h
  | .inr (.inr _) :: _, h => simp [mstep, mmath] at h
  | [.inr (.inl _)], h => simp [mstep, mmath] at h
  | .inr (.inl _) :: .inl _ :: _, h => simp [mstep, mmath] at h
  | .inr (.inl _) :: .inr (.inr _) :: _, h => simp [mstep, mmath] at h
  | .inr (.inl y) :: .inr (.inl x) :: st', h =>
    have h : cond (Nat.ble (mwt (.inr (.inl y) :: .inr (.inl x) :: st')) 12) (PY p l e R s m args below meth c Q D A rep SZ ad xv vok nL (pc + 3) lv (.inr (.inl (if y < x then y else x)) :: st') σ b) False := h
    cases hc : Nat.ble (mwt (.inr (.inl y) :: .inr (.inl x) :: st')) 12 with
    | false => rw [hc] at h; exact h.elim
    | true =>
      rw [hc] at h
      have hc := Nat.le_of_ble_eq_true hc
      have hc : 2 + (2 + mwt st') ≤ 12 := hc
      intro H locs cells slots ls h1 h2 h3 h4 h5 h6 h7
      have hw : ((st'.map (em ad xv)).map fun v => v.category).sum + 15 ≤ R.locals := by
        rw [em_wt hxv]; omega
      exact va_mmin_long hx hb (hml.trans h3.1.1.symm) hown hlink hstat hini hcode hfr (by omega) (by omega) (by omega) hd (h H locs cells slots ls h1 h2 h3 (vok_cons (hvl _) (vok_tl (vok_tl h4))) h5 h6 h7)
/-- new cells: the next address is known by the cells that were made -/
theorem sh_new {i : Nat} {C : String} {T : u_T} {N : Nat} (hx : p.tables.exec = Jvm.exec) (hb : c.code = bs) (hts : ∀ w ∈ Ts, w.before args s = true) (hown : s.vm.findClass own = some m.cls) (hK : va_K D vwCl tys s) (hA : ∀ q, s.heap.size ≤ q → A q)
    (hC : vwCl[a]? = some (C, T, N)) (hin : ∀ w ∈ u_ws C T N, w ∈ Ts) (ty0 : Nat → FieldType) (hty : ∀ k, k < N → parseFieldDescriptor (T k).2.2.1 = some (ty0 k)) (hcl : Cond.classLink own i C ∈ Ts) (hinst : Cond.instantiable C N ∈ Ts) (hini : Cond.initialized C ∈ Ts)
    (hlaw : ∀ σ r n σ', O.nw σ a = some (r, n, σ') → vok (.inr (.inr r)) ∧ 2 ≤ r.1 ∧ n = N ∧ ∃ fs : List Value, (∀ j, j < N → defaultValue (ty0 j) = vp_V fs j) ∧ rep σ' = rep σ ++ [(ad r, .inr (a, fs))] ∧ ∀ cells, SZ σ cells → SZ σ' (cells + 1) ∧ ∀ (q : Nat) (E : va_E) (H1 : Heap), va_P D vwCl (rep σ ++ [(q, E)]) H1 → va_D A (rep σ ++ [(q, E)]) → H1.size ≤ s.heap.size + (cells + 1) → q = ad r)
    (hdec : Dec bs pc (.new i) nx) (h : mstep O call rt Post (PY p l e R s m args below meth c Q D A rep SZ ad xv vok nL) (.new i, nx, a, k, sw) lv st σ b) : PY p l e R s m args below meth c Q D A rep SZ ad xv vok nL pc lv st σ b := by
  obtain ⟨hd, rfl⟩ := hdec.at 2 rfl
  dsimp only [mstep] at h
  split at h
  · rename_i r n σ' hv
    cases hc : Nat.ble 1 b.1 && Nat.ble n b.2 with
    | false => rw [hc] at h; exact h.elim
    | true =>
      rw [hc] at h
      obtain ⟨c1, c2⟩ := Bool.and_eq_true_iff.mp hc
      have c1 := Nat.le_of_ble_eq_true c1
      have c2 := Nat.le_of_ble_eq_true c2
      intro H locs cells slots ls h1 h2 h3 h4 h5 h6 h7
      obtain ⟨g1, g2, rfl, fs, g3, g4, g5⟩ := hlaw σ r n σ' hv
      obtain ⟨g6, g7⟩ := g5 cells h5
      refine va_new hx hb hts hin ty0 hty hown (hts _ hcl) (hts _ hinst) (hts _ hini) hK h1.1 h1.2 h2 hA hC g3 (by omega) (by omega) hd fun q H1 k1 k2 k3 => ?_
      refine W_sz fun k4 => ?_
      have hq := g7 q _ H1 k1 k2 k4
      subst hq
      rw [← g4] at k1 k2
      have kk := h H1 locs (cells + 1) (slots + n) ls ⟨k1, k2⟩ k3 h3 (vok_cons g1 h4) g6 (by show cells + 1 + (b.1 - 1) = _; omega) (by show slots + n + (b.2 - n) ≤ _; omega)
      have he : er ad xv r = .ref (ad r) := er_ref g2
      have kk : W p l e R s m args below meth c H1 locs (cells + 1) (slots + n) Q (F0 m (pc + 3) ls (er ad xv r :: st.map (em ad xv))) := kk
      rw [he] at kk
      exact kk
  · exact h.elim
theorem sh_newarray {at' : ArrayType} {ty : FieldType} (hx : p.tables.exec = Jvm.exec) (hb : c.code = bs) (hK : va_K D vwCl tys s) (hA : ∀ q, s.heap.size ≤ q → A q) (harr : (Cond.arrayClass (newarray.typeOf at')).before args s = true) (hty : newarray.typeOf at' = ty) (htt : tys[a]? = some (cT a, ty)) (hbytes : componentBytes ty ≤ 8) (hno : ∀ C, ty ≠ .object C)
    (hlaw : ∀ σ n r σ', O.na σ a n = some (r, σ') → vok (.inr (.inr r)) ∧ 2 ≤ r.1 ∧ ∃ x : vp_A, (∀ cA : ClassId, vp_cell cA x = arrV cA n (fun _ => defaultValue ty)) ∧ rep σ' = rep σ ++ [(ad r, .inl (cT a, x))] ∧ ∀ cells, SZ σ cells → SZ σ' (cells + 1) ∧ ∀ (q : Nat) (E : va_E) (H1 : Heap), va_P D vwCl (rep σ ++ [(q, E)]) H1 → va_D A (rep σ ++ [(q, E)]) → H1.size ≤ s.heap.size + (cells + 1) → q = ad r)
    (hdec : Dec bs pc (.newarray at') nx) (h : mstep O call rt Post (PY p l e R s m args below meth c Q D A rep SZ ad xv vok nL) (.newarray at', nx, a, k, sw) lv st σ b) : PY p l e R s m args below meth c Q D A rep SZ ad xv vok nL pc lv st σ b := by
  obtain ⟨hd, rfl⟩ := hdec.at 1 rfl
  dsimp only [mstep] at h
  split at h
  · rename_i i st'
    obtain ⟨n, hn, rfl, h⟩ := h
    split at h
    · rename_i r σ' hv
      cases hc : Nat.ble 1 b.1 && Nat.ble n b.2 with
      | false => rw [hc] at h; exact h.elim
      | true =>
        rw [hc] at h
        obtain ⟨c1, c2⟩ := Bool.and_eq_true_iff.mp hc
        have c1 := Nat.le_of_ble_eq_true c1
        have c2 := Nat.le_of_ble_eq_true c2
        intro H locs cells slots ls h1 h2 h3 h4 h5 h6 h7
        obtain ⟨g1, g2, x, g3, g4, g5⟩ := hlaw σ n r σ' hv
        obtain ⟨g6, g7⟩ := g5 cells h5
        refine va_newa hx hb harr hty hK h1.1 h1.2 h2 hA (N' := n) g3 (nI_nneg (by omega)) (nI_clamp (by omega)) (Nat.le_trans (Nat.mul_le_mul (Nat.le_of_lt hn) hbytes) (by decide)) (by omega) (by omega) hd fun q cA H1 k0 k1 k2 k3 => ?_
        refine W_sz fun k4 => ?_
        have hq := g7 q _ H1 k1 k2 k4
        subst hq
        have hcA : cA = cT a := by
          have z1 := (k0.2 tys.length (cA, ty) (by simp)).2
          have z2 := (hK.2 a _ htt).2
          have hn' := hno
          revert z1 z2
          cases ty with
          | object C => exact absurd rfl (hn' C)
          | _ => intro z1 z2; exact Option.some.inj (z1.symm.trans z2)
        subst hcA
        rw [← g4] at k1 k2
        have kk : W p l e R s m args below meth c H1 locs (cells + 1) (slots + n) Q (F0 m (pc + 2) ls (er ad xv r :: st'.map (em ad xv))) := h H1 locs (cells + 1) (slots + n) ls ⟨k1, k2⟩ k3 h3 (vok_cons g1 (vok_tl h4)) g6 (by show cells + 1 + (b.1 - 1) = _; omega) (by show slots + n + (b.2 - n) ≤ _; omega)
        rw [er_ref g2] at kk
        exact kk
    · exact h.elim
  · exact h.elim
theorem sh_anewarray {i : Nat} {C : String} (hx : p.tables.exec = Jvm.exec) (hb : c.code = bs) (hts : ∀ w ∈ Ts, w.before args s = true) (hown : s.vm.findClass own = some m.cls) (hK : va_K D vwCl tys s) (hA : ∀ q, s.heap.size ≤ q → A q) (hcl : Cond.classLink own i C ∈ Ts) (hover : va_AO C s) (htt : tys[a]? = some (cT a, .object C))
    (hlaw : ∀ σ n r σ', O.na σ a n = some (r, σ') → vok (.inr (.inr r)) ∧ 2 ≤ r.1 ∧ rep σ' = rep σ ++ [(ad r, .inl (cT a, n, .inr (.inr (.inr (.inr (fun _ => none))))))] ∧ ∀ cells, SZ σ cells → SZ σ' (cells + 1) ∧ ∀ (q : Nat) (E : va_E) (H1 : Heap), va_P D vwCl (rep σ ++ [(q, E)]) H1 → va_D A (rep σ ++ [(q, E)]) → H1.size ≤ s.heap.size + (cells + 1) → q = ad r)
    (hdec : Dec bs pc (.anewarray i) nx) (h : mstep O call rt Post (PY p l e R s m args below meth c Q D A rep SZ ad xv vok nL) (.anewarray i, nx, a, k, sw) lv st σ b) : PY p l e R s m args below meth c Q D A rep SZ ad xv vok nL pc lv st σ b := by
  obtain ⟨hd, rfl⟩ := hdec.at 2 rfl
  dsimp only [mstep] at h
  split at h
  · rename_i i st'
    obtain ⟨n, hn, rfl, h⟩ := h
    split at h
    · rename_i r σ' hv
      cases hc : Nat.ble 1 b.1 && Nat.ble n b.2 with
      | false => rw [hc] at h; exact h.elim
      | true =>
        rw [hc] at h
        obtain ⟨c1, c2⟩ := Bool.and_eq_true_iff.mp hc
        have c1 := Nat.le_of_ble_eq_true c1
        have c2 := Nat.le_of_ble_eq_true c2
        intro H locs cells slots ls h1 h2 h3 h4 h5 h6 h7
        obtain ⟨g1, g2, g4, g5⟩ := hlaw σ n r σ' hv
        obtain ⟨g6, g7⟩ := g5 cells h5
        refine va_newq hx hb hown (hts _ hcl) hover hK h1.1 h1.2 h2 hA (N' := n) (nI_nneg (by omega)) (nI_clamp (by omega)) (by omega) (by omega) (by omega) hd fun q cA H1 k0 k1 k2 k3 => ?_
        refine W_sz fun k4 => ?_
        have hq := g7 q _ H1 k1 k2 k4
        subst hq
        have hcA : cA = cT a := by
          obtain ⟨kA, comp, -, -, -, z1⟩ := (k0.2 tys.length (cA, .object C) (by simp)).2
          obtain ⟨kA', comp', -, -, -, z2⟩ := (hK.2 a _ htt).2
          exact Option.some.inj (z1.symm.trans z2)
        subst hcA
        rw [← g4] at k1 k2
        have kk : W p l e R s m args below meth c H1 locs (cells + 1) (slots + n) Q (F0 m (pc + 3) ls (er ad xv r :: st'.map (em ad xv))) := h H1 locs (cells + 1) (slots + n) ls ⟨k1, k2⟩ k3 h3 (vok_cons g1 (vok_tl h4)) g6 (by show cells + 1 + (b.1 - 1) = _; omega) (by show slots + n + (b.2 - n) ≤ _; omega)
        rw [er_ref g2] at kk
        exact kk
    · exact h.elim
  · exact h.elim
end SND
