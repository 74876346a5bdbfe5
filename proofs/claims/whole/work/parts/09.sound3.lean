/-! ===== the steps that touch the heap ===== -/
/-- the cells that a heap of the small machine stands for are there -/
def HRel {S : Type} (D : va_G) (A : Nat → Prop) (rep : S → va_W) (σ : S) (H : Heap) : Prop := va_P D vwCl (rep σ) H ∧ va_D A (rep σ)
theorem nI_vp {j n : Nat} (h : j < n) (hn : n < 2 ^ 31) : vp_in (nI j) n ∧ (nI j).toNatClampNeg = j := ⟨vp_in_nI h hn, nI_clamp (by omega)⟩
abbrev cellAt {S : Type} (rep : S → va_W) (σ : S) (q0 : Nat) (x : Nat) (E : va_E) : Prop := (rep σ)[q0]? = some (x, E)
section SNC
variable {p : Program} {l : Launch} {e : Env} {R : Room} {s : State} {m : MethodId} {args : Array Value} {below : List Frame} {meth : Method} {c : Code} {Q : State → Prop} {S : Type} {ad : Nat × Nat → Nat} {xv : Value} {vok : MV → Prop} {nL : Nat} {bs : ByteArray} {pc nx : Nat} {lv : ML} {st : List MV} {σ : S} {b : Nat × Nat} {O : MOps S} {call : MCall S} {rt : Nat} {Post : S → Option MV → Prop} {a k : Nat} {sw : List (Int × Nat)} {D : va_G} {A : Nat → Prop} {rep : S → va_W} {SZ : S → Nat → Prop} {tys : List (ClassId × FieldType)} {Ts : List Cond} {own : String} {cT : Nat → ClassId}
abbrev PY (p : Program) (l : Launch) (e : Env) (R : Room) (s : State) (m : MethodId) (args : Array Value) (below : List Frame) (meth : Method) (c : Code) (Q : State → Prop) {S : Type} (D : va_G) (A : Nat → Prop) (rep : S → va_W) (SZ : S → Nat → Prop) (ad : Nat × Nat → Nat) (xv : Value) (vok : MV → Prop) (nL : Nat) : MK S := PX p l e R s m args below meth c Q (HRel D A rep) (va_S A s.heap) SZ ad xv vok nL
/-- fields -/
theorem sh_getfield {i : Nat} {C : String} {T : u_T} {N : Nat} {sdat : Nat → Nat × Nat → MV → Prop} (hx : p.tables.exec = Jvm.exec) (hb : c.code = bs) (hts : ∀ w ∈ Ts, w.before args s = true) (hown : s.vm.findClass own = some m.cls) (hK : va_K D vwCl tys s)
    (hlaw : ∀ σ r v, vok (.inr (.inr r)) → O.gf σ r a k = some v → vok v ∧ 2 ≤ r.1 ∧ ((∃ (q0 : Nat) (fs : List Value), cellAt rep σ q0 (ad r) (.inr (a, fs)) ∧ fs[k]? = some (em ad xv v)) ∨ sdat k r v))
    (hdyn : a < 13 → vwCl[a]? = some (C, T, N) ∧ k < N ∧ (∀ w ∈ u_ws C T N, w ∈ Ts) ∧ Cond.fieldLink own i (T k).1 (T k).2.1 (T k).2.2.1 ∈ Ts)
    (hsta : ∀ r v, sdat k r v → ∃ o n d, va_OF o n d (em ad xv v) (ad r) A s s.heap ∧ (Cond.fieldLink own i o n d).before args s = true)
    (hdec : Dec bs pc (.getfield i) nx) (h : mstep O call rt Post (PY p l e R s m args below meth c Q D A rep SZ ad xv vok nL) (.getfield i, nx, a, k, sw) lv st σ b) : PY p l e R s m args below meth c Q D A rep SZ ad xv vok nL pc lv st σ b := by
  obtain ⟨hd, rfl⟩ := hdec.at 2 rfl
  dsimp only [mstep] at h
  split at h
  · rename_i r st'
    split at h
    · rename_i v hv
      intro H locs cells slots ls h1 h2 h3 h4 h5 h6 h7
      obtain ⟨g1, g2, g3⟩ := hlaw σ r v (vok_hd h4) hv
      show W p l e R s m args below meth c H locs cells slots Q (F0 m pc ls (er ad xv r :: st'.map (em ad xv)))
      rw [er_ref g2]
      have kk := h H locs cells slots ls h1 h2 h3 (vok_cons g1 (vok_tl h4)) h5 h6 h7
      rcases g3 with ⟨q0, fs, g4, g5⟩ | g3
      · obtain ⟨r0, w0, -⟩ := h1.1 q0 _ g4
        have ha : a < 13 := (List.getElem?_eq_some_iff.mp w0).1
        obtain ⟨w1, w2, w3, w4⟩ := hdyn ha
        exact va_get hx hb hts w3 hown hK h1.1 q0 g4 w1 k w2 (hts _ w4) (fun x q => q) g5 hd kk
      · obtain ⟨o, n, d, w1, w2⟩ := hsta r v g3
        exact vk_getf hx hb w1 h2 hown w2 (fun x q => q) hd kk
    · exact h.elim
  · exact h.elim
theorem sh_putfield {i : Nat} {C : String} {T : u_T} {N : Nat} (hx : p.tables.exec = Jvm.exec) (hb : c.code = bs) (hts : ∀ w ∈ Ts, w.before args s = true) (hown : s.vm.findClass own = some m.cls) (hK : va_K D vwCl tys s)
    (hlaw : ∀ σ r v σ', vok (.inr (.inr r)) → vok v → O.pf σ r a k v = some σ' → 2 ≤ r.1 ∧ (∀ n, SZ σ n → SZ σ' n) ∧ (∃ (q0 : Nat) (fs : List Value), cellAt rep σ q0 (ad r) (.inr (a, fs)) ∧ k < fs.length ∧ rep σ' = (rep σ).set q0 (ad r, .inr (a, fs.set k (em ad xv v)))) ∧ ∃ ty, parseFieldDescriptor (T k).2.2.1 = some ty ∧ narrow ty (em ad xv v) = em ad xv v ∧ fits ty (em ad xv v) = true)
    (hC : vwCl[a]? = some (C, T, N)) (hk : k < N) (hin : ∀ w ∈ u_ws C T N, w ∈ Ts) (ty0 : Nat → FieldType) (hty : ∀ k, k < N → parseFieldDescriptor (T k).2.2.1 = some (ty0 k)) (hnm : ∀ a, a < N → ∀ b, b < N → a ≠ b → (T a).2.1 ≠ (T b).2.1)
    (hlk : Cond.fieldLink own i (T k).1 (T k).2.1 (T k).2.2.1 ∈ Ts) (hfin : (T k).2.2.2 = false ∨ ((T k).2.2.2 = true ∧ meth.name = "<init>" ∧ (T k).1 = own))
    (hdec : Dec bs pc (.putfield i) nx) (h : mstep O call rt Post (PY p l e R s m args below meth c Q D A rep SZ ad xv vok nL) (.putfield i, nx, a, k, sw) lv st σ b) : PY p l e R s m args below meth c Q D A rep SZ ad xv vok nL pc lv st σ b := by
  obtain ⟨hd, rfl⟩ := hdec.at 2 rfl
  dsimp only [mstep] at h
  split at h
  · rename_i v r st'
    split at h
    · rename_i σ' hv
      intro H locs cells slots ls h1 h2 h3 h4 h5 h6 h7
      obtain ⟨g1, g2, ⟨q0, fs, g3, g4, g5⟩, ty, g6, g7, g8⟩ := hlaw σ r v σ' (vok_hd (vok_tl h4)) (vok_hd h4) hv
      show W p l e R s m args below meth c H locs cells slots Q (F0 m pc ls (em ad xv v :: er ad xv r :: st'.map (em ad xv)))
      rw [er_ref g1]
      have kk : ∀ (H1 : Heap) (locs1 : List Loc), va_P D vwCl ((rep σ).set q0 (ad r, .inr (a, fs.set k (em ad xv v)))) H1 → va_D A ((rep σ).set q0 (ad r, .inr (a, fs.set k (em ad xv v)))) → va_S A s.heap H1 locs1 → W p l e R s m args below meth c H1 locs1 cells slots Q (F0 m (pc + 3) ls (st'.map (em ad xv))) := fun H1 locs1 w1 w2 w4 => by
        rw [← g5] at w1 w2
        exact h H1 locs1 cells slots ls ⟨w1, w2⟩ w4 h3 (vok_tl (vok_tl h4)) (g2 _ h5) h6 h7
      rcases hfin with hf | ⟨hf, hf2, hf3⟩
      · exact va_put hx hb hts hin ty0 hty hnm hown hK h1.1 h1.2 h2 q0 g3 hC k hk (hts _ hlk) (fun x q => q) hf g6 g7 g8 g4 hd kk
      · exact va_putF hx hb hts hin ty0 hty hnm hown hK h1.1 h1.2 h2 q0 g3 hC k hk (hts _ hlk) (fun x q => q) hf hf2 hf3 g6 g7 g8 g4 hd kk
    · exact h.elim
  · exact h.elim
/-- int arrays -/
theorem sh_iaload (hx : p.tables.exec = Jvm.exec) (hb : c.code = bs) (hK : va_K D vwCl tys s) (hvi : ∀ x, vok (.inl x)) (hty : tys[0]? = some (cT 0, .int))
    (hlaw : ∀ σ r n f, vok (.inr (.inr r)) → O.ai σ r = some (n, f) → 2 ≤ r.1 ∧ n < 2 ^ 31 ∧ ((∃ q0 : Nat, cellAt rep σ q0 (ad r) (.inl (cT 0, n, .inl f))) ∨ va_T .int (ad r) n (fun j => .int (f j)) A s s.heap))
    (hdec : Dec bs pc .iaload nx) (h : mstep O call rt Post (PY p l e R s m args below meth c Q D A rep SZ ad xv vok nL) (.iaload, nx, a, k, sw) lv st σ b) : PY p l e R s m args below meth c Q D A rep SZ ad xv vok nL pc lv st σ b := by
  obtain ⟨hd, rfl⟩ := hdec.at 0 rfl
  dsimp only [mstep] at h
  split at h
  · rename_i i r st'
    split at h
    · rename_i n f hv
      obtain ⟨j, hj, rfl, hk⟩ := h
      intro H locs cells slots ls h1 h2 h3 h4 h5 h6 h7
      obtain ⟨g1, g2, g3⟩ := hlaw σ r n f (vok_hd (vok_tl h4)) hv
      show W p l e R s m args below meth c H locs cells slots Q (F0 m pc ls (.int (nI j) :: er ad xv r :: st'.map (em ad xv)))
      rw [er_ref g1]
      have kk := hk H locs cells slots ls h1 h2 h3 (vok_cons (hvi _) (vok_tl (vok_tl h4))) h5 h6 h7
      obtain ⟨w1, w2⟩ := nI_vp hj g2
      rcases g3 with ⟨q0, g3⟩ | g3
      · exact va_iald hx hb hK h1.1 q0 0 g3 hty w1 hd (by rw [w2]; exact kk)
      · exact va_ti hx hb g3 h2 w1 (v := .int (f j)) (by rw [w2]) hd kk
    · exact h.elim
  · exact h.elim
theorem sh_iastore (hx : p.tables.exec = Jvm.exec) (hb : c.code = bs) (hK : va_K D vwCl tys s) (hty : tys[0]? = some (cT 0, .int))
    (hlaw : ∀ σ r n f f' σ', vok (.inr (.inr r)) → O.ai σ r = some (n, f) → O.wi σ r f' = some σ' → 2 ≤ r.1 ∧ n < 2 ^ 31 ∧ (∀ n, SZ σ n → SZ σ' n) ∧ ∃ q0 : Nat, cellAt rep σ q0 (ad r) (.inl (cT 0, n, .inl f)) ∧ rep σ' = (rep σ).set q0 (ad r, .inl (cT 0, n, .inl f')))
    (hdec : Dec bs pc .iastore nx) (h : mstep O call rt Post (PY p l e R s m args below meth c Q D A rep SZ ad xv vok nL) (.iastore, nx, a, k, sw) lv st σ b) : PY p l e R s m args below meth c Q D A rep SZ ad xv vok nL pc lv st σ b := by
  obtain ⟨hd, rfl⟩ := hdec.at 0 rfl
  dsimp only [mstep] at h
  split at h
  · rename_i x i r st'
    split at h
    · rename_i n f hv
      obtain ⟨j, hj, rfl, hk⟩ := h
      split at hk
      · rename_i σ' hv'
        intro H locs cells slots ls h1 h2 h3 h4 h5 h6 h7
        obtain ⟨g1, g2, g3, q0, g4, g5⟩ := hlaw σ r n f _ σ' (vok_hd (vok_tl (vok_tl h4))) hv hv'
        show W p l e R s m args below meth c H locs cells slots Q (F0 m pc ls (.int x :: .int (nI j) :: er ad xv r :: st'.map (em ad xv)))
        rw [er_ref g1]
        obtain ⟨w1, w2⟩ := nI_vp hj g2
        refine va_iast hx hb hK h1.1 h1.2 h2 q0 0 g4 hty w1 hd fun H1 locs1 k1 k2 k3 => ?_
        rw [w2, ← g5] at k1 k2
        exact hk H1 locs1 cells slots ls ⟨k1, k2⟩ k3 h3 (vok_tl (vok_tl (vok_tl h4))) (g3 _ h5) h6 h7
      · exact hk.elim
    · exact h.elim
  · exact h.elim
theorem sh_laload (hx : p.tables.exec = Jvm.exec) (hb : c.code = bs) (hK : va_K D vwCl tys s) (hvl : ∀ x, vok (.inr (.inl x))) (hty : tys[1]? = some (cT 1, .long))
    (hlaw : ∀ σ r n f, vok (.inr (.inr r)) → O.al σ r = some (n, f) → 2 ≤ r.1 ∧ n < 2 ^ 31 ∧ ∃ q0 : Nat, cellAt rep σ q0 (ad r) (.inl (cT 1, n, .inr (.inl f))))
    (hdec : Dec bs pc .laload nx) (h : mstep O call rt Post (PY p l e R s m args below meth c Q D A rep SZ ad xv vok nL) (.laload, nx, a, k, sw) lv st σ b) : PY p l e R s m args below meth c Q D A rep SZ ad xv vok nL pc lv st σ b := by
  obtain ⟨hd, rfl⟩ := hdec.at 0 rfl
  dsimp only [mstep] at h
  split at h
  · rename_i i r st'
    split at h
    · rename_i n f hv
      obtain ⟨j, hj, rfl, hk⟩ := h
      intro H locs cells slots ls h1 h2 h3 h4 h5 h6 h7
      obtain ⟨g1, g2, q0, g3⟩ := hlaw σ r n f (vok_hd (vok_tl h4)) hv
      show W p l e R s m args below meth c H locs cells slots Q (F0 m pc ls (.int (nI j) :: er ad xv r :: st'.map (em ad xv)))
      rw [er_ref g1]
      have kk := hk H locs cells slots ls h1 h2 h3 (vok_cons (hvl _) (vok_tl (vok_tl h4))) h5 h6 h7
      obtain ⟨w1, w2⟩ := nI_vp hj g2
      exact va_lald hx hb hK h1.1 q0 1 g3 hty w1 hd (by rw [w2]; exact kk)
    · exact h.elim
  · exact h.elim
theorem sh_lastore (hx : p.tables.exec = Jvm.exec) (hb : c.code = bs) (hK : va_K D vwCl tys s) (hty : tys[1]? = some (cT 1, .long))
    (hlaw : ∀ σ r n f f' σ', vok (.inr (.inr r)) → O.al σ r = some (n, f) → O.wl σ r f' = some σ' → 2 ≤ r.1 ∧ n < 2 ^ 31 ∧ (∀ n, SZ σ n → SZ σ' n) ∧ ∃ q0 : Nat, cellAt rep σ q0 (ad r) (.inl (cT 1, n, .inr (.inl f))) ∧ rep σ' = (rep σ).set q0 (ad r, .inl (cT 1, n, .inr (.inl f'))))
    (hdec : Dec bs pc .lastore nx) (h : mstep O call rt Post (PY p l e R s m args below meth c Q D A rep SZ ad xv vok nL) (.lastore, nx, a, k, sw) lv st σ b) : PY p l e R s m args below meth c Q D A rep SZ ad xv vok nL pc lv st σ b := by
  obtain ⟨hd, rfl⟩ := hdec.at 0 rfl
  dsimp only [mstep] at h
  split at h
  · rename_i x i r st'
    split at h
    · rename_i n f hv
      obtain ⟨j, hj, rfl, hk⟩ := h
      split at hk
      · rename_i σ' hv'
        intro H locs cells slots ls h1 h2 h3 h4 h5 h6 h7
        obtain ⟨g1, g2, g3, q0, g4, g5⟩ := hlaw σ r n f _ σ' (vok_hd (vok_tl (vok_tl h4))) hv hv'
        show W p l e R s m args below meth c H locs cells slots Q (F0 m pc ls (.long x :: .int (nI j) :: er ad xv r :: st'.map (em ad xv)))
        rw [er_ref g1]
        obtain ⟨w1, w2⟩ := nI_vp hj g2
        refine va_last hx hb hK h1.1 h1.2 h2 q0 1 g4 hty w1 hd fun H1 locs1 k1 k2 k3 => ?_
        rw [w2, ← g5] at k1 k2
        exact hk H1 locs1 cells slots ls ⟨k1, k2⟩ k3 h3 (vok_tl (vok_tl (vok_tl h4))) (g3 _ h5) h6 h7
      · exact hk.elim
    · exact h.elim
  · exact h.elim
/-- arrays of references -/
theorem sh_aaload (hx : p.tables.exec = Jvm.exec) (hb : c.code = bs) (hK : va_K D vwCl tys s)
    (hlaw : ∀ σ r n f, vok (.inr (.inr r)) → O.ar σ r = some (n, f) → 2 ≤ r.1 ∧ n < 2 ^ 31 ∧ (∀ j, j < n → vok (.inr (.inr (f j)))) ∧ ∃ (q0 t0 : Nat) (C : String) (g : Nat → Option Nat), cellAt rep σ q0 (ad r) (.inl (cT t0, n, .inr (.inr (.inr (.inr g))))) ∧ tys[t0]? = some (cT t0, .object C) ∧ ∀ j, j < n → va_rf (g j) = er ad xv (f j))
    (hdec : Dec bs pc .aaload nx) (h : mstep O call rt Post (PY p l e R s m args below meth c Q D A rep SZ ad xv vok nL) (.aaload, nx, a, k, sw) lv st σ b) : PY p l e R s m args below meth c Q D A rep SZ ad xv vok nL pc lv st σ b := by
  obtain ⟨hd, rfl⟩ := hdec.at 0 rfl
  dsimp only [mstep] at h
  split at h
  · rename_i i r st'
    split at h
    · rename_i n f hv
      obtain ⟨j, hj, rfl, hk⟩ := h
      intro H locs cells slots ls h1 h2 h3 h4 h5 h6 h7
      obtain ⟨g1, g2, g3, q0, t0, C, g, g4, g5, g6⟩ := hlaw σ r n f (vok_hd (vok_tl h4)) hv
      show W p l e R s m args below meth c H locs cells slots Q (F0 m pc ls (.int (nI j) :: er ad xv r :: st'.map (em ad xv)))
      rw [er_ref g1]
      have kk := hk H locs cells slots ls h1 h2 h3 (vok_cons (g3 j hj) (vok_tl (vok_tl h4))) h5 h6 h7
      obtain ⟨w1, w2⟩ := nI_vp hj g2
      exact va_aldq hx hb hK h1.1 q0 t0 g4 g5 w1 hd (by rw [w2, g6 j hj]; exact kk)
    · exact h.elim
  · exact h.elim
theorem sh_aastore (hx : p.tables.exec = Jvm.exec) (hb : c.code = bs) (hK : va_K D vwCl tys s)
    (hlaw : ∀ σ r n f j x σ', vok (.inr (.inr r)) → vok (.inr (.inr x)) → O.ar σ r = some (n, f) → j < n → O.wr σ r j x = some σ' → 2 ≤ r.1 ∧ 2 ≤ x.1 ∧ n < 2 ^ 31 ∧ (∀ n, SZ σ n → SZ σ' n) ∧ ∃ (q0 t0 qk ci : Nat) (r0 : vw_C) (vs : List Value) (g : Nat → Option Nat), cellAt rep σ q0 (ad r) (.inl (cT t0, n, .inr (.inr (.inr (.inr g))))) ∧ tys[t0]? = some (cT t0, .object r0.1) ∧ cellAt rep σ qk (ad x) (.inr (ci, vs)) ∧ vwCl[ci]? = some r0 ∧ rep σ' = (rep σ).set q0 (ad r, .inl (cT t0, n, .inr (.inr (.inr (.inr (va_up g j (some (ad x)))))))))
    (hdec : Dec bs pc .aastore nx) (h : mstep O call rt Post (PY p l e R s m args below meth c Q D A rep SZ ad xv vok nL) (.aastore, nx, a, k, sw) lv st σ b) : PY p l e R s m args below meth c Q D A rep SZ ad xv vok nL pc lv st σ b := by
  obtain ⟨hd, rfl⟩ := hdec.at 0 rfl
  dsimp only [mstep] at h
  split at h
  · rename_i x i r st'
    split at h
    · rename_i n f hv
      obtain ⟨j, hj, rfl, hk⟩ := h
      split at hk
      · rename_i σ' hv'
        intro H locs cells slots ls h1 h2 h3 h4 h5 h6 h7
        obtain ⟨g1, g1', g2, g3, q0, t0, qk, ci, r0, vs, g, g4, g5, g6, g7, g8⟩ := hlaw σ r n f j x σ' (vok_hd (vok_tl (vok_tl h4))) (vok_hd h4) hv hj hv'
        show W p l e R s m args below meth c H locs cells slots Q (F0 m pc ls (er ad xv x :: .int (nI j) :: er ad xv r :: st'.map (em ad xv)))
        rw [er_ref g1, er_ref g1']
        obtain ⟨w1, w2⟩ := nI_vp hj g2
        refine va_astq hx hb hK h1.1 h1.2 h2 q0 t0 qk ci g4 g5 g6 g7 w1 hd fun H1 locs1 k1 k2 k3 => ?_
        rw [w2, ← g8] at k1 k2
        exact hk H1 locs1 cells slots ls ⟨k1, k2⟩ k3 h3 (vok_tl (vok_tl (vok_tl h4))) (g3 _ h5) h6 h7
      · exact hk.elim
    · exact h.elim
  · exact h.elim
theorem sh_arraylength (hx : p.tables.exec = Jvm.exec) (hb : c.code = bs) (hK : va_K D vwCl tys s) (hvi : ∀ x, vok (.inl x))
    (hlaw : ∀ σ r n, vok (.inr (.inr r)) → O.ln σ r = some n → 2 ≤ r.1 ∧ ((∃ (q0 t0 : Nat) (x : vp_A) (cA : ClassId) (ty : FieldType), cellAt rep σ q0 (ad r) (.inl (cA, x)) ∧ x.1 = n ∧ tys[t0]? = some (cA, ty)) ∨ ∃ (ty : FieldType) (f : Nat → Value), va_T ty (ad r) n f A s s.heap))
    (hdec : Dec bs pc .arraylength nx) (h : mstep O call rt Post (PY p l e R s m args below meth c Q D A rep SZ ad xv vok nL) (.arraylength, nx, a, k, sw) lv st σ b) : PY p l e R s m args below meth c Q D A rep SZ ad xv vok nL pc lv st σ b := by
  obtain ⟨hd, rfl⟩ := hdec.at 0 rfl
  dsimp only [mstep] at h
  split at h
  · rename_i r st'
    split at h
    · rename_i n hv
      intro H locs cells slots ls h1 h2 h3 h4 h5 h6 h7
      obtain ⟨g1, g2⟩ := hlaw σ r n (vok_hd h4) hv
      show W p l e R s m args below meth c H locs cells slots Q (F0 m pc ls (er ad xv r :: st'.map (em ad xv)))
      rw [er_ref g1]
      have kk := h H locs cells slots ls h1 h2 h3 (vok_cons (hvi _) (vok_tl h4)) h5 h6 h7
      rcases g2 with ⟨q0, t0, x, cA, ty, g3, g4, g5⟩ | ⟨ty, f, g3⟩
      · exact va_alen hx hb hK h1.1 q0 t0 g3 g5 (by rw [g4]; rfl) hd kk
      · exact va_tlen hx hb g3 h2 rfl hd kk
    · exact h.elim
  · exact h.elim
theorem sh_baload (hx : p.tables.exec = Jvm.exec) (hb : c.code = bs) (hvi : ∀ x, vok (.inl x))
    (hlaw : ∀ σ r n f, vok (.inr (.inr r)) → O.ab σ r = some (n, f) → 2 ≤ r.1 ∧ n < 2 ^ 31 ∧ va_T .byte (ad r) n (fun j => .int (f j)) A s s.heap)
    (hdec : Dec bs pc .baload nx) (h : mstep O call rt Post (PY p l e R s m args below meth c Q D A rep SZ ad xv vok nL) (.baload, nx, a, k, sw) lv st σ b) : PY p l e R s m args below meth c Q D A rep SZ ad xv vok nL pc lv st σ b := by
  obtain ⟨hd, rfl⟩ := hdec.at 0 rfl
  dsimp only [mstep] at h
  split at h
  · rename_i i r st'
    split at h
    · rename_i n f hv
      obtain ⟨j, hj, rfl, hk⟩ := h
      intro H locs cells slots ls h1 h2 h3 h4 h5 h6 h7
      obtain ⟨g1, g2, g3⟩ := hlaw σ r n f (vok_hd (vok_tl h4)) hv
      show W p l e R s m args below meth c H locs cells slots Q (F0 m pc ls (.int (nI j) :: er ad xv r :: st'.map (em ad xv)))
      rw [er_ref g1]
      have kk := hk H locs cells slots ls h1 h2 h3 (vok_cons (hvi _) (vok_tl (vok_tl h4))) h5 h6 h7
      obtain ⟨w1, w2⟩ := nI_vp hj g2
      exact va_tb hx hb g3 h2 w1 (v := .int (f j)) (by rw [w2]) hd kk
    · exact h.elim
  · exact h.elim
theorem sh_getstatic {i : Nat} (hx : p.tables.exec = Jvm.exec) (hb : c.code = bs) (hown : s.vm.findClass own = some m.cls)
    (hlaw : ∀ v, O.gs a = some v → vok v ∧ ∃ C n d, va_Z C n d (em ad xv v) A s s.heap ∧ (Cond.fieldLink own i C n d).before args s = true)
    (hdec : Dec bs pc (.getstatic i) nx) (h : mstep O call rt Post (PY p l e R s m args below meth c Q D A rep SZ ad xv vok nL) (.getstatic i, nx, a, k, sw) lv st σ b) : PY p l e R s m args below meth c Q D A rep SZ ad xv vok nL pc lv st σ b := by
  obtain ⟨hd, rfl⟩ := hdec.at 2 rfl
  dsimp only [mstep] at h
  split at h
  · rename_i v hv
    intro H locs cells slots ls h1 h2 h3 h4 h5 h6 h7
    obtain ⟨g1, C, n, d, g2, g3⟩ := hlaw v hv
    exact va_gets hx hb g2 h2 hown g3 (fun x q => q) hd (h H locs cells slots ls h1 h2 h3 (vok_cons g1 h4) h5 h6 h7)
  · exact h.elim
theorem sh_ldcS {i : Nat} {tx : String} (hx : p.tables.exec = Jvm.exec) (hb : c.code = bs) (hown : s.vm.findClass own = some m.cls) (hsw : sw = []) (hv : vok (.inr (.inr (2, a)))) (hZ : vk_R own i tx (ad (2, a)) s)
    (hdec : Dec bs pc (.ldc i) nx) (h : mstep O call rt Post (PY p l e R s m args below meth c Q D A rep SZ ad xv vok nL) (.ldc i, nx, a, k, sw) lv st σ b) : PY p l e R s m args below meth c Q D A rep SZ ad xv vok nL pc lv st σ b := by
  subst hsw
  obtain ⟨hd, rfl⟩ := hdec.at 1 rfl
  intro H locs cells slots ls h1 h2 h3 h4 h5 h6 h7
  exact va_ldcS hx hb hown hZ hd (h H locs cells slots ls h1 h2 h3 (vok_cons hv h4) h5 h6 h7)
end SNC
