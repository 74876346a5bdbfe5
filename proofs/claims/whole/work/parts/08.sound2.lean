/-! ===== the steps that touch no heap, one by one ===== -/
theorem msw_out {x : Int32} {K : Nat → Prop} {d : Nat} : ∀ {sw : List (Int × Nat)}, msw x K d sw → (∃ q ∈ sw, x = Int32.ofInt q.1 ∧ K q.2) ∨ (K d ∧ ∀ q ∈ sw, ¬ x = Int32.ofInt q.1)
  | [], h => Or.inr ⟨h, fun _ q => by cases q⟩
  | q :: r, h => by
    by_cases hq : x = Int32.ofInt q.1
    · exact Or.inl ⟨q, List.mem_cons_self, hq, h.1 hq⟩
    · rcases msw_out (h.2 hq) with ⟨q', h1, h2⟩ | ⟨h1, h2⟩
      · exact Or.inl ⟨q', List.mem_cons_of_mem _ h1, h2⟩
      · refine Or.inr ⟨h1, fun q' h' => ?_⟩
        rcases List.mem_cons.mp h' with rfl | h'
        · exact hq
        · exact h2 q' h'
section SNB
variable {p : Program} {l : Launch} {e : Env} {R : Room} {s : State} {m : MethodId} {args : Array Value} {below : List Frame} {meth : Method} {c : Code} {Q : State → Prop} {S : Type} {HR : S → Heap → Prop} {SS : Heap → List Loc → Prop} {SZ : S → Nat → Prop} {ad : Nat × Nat → Nat} {xv : Value} {vok : MV → Prop} {nL : Nat} {bs : ByteArray} {pc nx : Nat} {lv : ML} {st : List MV} {σ : S} {b : Nat × Nat} {O : MOps S} {call : MCall S} {rt : Nat} {Post : S → Option MV → Prop} {a k : Nat} {sw : List (Int × Nat)}
theorem ss_iload (hx : p.tables.exec = Jvm.exec) (hb : c.code = bs) (hxv : xvOk xv) (hvi : ∀ x, vok (.inl x)) (hvl : ∀ x, vok (.inr (.inl x))) {n : Nat} (hdec : Dec bs pc (.iload n) nx) (h : mstep O call rt Post (PX p l e R s m args below meth c Q HR SS SZ ad xv vok nL) (.iload n, nx, a, k, sw) lv st σ b) : PX p l e R s m args below meth c Q HR SS SZ ad xv vok nL pc lv st σ b := by
  obtain ⟨hd, rfl⟩ := hdec.at 1 rfl
  exact so_load h (fun _ _ _ _ _ _ _ _ hl kk => lv_iload hx hb hd hl kk) (fun z => absurd z (by decide)) (fun z => absurd z (by decide))
theorem ss_iload_n (hx : p.tables.exec = Jvm.exec) (hb : c.code = bs) (hxv : xvOk xv) (hvi : ∀ x, vok (.inl x)) (hvl : ∀ x, vok (.inr (.inl x))) {n : Fin 4} (hdec : Dec bs pc (.iload_n n) nx) (h : mstep O call rt Post (PX p l e R s m args below meth c Q HR SS SZ ad xv vok nL) (.iload_n n, nx, a, k, sw) lv st σ b) : PX p l e R s m args below meth c Q HR SS SZ ad xv vok nL pc lv st σ b := by
  obtain ⟨hd, rfl⟩ := hdec.at 0 rfl
  exact so_load h (fun _ _ _ _ _ _ _ _ hl kk => lv_iload_n hx hb hd rfl hl kk) (fun z => absurd z (by decide)) (fun z => absurd z (by decide))
theorem ss_lload (hx : p.tables.exec = Jvm.exec) (hb : c.code = bs) (hxv : xvOk xv) (hvi : ∀ x, vok (.inl x)) (hvl : ∀ x, vok (.inr (.inl x))) {n : Nat} (hdec : Dec bs pc (.lload n) nx) (h : mstep O call rt Post (PX p l e R s m args below meth c Q HR SS SZ ad xv vok nL) (.lload n, nx, a, k, sw) lv st σ b) : PX p l e R s m args below meth c Q HR SS SZ ad xv vok nL pc lv st σ b := by
  obtain ⟨hd, rfl⟩ := hdec.at 1 rfl
  exact so_load h (fun z => absurd z (by decide)) (fun _ _ _ _ _ _ _ _ hl kk => lv_lload hx hb hd hl kk) (fun z => absurd z (by decide))
theorem ss_lload_n (hx : p.tables.exec = Jvm.exec) (hb : c.code = bs) (hxv : xvOk xv) (hvi : ∀ x, vok (.inl x)) (hvl : ∀ x, vok (.inr (.inl x))) {n : Fin 4} (hdec : Dec bs pc (.lload_n n) nx) (h : mstep O call rt Post (PX p l e R s m args below meth c Q HR SS SZ ad xv vok nL) (.lload_n n, nx, a, k, sw) lv st σ b) : PX p l e R s m args below meth c Q HR SS SZ ad xv vok nL pc lv st σ b := by
  obtain ⟨hd, rfl⟩ := hdec.at 0 rfl
  exact so_load h (fun z => absurd z (by decide)) (fun _ _ _ _ _ _ _ _ hl kk => lv_lload_n hx hb hd rfl hl kk) (fun z => absurd z (by decide))
theorem ss_aload (hx : p.tables.exec = Jvm.exec) (hb : c.code = bs) (hxv : xvOk xv) (hvi : ∀ x, vok (.inl x)) (hvl : ∀ x, vok (.inr (.inl x))) {n : Nat} (hdec : Dec bs pc (.aload n) nx) (h : mstep O call rt Post (PX p l e R s m args below meth c Q HR SS SZ ad xv vok nL) (.aload n, nx, a, k, sw) lv st σ b) : PX p l e R s m args below meth c Q HR SS SZ ad xv vok nL pc lv st σ b := by
  obtain ⟨hd, rfl⟩ := hdec.at 1 rfl
  exact so_load h (fun z => absurd z (by decide)) (fun z => absurd z (by decide)) (fun _ _ _ _ _ _ _ r hl kk => lq_aload hx hb (er_or hxv r) hd hl kk)
theorem ss_aload_n (hx : p.tables.exec = Jvm.exec) (hb : c.code = bs) (hxv : xvOk xv) (hvi : ∀ x, vok (.inl x)) (hvl : ∀ x, vok (.inr (.inl x))) {n : Fin 4} (hdec : Dec bs pc (.aload_n n) nx) (h : mstep O call rt Post (PX p l e R s m args below meth c Q HR SS SZ ad xv vok nL) (.aload_n n, nx, a, k, sw) lv st σ b) : PX p l e R s m args below meth c Q HR SS SZ ad xv vok nL pc lv st σ b := by
  obtain ⟨hd, rfl⟩ := hdec.at 0 rfl
  exact so_load h (fun z => absurd z (by decide)) (fun z => absurd z (by decide)) (fun _ _ _ _ _ _ _ r hl kk => lq_aload_n hx hb (er_or hxv r) hd rfl hl kk)
theorem ss_istore (hx : p.tables.exec = Jvm.exec) (hb : c.code = bs) (hxv : xvOk xv) (hvi : ∀ x, vok (.inl x)) (hvl : ∀ x, vok (.inr (.inl x))) {n : Nat} (hdec : Dec bs pc (.istore n) nx) (h : mstep O call rt Post (PX p l e R s m args below meth c Q HR SS SZ ad xv vok nL) (.istore n, nx, a, k, sw) lv st σ b) : PX p l e R s m args below meth c Q HR SS SZ ad xv vok nL pc lv st σ b := by
  obtain ⟨hd, rfl⟩ := hdec.at 1 rfl
  exact so_store hxv h (fun _ _ _ _ _ _ _ _ _ _ h1 h2 h3 kk => lv_istore hx hb hd h1 h2 h3 kk) (fun z => absurd z (by decide)) (fun z => absurd z (by decide))
theorem ss_istore_n (hx : p.tables.exec = Jvm.exec) (hb : c.code = bs) (hxv : xvOk xv) (hvi : ∀ x, vok (.inl x)) (hvl : ∀ x, vok (.inr (.inl x))) {n : Fin 4} (hdec : Dec bs pc (.istore_n n) nx) (h : mstep O call rt Post (PX p l e R s m args below meth c Q HR SS SZ ad xv vok nL) (.istore_n n, nx, a, k, sw) lv st σ b) : PX p l e R s m args below meth c Q HR SS SZ ad xv vok nL pc lv st σ b := by
  obtain ⟨hd, rfl⟩ := hdec.at 0 rfl
  exact so_store hxv h (fun _ _ _ _ _ _ _ _ _ _ h1 h2 h3 kk => lv_istore_n hx hb hd rfl h1 h2 h3 kk) (fun z => absurd z (by decide)) (fun z => absurd z (by decide))
theorem ss_lstore (hx : p.tables.exec = Jvm.exec) (hb : c.code = bs) (hxv : xvOk xv) (hvi : ∀ x, vok (.inl x)) (hvl : ∀ x, vok (.inr (.inl x))) {n : Nat} (hdec : Dec bs pc (.lstore n) nx) (h : mstep O call rt Post (PX p l e R s m args below meth c Q HR SS SZ ad xv vok nL) (.lstore n, nx, a, k, sw) lv st σ b) : PX p l e R s m args below meth c Q HR SS SZ ad xv vok nL pc lv st σ b := by
  obtain ⟨hd, rfl⟩ := hdec.at 1 rfl
  exact so_store hxv h (fun z => absurd z (by decide)) (fun _ _ _ _ _ _ _ _ _ _ h1 h2 h3 kk => lv_lstore hx hb hd h1 h2 h3 kk) (fun z => absurd z (by decide))
theorem ss_lstore_n (hx : p.tables.exec = Jvm.exec) (hb : c.code = bs) (hxv : xvOk xv) (hvi : ∀ x, vok (.inl x)) (hvl : ∀ x, vok (.inr (.inl x))) {n : Fin 4} (hdec : Dec bs pc (.lstore_n n) nx) (h : mstep O call rt Post (PX p l e R s m args below meth c Q HR SS SZ ad xv vok nL) (.lstore_n n, nx, a, k, sw) lv st σ b) : PX p l e R s m args below meth c Q HR SS SZ ad xv vok nL pc lv st σ b := by
  obtain ⟨hd, rfl⟩ := hdec.at 0 rfl
  exact so_store hxv h (fun z => absurd z (by decide)) (fun _ _ _ _ _ _ _ _ _ _ h1 h2 h3 kk => lv_lstore_n hx hb hd rfl h1 h2 h3 kk) (fun z => absurd z (by decide))
theorem ss_astore (hx : p.tables.exec = Jvm.exec) (hb : c.code = bs) (hxv : xvOk xv) (hvi : ∀ x, vok (.inl x)) (hvl : ∀ x, vok (.inr (.inl x))) {n : Nat} (hdec : Dec bs pc (.astore n) nx) (h : mstep O call rt Post (PX p l e R s m args below meth c Q HR SS SZ ad xv vok nL) (.astore n, nx, a, k, sw) lv st σ b) : PX p l e R s m args below meth c Q HR SS SZ ad xv vok nL pc lv st σ b := by
  obtain ⟨hd, rfl⟩ := hdec.at 1 rfl
  exact so_store hxv h (fun z => absurd z (by decide)) (fun z => absurd z (by decide)) (fun _ _ _ _ _ _ _ _ _ _ h1 h2 h3 kk => lv_astore hx hb hd h1 h2 h3 kk)
theorem ss_astore_n (hx : p.tables.exec = Jvm.exec) (hb : c.code = bs) (hxv : xvOk xv) (hvi : ∀ x, vok (.inl x)) (hvl : ∀ x, vok (.inr (.inl x))) {n : Fin 4} (hdec : Dec bs pc (.astore_n n) nx) (h : mstep O call rt Post (PX p l e R s m args below meth c Q HR SS SZ ad xv vok nL) (.astore_n n, nx, a, k, sw) lv st σ b) : PX p l e R s m args below meth c Q HR SS SZ ad xv vok nL pc lv st σ b := by
  obtain ⟨hd, rfl⟩ := hdec.at 0 rfl
  exact so_store hxv h (fun z => absurd z (by decide)) (fun z => absurd z (by decide)) (fun _ _ _ _ _ _ _ _ _ _ h1 h2 h3 kk => lv_astore_n hx hb hd rfl h1 h2 h3 kk)
theorem ss_iconst (hx : p.tables.exec = Jvm.exec) (hb : c.code = bs) (hxv : xvOk xv) (hvi : ∀ x, vok (.inl x)) (hvl : ∀ x, vok (.inr (.inl x))) {n : Int} (hdec : Dec bs pc (.iconst n) nx) (h : mstep O call rt Post (PX p l e R s m args below meth c Q HR SS SZ ad xv vok nL) (.iconst n, nx, a, k, sw) lv st σ b) : PX p l e R s m args below meth c Q HR SS SZ ad xv vok nL pc lv st σ b := by
  obtain ⟨hd, rfl⟩ := hdec.at 0 rfl
  intro H locs cells slots ls h1 h2 h3 h4 h5 h6 h7
  exact lv_iconst hx hb hd rfl (h H locs cells slots ls h1 h2 h3 (vok_cons (hvi _) h4) h5 h6 h7)
theorem ss_bipush (hx : p.tables.exec = Jvm.exec) (hb : c.code = bs) (hxv : xvOk xv) (hvi : ∀ x, vok (.inl x)) (hvl : ∀ x, vok (.inr (.inl x))) {n : Int} (hdec : Dec bs pc (.bipush n) nx) (hn : (Int8.ofInt n).toInt32 = Int32.ofInt n) (h : mstep O call rt Post (PX p l e R s m args below meth c Q HR SS SZ ad xv vok nL) (.bipush n, nx, a, k, sw) lv st σ b) : PX p l e R s m args below meth c Q HR SS SZ ad xv vok nL pc lv st σ b := by
  obtain ⟨hd, rfl⟩ := hdec.at 1 rfl
  intro H locs cells slots ls h1 h2 h3 h4 h5 h6 h7
  exact lv_bipush hx hb hd hn (h H locs cells slots ls h1 h2 h3 (vok_cons (hvi _) h4) h5 h6 h7)
theorem ss_sipush (hx : p.tables.exec = Jvm.exec) (hb : c.code = bs) (hxv : xvOk xv) (hvi : ∀ x, vok (.inl x)) (hvl : ∀ x, vok (.inr (.inl x))) {n : Int} (hdec : Dec bs pc (.sipush n) nx) (hn : (Int16.ofInt n).toInt32 = Int32.ofInt n) (h : mstep O call rt Post (PX p l e R s m args below meth c Q HR SS SZ ad xv vok nL) (.sipush n, nx, a, k, sw) lv st σ b) : PX p l e R s m args below meth c Q HR SS SZ ad xv vok nL pc lv st σ b := by
  obtain ⟨hd, rfl⟩ := hdec.at 2 rfl
  intro H locs cells slots ls h1 h2 h3 h4 h5 h6 h7
  exact lv_sipush hx hb hd hn (h H locs cells slots ls h1 h2 h3 (vok_cons (hvi _) h4) h5 h6 h7)
theorem ss_lconst (hx : p.tables.exec = Jvm.exec) (hb : c.code = bs) (hxv : xvOk xv) (hvi : ∀ x, vok (.inl x)) (hvl : ∀ x, vok (.inr (.inl x))) {n : Fin 2} (hdec : Dec bs pc (.lconst n) nx) (h : mstep O call rt Post (PX p l e R s m args below meth c Q HR SS SZ ad xv vok nL) (.lconst n, nx, a, k, sw) lv st σ b) : PX p l e R s m args below meth c Q HR SS SZ ad xv vok nL pc lv st σ b := by
  obtain ⟨hd, rfl⟩ := hdec.at 0 rfl
  intro H locs cells slots ls h1 h2 h3 h4 h5 h6 h7
  exact lv_lconst hx hb hd rfl (h H locs cells slots ls h1 h2 h3 (vok_cons (hvl _) h4) h5 h6 h7)
theorem ss_aconst_null (hx : p.tables.exec = Jvm.exec) (hb : c.code = bs) (hxv : xvOk xv) (hvi : ∀ x, vok (.inl x)) (hvl : ∀ x, vok (.inr (.inl x))) (hdec : Dec bs pc (.aconst_null) nx) (hv0 : vok (.inr (.inr (0, 0)))) (h : mstep O call rt Post (PX p l e R s m args below meth c Q HR SS SZ ad xv vok nL) (.aconst_null, nx, a, k, sw) lv st σ b) : PX p l e R s m args below meth c Q HR SS SZ ad xv vok nL pc lv st σ b := by
  obtain ⟨hd, rfl⟩ := hdec.at 0 rfl
  intro H locs cells slots ls h1 h2 h3 h4 h5 h6 h7
  exact lv_null hx hb hd (h H locs cells slots ls h1 h2 h3 (vok_cons hv0 h4) h5 h6 h7)
theorem ss_iadd (hx : p.tables.exec = Jvm.exec) (hb : c.code = bs) (hxv : xvOk xv) (hvi : ∀ x, vok (.inl x)) (hvl : ∀ x, vok (.inr (.inl x))) (hdec : Dec bs pc (.iadd) nx) (h : mstep O call rt Post (PX p l e R s m args below meth c Q HR SS SZ ad xv vok nL) (.iadd, nx, a, k, sw) lv st σ b) : PX p l e R s m args below meth c Q HR SS SZ ad xv vok nL pc lv st σ b := by
  obtain ⟨hd, rfl⟩ := hdec.at 0 rfl
  dsimp only [mstep] at h
  split at h
  · intro H locs cells slots ls h1 h2 h3 h4 h5 h6 h7
    exact lv_iadd hx hb hd (h H locs cells slots ls h1 h2 h3 (vok_cons (hvi _) (vok_tl (vok_tl h4))) h5 h6 h7)
  · exact h.elim
theorem ss_isub (hx : p.tables.exec = Jvm.exec) (hb : c.code = bs) (hxv : xvOk xv) (hvi : ∀ x, vok (.inl x)) (hvl : ∀ x, vok (.inr (.inl x))) (hdec : Dec bs pc (.isub) nx) (h : mstep O call rt Post (PX p l e R s m args below meth c Q HR SS SZ ad xv vok nL) (.isub, nx, a, k, sw) lv st σ b) : PX p l e R s m args below meth c Q HR SS SZ ad xv vok nL pc lv st σ b := by
  obtain ⟨hd, rfl⟩ := hdec.at 0 rfl
  dsimp only [mstep] at h
  split at h
  · intro H locs cells slots ls h1 h2 h3 h4 h5 h6 h7
    exact lv_isub hx hb hd (h H locs cells slots ls h1 h2 h3 (vok_cons (hvi _) (vok_tl (vok_tl h4))) h5 h6 h7)
  · exact h.elim
theorem ss_imul (hx : p.tables.exec = Jvm.exec) (hb : c.code = bs) (hxv : xvOk xv) (hvi : ∀ x, vok (.inl x)) (hvl : ∀ x, vok (.inr (.inl x))) (hdec : Dec bs pc (.imul) nx) (h : mstep O call rt Post (PX p l e R s m args below meth c Q HR SS SZ ad xv vok nL) (.imul, nx, a, k, sw) lv st σ b) : PX p l e R s m args below meth c Q HR SS SZ ad xv vok nL pc lv st σ b := by
  obtain ⟨hd, rfl⟩ := hdec.at 0 rfl
  dsimp only [mstep] at h
  split at h
  · intro H locs cells slots ls h1 h2 h3 h4 h5 h6 h7
    exact lv_imul hx hb hd (h H locs cells slots ls h1 h2 h3 (vok_cons (hvi _) (vok_tl (vok_tl h4))) h5 h6 h7)
  · exact h.elim
theorem ss_iand (hx : p.tables.exec = Jvm.exec) (hb : c.code = bs) (hxv : xvOk xv) (hvi : ∀ x, vok (.inl x)) (hvl : ∀ x, vok (.inr (.inl x))) (hdec : Dec bs pc (.iand) nx) (h : mstep O call rt Post (PX p l e R s m args below meth c Q HR SS SZ ad xv vok nL) (.iand, nx, a, k, sw) lv st σ b) : PX p l e R s m args below meth c Q HR SS SZ ad xv vok nL pc lv st σ b := by
  obtain ⟨hd, rfl⟩ := hdec.at 0 rfl
  dsimp only [mstep] at h
  split at h
  · intro H locs cells slots ls h1 h2 h3 h4 h5 h6 h7
    exact lv_iand hx hb hd (h H locs cells slots ls h1 h2 h3 (vok_cons (hvi _) (vok_tl (vok_tl h4))) h5 h6 h7)
  · exact h.elim
theorem ss_ior (hx : p.tables.exec = Jvm.exec) (hb : c.code = bs) (hxv : xvOk xv) (hvi : ∀ x, vok (.inl x)) (hvl : ∀ x, vok (.inr (.inl x))) (hdec : Dec bs pc (.ior) nx) (h : mstep O call rt Post (PX p l e R s m args below meth c Q HR SS SZ ad xv vok nL) (.ior, nx, a, k, sw) lv st σ b) : PX p l e R s m args below meth c Q HR SS SZ ad xv vok nL pc lv st σ b := by
  obtain ⟨hd, rfl⟩ := hdec.at 0 rfl
  dsimp only [mstep] at h
  split at h
  · intro H locs cells slots ls h1 h2 h3 h4 h5 h6 h7
    exact lv_ior hx hb hd (h H locs cells slots ls h1 h2 h3 (vok_cons (hvi _) (vok_tl (vok_tl h4))) h5 h6 h7)
  · exact h.elim
theorem ss_ixor (hx : p.tables.exec = Jvm.exec) (hb : c.code = bs) (hxv : xvOk xv) (hvi : ∀ x, vok (.inl x)) (hvl : ∀ x, vok (.inr (.inl x))) (hdec : Dec bs pc (.ixor) nx) (h : mstep O call rt Post (PX p l e R s m args below meth c Q HR SS SZ ad xv vok nL) (.ixor, nx, a, k, sw) lv st σ b) : PX p l e R s m args below meth c Q HR SS SZ ad xv vok nL pc lv st σ b := by
  obtain ⟨hd, rfl⟩ := hdec.at 0 rfl
  dsimp only [mstep] at h
  split at h
  · intro H locs cells slots ls h1 h2 h3 h4 h5 h6 h7
    exact lv_ixor hx hb hd (h H locs cells slots ls h1 h2 h3 (vok_cons (hvi _) (vok_tl (vok_tl h4))) h5 h6 h7)
  · exact h.elim
theorem ss_ishl (hx : p.tables.exec = Jvm.exec) (hb : c.code = bs) (hxv : xvOk xv) (hvi : ∀ x, vok (.inl x)) (hvl : ∀ x, vok (.inr (.inl x))) (hdec : Dec bs pc (.ishl) nx) (h : mstep O call rt Post (PX p l e R s m args below meth c Q HR SS SZ ad xv vok nL) (.ishl, nx, a, k, sw) lv st σ b) : PX p l e R s m args below meth c Q HR SS SZ ad xv vok nL pc lv st σ b := by
  obtain ⟨hd, rfl⟩ := hdec.at 0 rfl
  dsimp only [mstep] at h
  split at h
  · intro H locs cells slots ls h1 h2 h3 h4 h5 h6 h7
    exact lv_ishl hx hb hd (h H locs cells slots ls h1 h2 h3 (vok_cons (hvi _) (vok_tl (vok_tl h4))) h5 h6 h7)
  · exact h.elim
theorem ss_ishr (hx : p.tables.exec = Jvm.exec) (hb : c.code = bs) (hxv : xvOk xv) (hvi : ∀ x, vok (.inl x)) (hvl : ∀ x, vok (.inr (.inl x))) (hdec : Dec bs pc (.ishr) nx) (h : mstep O call rt Post (PX p l e R s m args below meth c Q HR SS SZ ad xv vok nL) (.ishr, nx, a, k, sw) lv st σ b) : PX p l e R s m args below meth c Q HR SS SZ ad xv vok nL pc lv st σ b := by
  obtain ⟨hd, rfl⟩ := hdec.at 0 rfl
  dsimp only [mstep] at h
  split at h
  · intro H locs cells slots ls h1 h2 h3 h4 h5 h6 h7
    exact lv_ishr hx hb hd (h H locs cells slots ls h1 h2 h3 (vok_cons (hvi _) (vok_tl (vok_tl h4))) h5 h6 h7)
  · exact h.elim
theorem ss_iushr (hx : p.tables.exec = Jvm.exec) (hb : c.code = bs) (hxv : xvOk xv) (hvi : ∀ x, vok (.inl x)) (hvl : ∀ x, vok (.inr (.inl x))) (hdec : Dec bs pc (.iushr) nx) (h : mstep O call rt Post (PX p l e R s m args below meth c Q HR SS SZ ad xv vok nL) (.iushr, nx, a, k, sw) lv st σ b) : PX p l e R s m args below meth c Q HR SS SZ ad xv vok nL pc lv st σ b := by
  obtain ⟨hd, rfl⟩ := hdec.at 0 rfl
  dsimp only [mstep] at h
  split at h
  · intro H locs cells slots ls h1 h2 h3 h4 h5 h6 h7
    exact lv_iushr hx hb hd rfl (h H locs cells slots ls h1 h2 h3 (vok_cons (hvi _) (vok_tl (vok_tl h4))) h5 h6 h7)
  · exact h.elim
theorem ss_ineg (hx : p.tables.exec = Jvm.exec) (hb : c.code = bs) (hxv : xvOk xv) (hvi : ∀ x, vok (.inl x)) (hvl : ∀ x, vok (.inr (.inl x))) (hdec : Dec bs pc (.ineg) nx) (h : mstep O call rt Post (PX p l e R s m args below meth c Q HR SS SZ ad xv vok nL) (.ineg, nx, a, k, sw) lv st σ b) : PX p l e R s m args below meth c Q HR SS SZ ad xv vok nL pc lv st σ b := by
  obtain ⟨hd, rfl⟩ := hdec.at 0 rfl
  dsimp only [mstep] at h
  split at h
  · intro H locs cells slots ls h1 h2 h3 h4 h5 h6 h7
    exact lv_ineg hx hb hd (h H locs cells slots ls h1 h2 h3 (vok_cons (hvi _) (vok_tl h4)) h5 h6 h7)
  · exact h.elim
theorem ss_ladd (hx : p.tables.exec = Jvm.exec) (hb : c.code = bs) (hxv : xvOk xv) (hvi : ∀ x, vok (.inl x)) (hvl : ∀ x, vok (.inr (.inl x))) (hdec : Dec bs pc (.ladd) nx) (h : mstep O call rt Post (PX p l e R s m args below meth c Q HR SS SZ ad xv vok nL) (.ladd, nx, a, k, sw) lv st σ b) : PX p l e R s m args below meth c Q HR SS SZ ad xv vok nL pc lv st σ b := by
  obtain ⟨hd, rfl⟩ := hdec.at 0 rfl
  dsimp only [mstep] at h
  split at h
  · intro H locs cells slots ls h1 h2 h3 h4 h5 h6 h7
    exact lv_ladd hx hb hd (h H locs cells slots ls h1 h2 h3 (vok_cons (hvl _) (vok_tl (vok_tl h4))) h5 h6 h7)
  · exact h.elim
theorem ss_lsub (hx : p.tables.exec = Jvm.exec) (hb : c.code = bs) (hxv : xvOk xv) (hvi : ∀ x, vok (.inl x)) (hvl : ∀ x, vok (.inr (.inl x))) (hdec : Dec bs pc (.lsub) nx) (h : mstep O call rt Post (PX p l e R s m args below meth c Q HR SS SZ ad xv vok nL) (.lsub, nx, a, k, sw) lv st σ b) : PX p l e R s m args below meth c Q HR SS SZ ad xv vok nL pc lv st σ b := by
  obtain ⟨hd, rfl⟩ := hdec.at 0 rfl
  dsimp only [mstep] at h
  split at h
  · intro H locs cells slots ls h1 h2 h3 h4 h5 h6 h7
    exact lv_lsub hx hb hd (h H locs cells slots ls h1 h2 h3 (vok_cons (hvl _) (vok_tl (vok_tl h4))) h5 h6 h7)
  · exact h.elim
theorem ss_lmul (hx : p.tables.exec = Jvm.exec) (hb : c.code = bs) (hxv : xvOk xv) (hvi : ∀ x, vok (.inl x)) (hvl : ∀ x, vok (.inr (.inl x))) (hdec : Dec bs pc (.lmul) nx) (h : mstep O call rt Post (PX p l e R s m args below meth c Q HR SS SZ ad xv vok nL) (.lmul, nx, a, k, sw) lv st σ b) : PX p l e R s m args below meth c Q HR SS SZ ad xv vok nL pc lv st σ b := by
  obtain ⟨hd, rfl⟩ := hdec.at 0 rfl
  dsimp only [mstep] at h
  split at h
  · intro H locs cells slots ls h1 h2 h3 h4 h5 h6 h7
    exact lv_lmul hx hb hd (h H locs cells slots ls h1 h2 h3 (vok_cons (hvl _) (vok_tl (vok_tl h4))) h5 h6 h7)
  · exact h.elim
theorem ss_land (hx : p.tables.exec = Jvm.exec) (hb : c.code = bs) (hxv : xvOk xv) (hvi : ∀ x, vok (.inl x)) (hvl : ∀ x, vok (.inr (.inl x))) (hdec : Dec bs pc (.land) nx) (h : mstep O call rt Post (PX p l e R s m args below meth c Q HR SS SZ ad xv vok nL) (.land, nx, a, k, sw) lv st σ b) : PX p l e R s m args below meth c Q HR SS SZ ad xv vok nL pc lv st σ b := by
  obtain ⟨hd, rfl⟩ := hdec.at 0 rfl
  dsimp only [mstep] at h
  split at h
  · intro H locs cells slots ls h1 h2 h3 h4 h5 h6 h7
    exact lv_land hx hb hd (h H locs cells slots ls h1 h2 h3 (vok_cons (hvl _) (vok_tl (vok_tl h4))) h5 h6 h7)
  · exact h.elim
theorem ss_lor (hx : p.tables.exec = Jvm.exec) (hb : c.code = bs) (hxv : xvOk xv) (hvi : ∀ x, vok (.inl x)) (hvl : ∀ x, vok (.inr (.inl x))) (hdec : Dec bs pc (.lor) nx) (h : mstep O call rt Post (PX p l e R s m args below meth c Q HR SS SZ ad xv vok nL) (.lor, nx, a, k, sw) lv st σ b) : PX p l e R s m args below meth c Q HR SS SZ ad xv vok nL pc lv st σ b := by
  obtain ⟨hd, rfl⟩ := hdec.at 0 rfl
  dsimp only [mstep] at h
  split at h
  · intro H locs cells slots ls h1 h2 h3 h4 h5 h6 h7
    exact lv_lor hx hb hd (h H locs cells slots ls h1 h2 h3 (vok_cons (hvl _) (vok_tl (vok_tl h4))) h5 h6 h7)
  · exact h.elim
theorem ss_lushr (hx : p.tables.exec = Jvm.exec) (hb : c.code = bs) (hxv : xvOk xv) (hvi : ∀ x, vok (.inl x)) (hvl : ∀ x, vok (.inr (.inl x))) (hdec : Dec bs pc (.lushr) nx) (h : mstep O call rt Post (PX p l e R s m args below meth c Q HR SS SZ ad xv vok nL) (.lushr, nx, a, k, sw) lv st σ b) : PX p l e R s m args below meth c Q HR SS SZ ad xv vok nL pc lv st σ b := by
  obtain ⟨hd, rfl⟩ := hdec.at 0 rfl
  dsimp only [mstep] at h
  split at h
  · intro H locs cells slots ls h1 h2 h3 h4 h5 h6 h7
    exact lv_lushr hx hb hd rfl (h H locs cells slots ls h1 h2 h3 (vok_cons (hvl _) (vok_tl (vok_tl h4))) h5 h6 h7)
  · exact h.elim
theorem ss_lshl (hx : p.tables.exec = Jvm.exec) (hb : c.code = bs) (hxv : xvOk xv) (hvi : ∀ x, vok (.inl x)) (hvl : ∀ x, vok (.inr (.inl x))) (hdec : Dec bs pc (.lshl) nx) (h : mstep O call rt Post (PX p l e R s m args below meth c Q HR SS SZ ad xv vok nL) (.lshl, nx, a, k, sw) lv st σ b) : PX p l e R s m args below meth c Q HR SS SZ ad xv vok nL pc lv st σ b := by
  obtain ⟨hd, rfl⟩ := hdec.at 0 rfl
  dsimp only [mstep] at h
  split at h
  · intro H locs cells slots ls h1 h2 h3 h4 h5 h6 h7
    exact lv_lshl hx hb hd rfl (h H locs cells slots ls h1 h2 h3 (vok_cons (hvl _) (vok_tl (vok_tl h4))) h5 h6 h7)
  · exact h.elim
theorem ss_lcmp (hx : p.tables.exec = Jvm.exec) (hb : c.code = bs) (hxv : xvOk xv) (hvi : ∀ x, vok (.inl x)) (hvl : ∀ x, vok (.inr (.inl x))) (hdec : Dec bs pc (.lcmp) nx) (h : mstep O call rt Post (PX p l e R s m args below meth c Q HR SS SZ ad xv vok nL) (.lcmp, nx, a, k, sw) lv st σ b) : PX p l e R s m args below meth c Q HR SS SZ ad xv vok nL pc lv st σ b := by
  obtain ⟨hd, rfl⟩ := hdec.at 0 rfl
  dsimp only [mstep] at h
  split at h
  · intro H locs cells slots ls h1 h2 h3 h4 h5 h6 h7
    exact W.lcmp hx hb hd (h H locs cells slots ls h1 h2 h3 (vok_cons (hvi _) (vok_tl (vok_tl h4))) h5 h6 h7)
  · exact h.elim
theorem ss_i2l (hx : p.tables.exec = Jvm.exec) (hb : c.code = bs) (hxv : xvOk xv) (hvi : ∀ x, vok (.inl x)) (hvl : ∀ x, vok (.inr (.inl x))) (hdec : Dec bs pc (.i2l) nx) (h : mstep O call rt Post (PX p l e R s m args below meth c Q HR SS SZ ad xv vok nL) (.i2l, nx, a, k, sw) lv st σ b) : PX p l e R s m args below meth c Q HR SS SZ ad xv vok nL pc lv st σ b := by
  obtain ⟨hd, rfl⟩ := hdec.at 0 rfl
  dsimp only [mstep] at h
  split at h
  · intro H locs cells slots ls h1 h2 h3 h4 h5 h6 h7
    exact lv_i2l hx hb hd rfl (h H locs cells slots ls h1 h2 h3 (vok_cons (hvl _) (vok_tl h4)) h5 h6 h7)
  · exact h.elim
theorem ss_l2i (hx : p.tables.exec = Jvm.exec) (hb : c.code = bs) (hxv : xvOk xv) (hvi : ∀ x, vok (.inl x)) (hvl : ∀ x, vok (.inr (.inl x))) (hdec : Dec bs pc (.l2i) nx) (h : mstep O call rt Post (PX p l e R s m args below meth c Q HR SS SZ ad xv vok nL) (.l2i, nx, a, k, sw) lv st σ b) : PX p l e R s m args below meth c Q HR SS SZ ad xv vok nL pc lv st σ b := by
  obtain ⟨hd, rfl⟩ := hdec.at 0 rfl
  dsimp only [mstep] at h
  split at h
  · intro H locs cells slots ls h1 h2 h3 h4 h5 h6 h7
    exact lv_l2i hx hb hd rfl (h H locs cells slots ls h1 h2 h3 (vok_cons (hvi _) (vok_tl h4)) h5 h6 h7)
  · exact h.elim
theorem ss_i2c (hx : p.tables.exec = Jvm.exec) (hb : c.code = bs) (hxv : xvOk xv) (hvi : ∀ x, vok (.inl x)) (hvl : ∀ x, vok (.inr (.inl x))) (hdec : Dec bs pc (.i2c) nx) (h : mstep O call rt Post (PX p l e R s m args below meth c Q HR SS SZ ad xv vok nL) (.i2c, nx, a, k, sw) lv st σ b) : PX p l e R s m args below meth c Q HR SS SZ ad xv vok nL pc lv st σ b := by
  obtain ⟨hd, rfl⟩ := hdec.at 0 rfl
  dsimp only [mstep] at h
  split at h
  · intro H locs cells slots ls h1 h2 h3 h4 h5 h6 h7
    exact lv_i2c hx hb hd rfl (h H locs cells slots ls h1 h2 h3 (vok_cons (hvi _) (vok_tl h4)) h5 h6 h7)
  · exact h.elim
theorem ss_i2b (hx : p.tables.exec = Jvm.exec) (hb : c.code = bs) (hxv : xvOk xv) (hvi : ∀ x, vok (.inl x)) (hvl : ∀ x, vok (.inr (.inl x))) (hdec : Dec bs pc (.i2b) nx) (h : mstep O call rt Post (PX p l e R s m args below meth c Q HR SS SZ ad xv vok nL) (.i2b, nx, a, k, sw) lv st σ b) : PX p l e R s m args below meth c Q HR SS SZ ad xv vok nL pc lv st σ b := by
  obtain ⟨hd, rfl⟩ := hdec.at 0 rfl
  dsimp only [mstep] at h
  split at h
  · intro H locs cells slots ls h1 h2 h3 h4 h5 h6 h7
    exact lv_i2b hx hb hd rfl (h H locs cells slots ls h1 h2 h3 (vok_cons (hvi _) (vok_tl h4)) h5 h6 h7)
  · exact h.elim
theorem ss_idiv (hx : p.tables.exec = Jvm.exec) (hb : c.code = bs) (hxv : xvOk xv) (hvi : ∀ x, vok (.inl x)) (hvl : ∀ x, vok (.inr (.inl x))) (hdec : Dec bs pc (.idiv) nx) (h : mstep O call rt Post (PX p l e R s m args below meth c Q HR SS SZ ad xv vok nL) (.idiv, nx, a, k, sw) lv st σ b) : PX p l e R s m args below meth c Q HR SS SZ ad xv vok nL pc lv st σ b := by
  obtain ⟨hd, rfl⟩ := hdec.at 0 rfl
  dsimp only [mstep] at h
  split at h
  · intro H locs cells slots ls h1 h2 h3 h4 h5 h6 h7
    exact lv_idiv hx hb hd h.1 (h.2 H locs cells slots ls h1 h2 h3 (vok_cons (hvi _) (vok_tl (vok_tl h4))) h5 h6 h7)
  · exact h.elim
theorem ss_irem (hx : p.tables.exec = Jvm.exec) (hb : c.code = bs) (hxv : xvOk xv) (hvi : ∀ x, vok (.inl x)) (hvl : ∀ x, vok (.inr (.inl x))) (hdec : Dec bs pc (.irem) nx) (h : mstep O call rt Post (PX p l e R s m args below meth c Q HR SS SZ ad xv vok nL) (.irem, nx, a, k, sw) lv st σ b) : PX p l e R s m args below meth c Q HR SS SZ ad xv vok nL pc lv st σ b := by
  obtain ⟨hd, rfl⟩ := hdec.at 0 rfl
  dsimp only [mstep] at h
  split at h
  · intro H locs cells slots ls h1 h2 h3 h4 h5 h6 h7
    exact lv_irem hx hb hd h.1 (h.2 H locs cells slots ls h1 h2 h3 (vok_cons (hvi _) (vok_tl (vok_tl h4))) h5 h6 h7)
  · exact h.elim
theorem ss_ldiv (hx : p.tables.exec = Jvm.exec) (hb : c.code = bs) (hxv : xvOk xv) (hvi : ∀ x, vok (.inl x)) (hvl : ∀ x, vok (.inr (.inl x))) (hdec : Dec bs pc (.ldiv) nx) (h : mstep O call rt Post (PX p l e R s m args below meth c Q HR SS SZ ad xv vok nL) (.ldiv, nx, a, k, sw) lv st σ b) : PX p l e R s m args below meth c Q HR SS SZ ad xv vok nL pc lv st σ b := by
  obtain ⟨hd, rfl⟩ := hdec.at 0 rfl
  dsimp only [mstep] at h
  split at h
  · intro H locs cells slots ls h1 h2 h3 h4 h5 h6 h7
    exact lv_ldiv hx hb hd h.1 (h.2 H locs cells slots ls h1 h2 h3 (vok_cons (hvl _) (vok_tl (vok_tl h4))) h5 h6 h7)
  · exact h.elim
theorem ss_lrem (hx : p.tables.exec = Jvm.exec) (hb : c.code = bs) (hxv : xvOk xv) (hvi : ∀ x, vok (.inl x)) (hvl : ∀ x, vok (.inr (.inl x))) (hdec : Dec bs pc (.lrem) nx) (h : mstep O call rt Post (PX p l e R s m args below meth c Q HR SS SZ ad xv vok nL) (.lrem, nx, a, k, sw) lv st σ b) : PX p l e R s m args below meth c Q HR SS SZ ad xv vok nL pc lv st σ b := by
  obtain ⟨hd, rfl⟩ := hdec.at 0 rfl
  dsimp only [mstep] at h
  split at h
  · intro H locs cells slots ls h1 h2 h3 h4 h5 h6 h7
    exact lv_lrem hx hb hd h.1 (h.2 H locs cells slots ls h1 h2 h3 (vok_cons (hvl _) (vok_tl (vok_tl h4))) h5 h6 h7)
  · exact h.elim
theorem ss_dup (hx : p.tables.exec = Jvm.exec) (hb : c.code = bs) (hxv : xvOk xv) (hvi : ∀ x, vok (.inl x)) (hvl : ∀ x, vok (.inr (.inl x))) (hdec : Dec bs pc (.dup) nx) (h : mstep O call rt Post (PX p l e R s m args below meth c Q HR SS SZ ad xv vok nL) (.dup, nx, a, k, sw) lv st σ b) : PX p l e R s m args below meth c Q HR SS SZ ad xv vok nL pc lv st σ b := by
  obtain ⟨hd, rfl⟩ := hdec.at 0 rfl
  dsimp only [mstep] at h
  split at h
  · rename_i v st'
    cases hc : Nat.beq (mcat v) 1 with
    | false => rw [hc] at h; exact h.elim
    | true =>
      rw [hc] at h
      intro H locs cells slots ls h1 h2 h3 h4 h5 h6 h7
      exact lv_dup hx hb hd (by rw [em_cat hxv]; exact Nat.eq_of_beq_eq_true hc) (h H locs cells slots ls h1 h2 h3 (vok_cons (vok_hd h4) h4) h5 h6 h7)
  · exact h.elim
theorem ss_pop (hx : p.tables.exec = Jvm.exec) (hb : c.code = bs) (hxv : xvOk xv) (hvi : ∀ x, vok (.inl x)) (hvl : ∀ x, vok (.inr (.inl x))) (hdec : Dec bs pc (.pop) nx) (h : mstep O call rt Post (PX p l e R s m args below meth c Q HR SS SZ ad xv vok nL) (.pop, nx, a, k, sw) lv st σ b) : PX p l e R s m args below meth c Q HR SS SZ ad xv vok nL pc lv st σ b := by
  obtain ⟨hd, rfl⟩ := hdec.at 0 rfl
  dsimp only [mstep] at h
  split at h
  · rename_i v st'
    cases hc : Nat.beq (mcat v) 1 with
    | false => rw [hc] at h; exact h.elim
    | true =>
      rw [hc] at h
      intro H locs cells slots ls h1 h2 h3 h4 h5 h6 h7
      exact lv_pop hx hb hd (by rw [em_cat hxv]; exact Nat.eq_of_beq_eq_true hc) (h H locs cells slots ls h1 h2 h3 (vok_tl h4) h5 h6 h7)
  · exact h.elim
theorem ss_dup2 (hx : p.tables.exec = Jvm.exec) (hb : c.code = bs) (hxv : xvOk xv) (hvi : ∀ x, vok (.inl x)) (hvl : ∀ x, vok (.inr (.inl x))) (hdec : Dec bs pc (.dup2) nx) (h : mstep O call rt Post (PX p l e R s m args below meth c Q HR SS SZ ad xv vok nL) (.dup2, nx, a, k, sw) lv st σ b) : PX p l e R s m args below meth c Q HR SS SZ ad xv vok nL pc lv st σ b := by
  obtain ⟨hd, rfl⟩ := hdec.at 0 rfl
  dsimp only [mstep] at h
  split at h
  · rename_i v w st'
    cases hc : Nat.beq (mcat v) 1 && Nat.beq (mcat w) 1 with
    | true =>
      rw [hc] at h
      obtain ⟨hc1, hc2⟩ := Bool.and_eq_true_iff.mp hc
      intro H locs cells slots ls h1 h2 h3 h4 h5 h6 h7
      exact lv_dup2_11 hx hb hd (by rw [em_cat hxv]; exact Nat.eq_of_beq_eq_true hc1) (by rw [em_cat hxv]; exact Nat.eq_of_beq_eq_true hc2) (h H locs cells slots ls h1 h2 h3 (vok_cons (vok_hd h4) (vok_cons (vok_hd (vok_tl h4)) h4)) h5 h6 h7)
    | false =>
      rw [hc] at h
      cases hc2 : Nat.beq (mcat v) 2 with
      | false => rw [hc2] at h; exact h.elim
      | true =>
        rw [hc2] at h
        intro H locs cells slots ls h1 h2 h3 h4 h5 h6 h7
        exact lv_dup2_2 hx hb hd (by rw [em_cat hxv]; exact Nat.eq_of_beq_eq_true hc2) (h H locs cells slots ls h1 h2 h3 (vok_cons (vok_hd h4) h4) h5 h6 h7)
  · exact h.elim
theorem ss_iinc (hx : p.tables.exec = Jvm.exec) (hb : c.code = bs) (hxv : xvOk xv) (hvi : ∀ x, vok (.inl x)) (hvl : ∀ x, vok (.inr (.inl x))) {n : Nat} {i : Int} (hdec : Dec bs pc (.iinc n i) nx) (h : mstep O call rt Post (PX p l e R s m args below meth c Q HR SS SZ ad xv vok nL) (.iinc n i, nx, a, k, sw) lv st σ b) : PX p l e R s m args below meth c Q HR SS SZ ad xv vok nL pc lv st σ b := by
  obtain ⟨hd, rfl⟩ := hdec.at 2 rfl
  dsimp only [mstep] at h
  split at h
  · rename_i x hv
    cases hc : mfree lv n with
    | false => rw [hc] at h; exact h.elim
    | true =>
      rw [hc] at h
      intro H locs cells slots ls h1 h2 h3 h4 h5 h6 h7
      have hlt : n < nL := by have := mlg_lt hv; have := h3.2.1; omega
      obtain ⟨j, hj⟩ := List.getElem?_of_mem (LVl_mem (ad := ad) (xv := xv) (q := (n, .int x)) |>.mpr ⟨hlt, _, hv, rfl⟩)
      exact lv_iinc hx hb hd h3.1 hj rfl hlt rfl fun ls' h' => h H locs cells slots ls' h1 h2 (h3.set1 hxv hc (hvi _) h') h4 h5 h6 h7
  · exact h.elim
theorem ss_goto (hx : p.tables.exec = Jvm.exec) (hb : c.code = bs) (hxv : xvOk xv) (hvi : ∀ x, vok (.inl x)) (hvl : ∀ x, vok (.inr (.inl x))) {o : Int} (hdec : Dec bs pc (.goto o) nx) (ht : (pc : Int) + o = (a : Int)) (h : mstep O call rt Post (PX p l e R s m args below meth c Q HR SS SZ ad xv vok nL) (.goto o, nx, a, k, sw) lv st σ b) : PX p l e R s m args below meth c Q HR SS SZ ad xv vok nL pc lv st σ b := by
  obtain ⟨hd, rfl⟩ := hdec.at 2 rfl
  intro H locs cells slots ls h1 h2 h3 h4 h5 h6 h7
  exact lv_goto hx hb hd ht (h H locs cells slots ls h1 h2 h3 h4 h5 h6 h7)
theorem ss_ifCond (hx : p.tables.exec = Jvm.exec) (hb : c.code = bs) (hxv : xvOk xv) (hvi : ∀ x, vok (.inl x)) (hvl : ∀ x, vok (.inr (.inl x))) {cn : ClassFile.Cond} {o : Int} (hdec : Dec bs pc (.ifCond cn o) nx) (ht : (pc : Int) + o = (a : Int)) (h : mstep O call rt Post (PX p l e R s m args below meth c Q HR SS SZ ad xv vok nL) (.ifCond cn o, nx, a, k, sw) lv st σ b) : PX p l e R s m args below meth c Q HR SS SZ ad xv vok nL pc lv st σ b := by
  obtain ⟨hd, rfl⟩ := hdec.at 2 rfl
  dsimp only [mstep] at h
  split at h
  · intro H locs cells slots ls h1 h2 h3 h4 h5 h6 h7
    exact lv_if_eq hx hb hd ht (fun q => h.1 q H locs cells slots ls h1 h2 h3 (vok_tl h4) h5 h6 h7) (fun q => h.2 q H locs cells slots ls h1 h2 h3 (vok_tl h4) h5 h6 h7)
  · intro H locs cells slots ls h1 h2 h3 h4 h5 h6 h7
    exact lv_if_ne hx hb hd ht (fun q => h.1 q H locs cells slots ls h1 h2 h3 (vok_tl h4) h5 h6 h7) (fun q => h.2 q H locs cells slots ls h1 h2 h3 (vok_tl h4) h5 h6 h7)
  · intro H locs cells slots ls h1 h2 h3 h4 h5 h6 h7
    exact lv_if_lt hx hb hd ht (fun q => h.1 q H locs cells slots ls h1 h2 h3 (vok_tl h4) h5 h6 h7) (fun q => h.2 q H locs cells slots ls h1 h2 h3 (vok_tl h4) h5 h6 h7)
  · intro H locs cells slots ls h1 h2 h3 h4 h5 h6 h7
    exact lv_if_ge hx hb hd ht (fun q => h.1 q H locs cells slots ls h1 h2 h3 (vok_tl h4) h5 h6 h7) (fun q => h.2 q H locs cells slots ls h1 h2 h3 (vok_tl h4) h5 h6 h7)
  · intro H locs cells slots ls h1 h2 h3 h4 h5 h6 h7
    exact lv_if_gt hx hb hd ht (fun q => h.1 q H locs cells slots ls h1 h2 h3 (vok_tl h4) h5 h6 h7) (fun q => h.2 q H locs cells slots ls h1 h2 h3 (vok_tl h4) h5 h6 h7)
  · intro H locs cells slots ls h1 h2 h3 h4 h5 h6 h7
    exact lv_if_le hx hb hd ht (fun q => h.1 q H locs cells slots ls h1 h2 h3 (vok_tl h4) h5 h6 h7) (fun q => h.2 q H locs cells slots ls h1 h2 h3 (vok_tl h4) h5 h6 h7)
  · exact h.elim
theorem ss_if_icmp (hx : p.tables.exec = Jvm.exec) (hb : c.code = bs) (hxv : xvOk xv) (hvi : ∀ x, vok (.inl x)) (hvl : ∀ x, vok (.inr (.inl x))) {cn : ClassFile.Cond} {o : Int} (hdec : Dec bs pc (.if_icmp cn o) nx) (ht : (pc : Int) + o = (a : Int)) (h : mstep O call rt Post (PX p l e R s m args below meth c Q HR SS SZ ad xv vok nL) (.if_icmp cn o, nx, a, k, sw) lv st σ b) : PX p l e R s m args below meth c Q HR SS SZ ad xv vok nL pc lv st σ b := by
  obtain ⟨hd, rfl⟩ := hdec.at 2 rfl
  dsimp only [mstep] at h
  split at h
  · intro H locs cells slots ls h1 h2 h3 h4 h5 h6 h7
    exact lv_icmp_eq hx hb hd ht (fun q => h.1 q H locs cells slots ls h1 h2 h3 (vok_tl (vok_tl h4)) h5 h6 h7) (fun q => h.2 q H locs cells slots ls h1 h2 h3 (vok_tl (vok_tl h4)) h5 h6 h7)
  · intro H locs cells slots ls h1 h2 h3 h4 h5 h6 h7
    exact lv_icmp_ne hx hb hd ht (fun q => h.1 q H locs cells slots ls h1 h2 h3 (vok_tl (vok_tl h4)) h5 h6 h7) (fun q => h.2 q H locs cells slots ls h1 h2 h3 (vok_tl (vok_tl h4)) h5 h6 h7)
  · intro H locs cells slots ls h1 h2 h3 h4 h5 h6 h7
    exact lv_icmp_lt hx hb hd ht (fun q => h.1 q H locs cells slots ls h1 h2 h3 (vok_tl (vok_tl h4)) h5 h6 h7) (fun q => h.2 q H locs cells slots ls h1 h2 h3 (vok_tl (vok_tl h4)) h5 h6 h7)
  · intro H locs cells slots ls h1 h2 h3 h4 h5 h6 h7
    exact lv_icmp_ge hx hb hd ht (fun q => h.1 q H locs cells slots ls h1 h2 h3 (vok_tl (vok_tl h4)) h5 h6 h7) (fun q => h.2 q H locs cells slots ls h1 h2 h3 (vok_tl (vok_tl h4)) h5 h6 h7)
  · intro H locs cells slots ls h1 h2 h3 h4 h5 h6 h7
    exact lv_icmp_gt hx hb hd ht (fun q => h.1 q H locs cells slots ls h1 h2 h3 (vok_tl (vok_tl h4)) h5 h6 h7) (fun q => h.2 q H locs cells slots ls h1 h2 h3 (vok_tl (vok_tl h4)) h5 h6 h7)
  · intro H locs cells slots ls h1 h2 h3 h4 h5 h6 h7
    exact lv_icmp_le hx hb hd ht (fun q => h.1 q H locs cells slots ls h1 h2 h3 (vok_tl (vok_tl h4)) h5 h6 h7) (fun q => h.2 q H locs cells slots ls h1 h2 h3 (vok_tl (vok_tl h4)) h5 h6 h7)
  · exact h.elim
theorem ss_ifnonnull (hx : p.tables.exec = Jvm.exec) (hb : c.code = bs) (hxv : xvOk xv) (hvi : ∀ x, vok (.inl x)) (hvl : ∀ x, vok (.inr (.inl x))) {o : Int} (hdec : Dec bs pc (.ifnonnull o) nx) (ht : (pc : Int) + o = (a : Int)) (h : mstep O call rt Post (PX p l e R s m args below meth c Q HR SS SZ ad xv vok nL) (.ifnonnull o, nx, a, k, sw) lv st σ b) : PX p l e R s m args below meth c Q HR SS SZ ad xv vok nL pc lv st σ b := by
  obtain ⟨hd, rfl⟩ := hdec.at 2 rfl
  dsimp only [mstep] at h
  split at h
  · rename_i r st'
    obtain ⟨g1, g2, g3⟩ := h
    intro H locs cells slots ls h1 h2 h3 h4 h5 h6 h7
    by_cases hr : r.1 = 0
    · obtain ⟨r1, r2⟩ := r
      cases hr
      exact lv_ifnonnullN hx hb hd (g3 rfl H locs cells slots ls h1 h2 h3 (vok_tl h4) h5 h6 h7)
    · have he : er ad xv r = .ref (ad r) := er_ref (by omega)
      show W p l e R s m args below meth c H locs cells slots Q (F0 m pc ls (er ad xv r :: st'.map (em ad xv)))
      rw [he]
      exact lv_ifnonnull hx hb hd ht (g2 hr H locs cells slots ls h1 h2 h3 (vok_tl h4) h5 h6 h7)
  · exact h.elim
theorem ss_tableswitch (hx : p.tables.exec = Jvm.exec) (hb : c.code = bs) (hxv : xvOk xv) (hvi : ∀ x, vok (.inl x)) (hvl : ∀ x, vok (.inr (.inl x))) {d lo hi : Int} {offs : Array Int} (hdec : Dec bs pc (.tableswitch d lo hi offs) nx) (ht : (pc : Int) + d = (a : Int)) (hin : ∀ q ∈ sw, lo ≤ q.1 ∧ q.1 ≤ hi ∧ offs[(q.1 - lo).toNat]? = some ((q.2 : Int) - pc) ∧ (Int32.ofInt q.1).toInt = q.1) (hall : ∀ v : Int, lo ≤ v → v ≤ hi → ∃ q ∈ sw, q.1 = v) (h : mstep O call rt Post (PX p l e R s m args below meth c Q HR SS SZ ad xv vok nL) (.tableswitch d lo hi offs, nx, a, k, sw) lv st σ b) : PX p l e R s m args below meth c Q HR SS SZ ad xv vok nL pc lv st σ b := by
  obtain ⟨hd, hnx, -⟩ := hdec
  dsimp only [mstep] at h
  split at h
  · rename_i x st'
    intro H locs cells slots ls h1 h2 h3 h4 h5 h6 h7
    rcases msw_out h with ⟨q, q1, q2, q3⟩ | ⟨q3, q4⟩
    · obtain ⟨w1, w2, w3, w4⟩ := hin q q1
      have hxi : x.toInt = q.1 := by rw [q2]; exact w4
      exact lv_tableIn hx hb hd (by rw [hxi]; omega) (by rw [hxi]; omega) (by rw [hxi]; exact w3) (by omega) (q3 H locs cells slots ls h1 h2 h3 (vok_tl h4) h5 h6 h7)
    · refine lv_tableOut hx hb hd ?_ ht (q3 H locs cells slots ls h1 h2 h3 (vok_tl h4) h5 h6 h7)
      by_cases g7 : x.toInt < lo
      · exact Or.inl g7
      · by_cases g8 : hi < x.toInt
        · exact Or.inr g8
        · obtain ⟨q, q1, q2⟩ := hall x.toInt (by omega) (by omega)
          exact absurd (by rw [q2]; exact (Int32.ofInt_toInt x).symm) (q4 q q1)
  · exact h.elim
theorem ss_lookupswitch (hx : p.tables.exec = Jvm.exec) (hb : c.code = bs) (hxv : xvOk xv) (hvi : ∀ x, vok (.inl x)) (hvl : ∀ x, vok (.inr (.inl x))) {d : Int} {ps : Array (Int × Int)} (hdec : Dec bs pc (.lookupswitch d ps) nx) (ht : (pc : Int) + d = (a : Int)) (hsrt : (ps.toList.zip (ps.toList.drop 1)).all (fun (a, next) => a.1 < next.1) = true) (hin : ∀ q ∈ sw, Op.lookupswitch.offset ps.toList d q.1 = (q.2 : Int) - pc ∧ (Int32.ofInt q.1).toInt = q.1) (hall : ∀ v : Int, (∀ q ∈ sw, ¬ q.1 = v) → Op.lookupswitch.offset ps.toList d v = d) (h : mstep O call rt Post (PX p l e R s m args below meth c Q HR SS SZ ad xv vok nL) (.lookupswitch d ps, nx, a, k, sw) lv st σ b) : PX p l e R s m args below meth c Q HR SS SZ ad xv vok nL pc lv st σ b := by
  obtain ⟨hd, hnx, -⟩ := hdec
  dsimp only [mstep] at h
  split at h
  · rename_i x st'
    intro H locs cells slots ls h1 h2 h3 h4 h5 h6 h7
    rcases msw_out h with ⟨q, q1, q2, q3⟩ | ⟨q3, q4⟩
    · obtain ⟨w1, w2⟩ := hin q q1
      have hxi : x.toInt = q.1 := by rw [q2]; exact w2
      exact lv_lookup (off := (q.2 : Int) - pc) hx hb hd hsrt (by rw [hxi]; exact w1) (by omega) (q3 H locs cells slots ls h1 h2 h3 (vok_tl h4) h5 h6 h7)
    · refine lv_lookup hx hb hd hsrt (hall x.toInt fun q q1 q2 => q4 q q1 (by rw [q2]; exact (Int32.ofInt_toInt x).symm)) ht (q3 H locs cells slots ls h1 h2 h3 (vok_tl h4) h5 h6 h7)
  · exact h.elim
theorem ss_ldcI (hx : p.tables.exec = Jvm.exec) (hb : c.code = bs) (hxv : xvOk xv) (hvi : ∀ x, vok (.inl x)) (hvl : ∀ x, vok (.inr (.inl x))) {i : Nat} {own : String} {q : Int × Nat} {sw2 : List (Int × Nat)} (hdec : Dec bs pc (.ldc i) nx) (hown : s.vm.findClass own = some m.cls) (hsw : sw = q :: sw2) (hw : (Jvm.Cond.constant own i (Int32.ofInt q.1)).before args s = true) (h : mstep O call rt Post (PX p l e R s m args below meth c Q HR SS SZ ad xv vok nL) (.ldc i, nx, a, k, sw) lv st σ b) : PX p l e R s m args below meth c Q HR SS SZ ad xv vok nL pc lv st σ b := by
  subst hsw
  obtain ⟨hd, rfl⟩ := hdec.at 1 rfl
  intro H locs cells slots ls h1 h2 h3 h4 h5 h6 h7
  exact lv_ldc hx hb hown hw hd (h H locs cells slots ls h1 h2 h3 (vok_cons (hvi _) h4) h5 h6 h7)
theorem ss_ldcwI (hx : p.tables.exec = Jvm.exec) (hb : c.code = bs) (hxv : xvOk xv) (hvi : ∀ x, vok (.inl x)) (hvl : ∀ x, vok (.inr (.inl x))) {i : Nat} {own : String} {q : Int × Nat} {sw2 : List (Int × Nat)} (hdec : Dec bs pc (.ldc_w i) nx) (hown : s.vm.findClass own = some m.cls) (hsw : sw = q :: sw2) (hw : (Jvm.Cond.constant own i (Int32.ofInt q.1)).before args s = true) (h : mstep O call rt Post (PX p l e R s m args below meth c Q HR SS SZ ad xv vok nL) (.ldc_w i, nx, a, k, sw) lv st σ b) : PX p l e R s m args below meth c Q HR SS SZ ad xv vok nL pc lv st σ b := by
  subst hsw
  obtain ⟨hd, rfl⟩ := hdec.at 2 rfl
  intro H locs cells slots ls h1 h2 h3 h4 h5 h6 h7
  exact lv_ldcw hx hb hown hw hd (h H locs cells slots ls h1 h2 h3 (vok_cons (hvi _) h4) h5 h6 h7)
theorem ss_ldc2L (hx : p.tables.exec = Jvm.exec) (hb : c.code = bs) (hxv : xvOk xv) (hvi : ∀ x, vok (.inl x)) (hvl : ∀ x, vok (.inr (.inl x))) {i : Nat} {own : String} {q : Int × Nat} {sw2 : List (Int × Nat)} (hdec : Dec bs pc (.ldc2_w i) nx) (hown : s.vm.findClass own = some m.cls) (hsw : sw = q :: sw2) (hw : (Jvm.Cond.constantLong own i (Int64.ofInt q.1)).before args s = true) (h : mstep O call rt Post (PX p l e R s m args below meth c Q HR SS SZ ad xv vok nL) (.ldc2_w i, nx, a, k, sw) lv st σ b) : PX p l e R s m args below meth c Q HR SS SZ ad xv vok nL pc lv st σ b := by
  subst hsw
  obtain ⟨hd, rfl⟩ := hdec.at 2 rfl
  intro H locs cells slots ls h1 h2 h3 h4 h5 h6 h7
  exact lv_ldc2 hx hb hown hw hd (h H locs cells slots ls h1 h2 h3 (vok_cons (hvl _) h4) h5 h6 h7)
end SNB
