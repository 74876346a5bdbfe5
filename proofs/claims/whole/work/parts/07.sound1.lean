/-! ===== one step of the small machine is steps of the machine: all that touches no heap ===== -/
def ilen : Instr → Nat
  | .iload _ | .lload _ | .aload _ | .istore _ | .lstore _ | .astore _ | .bipush _ | .ldc _ | .newarray _ => 2
  | .sipush _ | .ldc_w _ | .ldc2_w _ | .iinc _ _ | .ifCond _ _ | .if_icmp _ _ | .ifnonnull _ | .goto _ | .getfield _ | .putfield _ | .getstatic _ | .invokevirtual _ | .invokespecial _ | .invokestatic _ | .new _ | .anewarray _ => 3
  | .tableswitch _ _ _ _ | .lookupswitch _ _ => 0
  | _ => 1
def Dec (bs : ByteArray) (pc : Nat) (ins : Instr) (nx : Nat) : Prop := decode bs pc = .ok (ins, nx - pc) ∧ nx = pc + (nx - pc) ∧ (ilen ins = 0 ∨ nx = pc + ilen ins)
theorem Dec.at {bs : ByteArray} {pc nx : Nat} {ins : Instr} (h : Dec bs pc ins nx) (n : Nat) (hn : ilen ins = n + 1) : decode bs pc = .ok (ins, n + 1) ∧ nx = pc + (n + 1) := by
  obtain ⟨h1, -, h3⟩ := h
  rcases h3 with h3 | h3
  · omega
  · rw [hn] at h3
    subst h3
    rw [Nat.add_sub_cancel_left] at h1
    exact ⟨h1, rfl⟩
/-- K of the small machine, said of the machine: from every such frame and heap it comes to Q -/
def PW {S : Type} (Wf : Heap → List Loc → Nat → Nat → JFrame → Prop) (m : MethodId) (R : Room) (HR : S → Heap → Prop) (SS : Heap → List Loc → Prop) (SZ : S → Nat → Prop) (ad : Nat × Nat → Nat) (xv : Value) (vok : MV → Prop) (nL : Nat) : MK S := fun pc lv st σ b =>
  ∀ (H : Heap) (locs : List Loc) (cells slots : Nat) (ls : Array Slot), HR σ H → SS H locs → LVr ad xv vok nL ls lv → (∀ v ∈ st, vok v) → SZ σ cells → cells + b.1 = R.cells → slots + b.2 ≤ R.slots → Wf H locs cells slots (F0 m pc ls (st.map (em ad xv)))
theorem vok_tl {vok : MV → Prop} {v : MV} {st : List MV} (h : ∀ w ∈ v :: st, vok w) : ∀ w ∈ st, vok w := fun w q => h w (List.mem_cons_of_mem _ q)
theorem vok_hd {vok : MV → Prop} {v : MV} {st : List MV} (h : ∀ w ∈ v :: st, vok w) : vok v := h v List.mem_cons_self
theorem vok_cons {vok : MV → Prop} {v : MV} {st : List MV} (h0 : vok v) (h : ∀ w ∈ st, vok w) : ∀ w ∈ v :: st, vok w := fun w q => (List.mem_cons.mp q).elim (fun e => e ▸ h0) (h w)
section SNA
variable {p : Program} {l : Launch} {e : Env} {R : Room} {s : State} {m : MethodId} {args : Array Value} {below : List Frame} {meth : Method} {c : Code} {Q : State → Prop} {S : Type} {HR : S → Heap → Prop} {SS : Heap → List Loc → Prop} {SZ : S → Nat → Prop} {ad : Nat × Nat → Nat} {xv : Value} {vok : MV → Prop} {nL : Nat} {bs : ByteArray} {pc nx : Nat} {lv : ML} {st : List MV} {σ : S} {b : Nat × Nat}
abbrev WF (p : Program) (l : Launch) (e : Env) (R : Room) (s : State) (m : MethodId) (args : Array Value) (below : List Frame) (meth : Method) (c : Code) (Q : State → Prop) : Heap → List Loc → Nat → Nat → JFrame → Prop := fun H locs cells slots g => W p l e R s m args below meth c H locs cells slots Q g
theorem lq_aload_n {H : Heap} {locs : List Loc} {cells slots : Nat} {ls : Array Slot} {rest : List Value} (hx : p.tables.exec = Jvm.exec) (hb : c.code = bs) {k : Fin 4} {i : Nat} {v : Value} (hv : v = .null ∨ ∃ t : Nat, v = .ref t) (hdg : decode bs pc = .ok (.aload_n k, 1)) (hi : (k : Nat) = i) (hl : ls[i]? = some (.val v))
    (kk : W p l e R s m args below meth c H locs cells slots Q (F0 m (pc + 1) ls (v :: rest))) : W p l e R s m args below meth c H locs cells slots Q (F0 m pc ls rest) := by
  rcases hv with rfl | ⟨t, rfl⟩
  · subst hi
    intro T hT X
    obtain ⟨t, a, b⟩ := kk T hT X
    refine ⟨t, ?_, b⟩
    jvm_step X.here [X.here.top, hx, hb, hdg, hl, Value.isRef]
    exact a
  · exact lv_aload_n hx hb hdg hi hl kk
theorem lq_aload {H : Heap} {locs : List Loc} {cells slots : Nat} {ls : Array Slot} {rest : List Value} (hx : p.tables.exec = Jvm.exec) (hb : c.code = bs) {i : Nat} {v : Value} (hv : v = .null ∨ ∃ t : Nat, v = .ref t) (hdg : decode bs pc = .ok (.aload i, 2)) (hl : ls[i]? = some (.val v))
    (kk : W p l e R s m args below meth c H locs cells slots Q (F0 m (pc + 2) ls (v :: rest))) : W p l e R s m args below meth c H locs cells slots Q (F0 m pc ls rest) := by
  rcases hv with rfl | ⟨t, rfl⟩
  · intro T hT X
    obtain ⟨t, a, b⟩ := kk T hT X
    refine ⟨t, ?_, b⟩
    jvm_step X.here [X.here.top, hx, hb, hdg, hl, Value.isRef]
    exact a
  · exact lv_aload hx hb hdg hl kk
abbrev PX (p : Program) (l : Launch) (e : Env) (R : Room) (s : State) (m : MethodId) (args : Array Value) (below : List Frame) (meth : Method) (c : Code) (Q : State → Prop) {S : Type} (HR : S → Heap → Prop) (SS : Heap → List Loc → Prop) (SZ : S → Nat → Prop) (ad : Nat × Nat → Nat) (xv : Value) (vok : MV → Prop) (nL : Nat) : MK S := PW (WF p l e R s m args below meth c Q) m R HR SS SZ ad xv vok nL
/-- a load, by the row of its kind -/
theorem so_load {n ty : Nat} (h : mload (fun st => PX p l e R s m args below meth c Q HR SS SZ ad xv vok nL nx lv st σ b) st lv n ty)
    (hI : ty = 0 → ∀ H locs cells slots (ls : Array Slot) (rest : List Value) (x : Int32), ls[n]? = some (.val (.int x)) → W p l e R s m args below meth c H locs cells slots Q (F0 m nx ls (.int x :: rest)) → W p l e R s m args below meth c H locs cells slots Q (F0 m pc ls rest))
    (hL : ty = 1 → ∀ H locs cells slots (ls : Array Slot) (rest : List Value) (x : Int64), ls[n]? = some (.val (.long x)) → W p l e R s m args below meth c H locs cells slots Q (F0 m nx ls (.long x :: rest)) → W p l e R s m args below meth c H locs cells slots Q (F0 m pc ls rest))
    (hA : ty = 2 → ∀ H locs cells slots (ls : Array Slot) (rest : List Value) (r : Nat × Nat), ls[n]? = some (.val (er ad xv r)) → W p l e R s m args below meth c H locs cells slots Q (F0 m nx ls (er ad xv r :: rest)) → W p l e R s m args below meth c H locs cells slots Q (F0 m pc ls rest)) :
    PX p l e R s m args below meth c Q HR SS SZ ad xv vok nL pc lv st σ b := by
  intro H locs cells slots ls h1 h2 h3 h4 h5 h6 h7
  unfold mload at h
  split at h
  · rename_i x hv
    exact hI rfl _ _ _ _ _ _ x (h3.get hv) (h H locs cells slots ls h1 h2 h3 (vok_cons (h3.2.2 _ _ hv) h4) h5 h6 h7)
  · rename_i x hv
    exact hL rfl _ _ _ _ _ _ x (h3.get hv) (h H locs cells slots ls h1 h2 h3 (vok_cons (h3.2.2 _ _ hv) h4) h5 h6 h7)
  · rename_i r hv
    exact hA rfl _ _ _ _ _ _ r (h3.get hv) (h H locs cells slots ls h1 h2 h3 (vok_cons (h3.2.2 _ _ hv) h4) h5 h6 h7)
  · exact h.elim
theorem so_store {n ty : Nat} (hxv : xvOk xv) (h : mstore (fun lv st => PX p l e R s m args below meth c Q HR SS SZ ad xv vok nL nx lv st σ b) lv n ty st)
    (hI : ty = 0 → ∀ H locs cells slots (ls : Array Slot) (rest : List Value) (x : Int32) (l1 l2 : List (Nat × Value)), lv_has ls nL l1 → n < nL → (n, Value.int x) :: l1.filter (fun q => !(q.1 == n) && !(q.1 + 1 == n && q.2.category == 2)) = l2 → (∀ ls' : Array Slot, lv_has ls' nL l2 → W p l e R s m args below meth c H locs cells slots Q (F0 m nx ls' rest)) → W p l e R s m args below meth c H locs cells slots Q (F0 m pc ls (.int x :: rest)))
    (hL : ty = 1 → ∀ H locs cells slots (ls : Array Slot) (rest : List Value) (x : Int64) (l1 l2 : List (Nat × Value)), lv_has ls nL l1 → n + 1 < nL → (n, Value.long x) :: l1.filter (fun q => !(q.1 == n) && (!(q.1 == n + 1) && !(q.1 + 1 == n && q.2.category == 2))) = l2 → (∀ ls' : Array Slot, lv_has ls' nL l2 → W p l e R s m args below meth c H locs cells slots Q (F0 m nx ls' rest)) → W p l e R s m args below meth c H locs cells slots Q (F0 m pc ls (.long x :: rest)))
    (hA : ty = 2 → ∀ H locs cells slots (ls : Array Slot) (rest : List Value) (x : Nat) (l1 l2 : List (Nat × Value)), lv_has ls nL l1 → n < nL → (n, Value.ref x) :: l1.filter (fun q => !(q.1 == n) && !(q.1 + 1 == n && q.2.category == 2)) = l2 → (∀ ls' : Array Slot, lv_has ls' nL l2 → W p l e R s m args below meth c H locs cells slots Q (F0 m nx ls' rest)) → W p l e R s m args below meth c H locs cells slots Q (F0 m pc ls (.ref x :: rest))) :
    PX p l e R s m args below meth c Q HR SS SZ ad xv vok nL pc lv st σ b := by
  intro H locs cells slots ls h1 h2 h3 h4 h5 h6 h7
  unfold mstore at h
  split at h
  · rename_i x st'
    cases hc : mfree lv n && Nat.blt n lv.length with
    | false => rw [hc] at h; exact h.elim
    | true =>
      rw [hc] at h
      obtain ⟨hf, hlt⟩ := Bool.and_eq_true_iff.mp hc
      have hlt : n < lv.length := Nat.le_of_ble_eq_true hlt
      exact hI rfl _ _ _ _ _ _ x _ _ h3.1 (by rw [← h3.2.1]; exact hlt) rfl fun ls' h' => h H locs cells slots ls' h1 h2 (h3.set1 hxv hf (vok_hd h4) h') (vok_tl h4) h5 h6 h7
  · rename_i x st'
    cases hc : mfree lv n && Nat.blt (n + 1) lv.length with
    | false => rw [hc] at h; exact h.elim
    | true =>
      rw [hc] at h
      obtain ⟨hf, hlt⟩ := Bool.and_eq_true_iff.mp hc
      have hlt : n + 1 < lv.length := Nat.le_of_ble_eq_true hlt
      exact hL rfl _ _ _ _ _ _ x _ _ h3.1 (by rw [← h3.2.1]; exact hlt) rfl fun ls' h' => h H locs cells slots ls' h1 h2 (h3.set2 hxv hf (vok_hd h4) h') (vok_tl h4) h5 h6 h7
  · rename_i r st'
    cases hc : (mfree lv n && Nat.blt n lv.length) && Nat.ble 2 r.1 with
    | false => rw [hc] at h; exact h.elim
    | true =>
      rw [hc] at h
      obtain ⟨hc1, hr2⟩ := Bool.and_eq_true_iff.mp hc
      obtain ⟨hf, hlt⟩ := Bool.and_eq_true_iff.mp hc1
      have hlt : n < lv.length := Nat.le_of_ble_eq_true hlt
      have hr : er ad xv r = .ref (ad r) := er_ref (Nat.le_of_ble_eq_true hr2)
      show W p l e R s m args below meth c H locs cells slots Q (F0 m pc ls (er ad xv r :: st'.map (em ad xv)))
      rw [hr]
      exact hA rfl _ _ _ _ _ _ (ad r) _ _ h3.1 (by rw [← h3.2.1]; exact hlt) rfl fun ls' h' => h H locs cells slots ls' h1 h2 (h3.set1 hxv hf (vok_hd h4) (show lv_has ls' nL ((n, er ad xv r) :: _) by rw [hr]; exact h')) (vok_tl h4) h5 h6 h7
  · exact h.elim
end SNA
