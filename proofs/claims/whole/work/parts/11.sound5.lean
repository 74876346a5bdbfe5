/-! ===== calls and returns ===== -/
theorem mtake_spec : ∀ {n : Nat} {st acc as rest : List MV}, mtake n st acc = some (as, rest) → ∃ xs, xs.length = n ∧ as = xs ++ acc ∧ st = xs.reverse ++ rest
  | 0, st, acc, as, rest, h => by
    simp only [mtake, Option.some.injEq, Prod.mk.injEq] at h
    exact ⟨[], rfl, by rw [← h.1]; rfl, by rw [← h.2]; rfl⟩
  | n + 1, [], acc, as, rest, h => by simp [mtake] at h
  | n + 1, v :: st, acc, as, rest, h => by
    obtain ⟨xs, h1, h2, h3⟩ := mtake_spec (n := n) (st := st) (acc := v :: acc) h
    refine ⟨xs ++ [v], by simp [h1], by rw [h2]; simp, ?_⟩
    rw [h3]; simp
/-- what holds of a state at which a method of ours begins: the tables, the statics, where new cells come -/
def FX (D : va_G) (tys : List (ClassId × FieldType)) (A : Nat → Prop) (Z : State → Prop) (U : State) : Prop := va_K D vwCl tys U ∧ Z U ∧ ∀ q, U.heap.size ≤ q → A q
def MPre {S : Type} (D : va_G) (tys : List (ClassId × FieldType)) (A : Nat → Prop) (Z : State → Prop) (rep : S → va_W) (szR : S → Nat → Prop) (σ : S) (U : State) : Prop := FX D tys A Z U ∧ HRel D A rep σ U.heap ∧ szR σ U.heap.size
def MQc {S : Type} (D : va_G) (A : Nat → Prop) (rep : S → va_W) (szR : S → Nat → Prop) (ad : Nat × Nat → Nat) (xv : Value) (vok : MV → Prop) (mc : Nat) (Post : S → Option MV → Prop) : Array Value → State → Outcome → State → Prop := fun _ st o t =>
  (∃ (σ' : S) (r : Option MV), o = .returned (r.map (em ad xv)) ∧ Post σ' r ∧ HRel D A rep σ' t.heap ∧ szR σ' (st.heap.size + mc) ∧ ∀ v, r = some v → vok v) ∧ va_F A st t
/-- the statics stay as long as nothing below the new cells is written -/
def ZLaw (A : Nat → Prop) (Z : State → Prop) : Prop := (∀ s U locs, Z s → s.WarmedH U.vm → va_S A s.heap U.heap locs → Z U) ∧ ∀ U V, Z U → V.vm = U.vm → V.heap = U.heap → Z V
def SzLaw {S : Type} (D : va_G) (A : Nat → Prop) (rep : S → va_W) (szR : S → Nat → Prop) : Prop := ∀ (σ : S) (n : Nat) (H : Heap), szR σ n → HRel D A rep σ H → H.size ≤ n → szR σ H.size ∧ ∀ (σ' : S) (k : Nat), szR σ' (H.size + k) → szR σ' (n + k)
abbrev rmD (d mc ms : Nat) : Room := { frames := d, cells := mc, slots := ms, locals := 64 * d }
section SNE
variable {p : Program} {l : Launch} {e : Env} {R : Room} {s : State} {m : MethodId} {args : Array Value} {below : List Frame} {meth : Method} {c : Code} {Q : State → Prop} {S : Type} {ad : Nat × Nat → Nat} {xv : Value} {vok : MV → Prop} {nL : Nat} {bs : ByteArray} {pc nx : Nat} {lv : ML} {st : List MV} {σ : S} {b : Nat × Nat} {O : MOps S} {call : MCall S} {rt : Nat} {Post : S → Option MV → Prop} {a k : Nat} {sw : List (Int × Nat)} {D : va_G} {A : Nat → Prop} {rep : S → va_W} {szR : S → Nat → Prop} {tys : List (ClassId × FieldType)} {Ts : List Cond} {own : String} {cT : Nat → ClassId} {Z : State → Prop}
theorem MPre.blind (hZ : ZLaw A Z) (as : List Value) (σ : S) : FrameBlind (va_Pc as (MPre D tys A Z rep szR σ)) := by
  intro a' U g mk ⟨h1, ⟨h2, h3, h4⟩, h5, h6⟩
  exact ⟨h1, ⟨va_K.moved (u := U) (U := U.calling g mk a') (Vm.Alike.refl U.vm) h2, hZ.2 U _ h3 rfl rfl, h4⟩, h5, h6⟩
theorem MPre.at {H : Heap} {locs : List Loc} {cells : Nat} (hZ : ZLaw A Z) (hSz : SzLaw D A rep szR) (hF : FX D tys A Z s) (h1 : HRel D A rep σ H) (h2 : va_S A s.heap H locs) (h5 : szR σ (s.heap.size + cells)) (hs : H.size ≤ s.heap.size + cells) {U : State} (hU : U.heap = H) (hW : s.WarmedH U.vm) : MPre D tys A Z rep szR σ U := by
  subst hU
  exact ⟨⟨va_K.moved hW.alike hF.1, hZ.1 s U locs hF.2.1 hW h2, fun q hq => hF.2.2 q (Nat.le_trans h2.1 hq)⟩, h1, (hSz σ _ _ h5 h1 hs).1⟩
/-- behind a call -/
theorem sc_back {H : Heap} {locs : List Loc} {cells slots mc ms : Nat} {ls : Array Slot} {st0 rest : List Value} {a' : Array Value} {Q' : S → Option MV → Prop} (hSz : SzLaw D A rep szR) (h1 : HRel D A rep σ H) (h5 : szR σ (s.heap.size + cells)) (hs : H.size ≤ s.heap.size + cells)
    (hr : va_Run p l e R s m args below meth c H locs cells slots mc ms (F0 m pc ls st0) rest (MQc D A rep szR ad xv vok mc Q' a') A) (hS : va_S A s.heap H locs)
    (kk : ∀ (σ' : S) (r : Option MV) (H1 : Heap) (locs1 : List Loc), Q' σ' r → HRel D A rep σ' H1 → va_S A s.heap H1 locs1 → szR σ' (s.heap.size + (cells + mc)) → (∀ v, r = some v → vok v) → W p l e R s m args below meth c H1 locs1 (cells + mc) (slots + ms) Q (F0 m (pc + 3) ls ((r.map (em ad xv)).toList ++ rest))) : W p l e R s m args below meth c H locs cells slots Q (F0 m pc ls st0) := by
  intro T hT X
  obtain ⟨v, st₀, t, T', L, h0, X', hL, e1, e2, ⟨⟨σ', r, hv, hp, hb, hz', hvk⟩, hz, hk⟩, stp⟩ := hr T hT X
  cases hv
  rw [h0] at hz hk hz'
  have hz2 : szR σ' (s.heap.size + (cells + mc)) := by rw [← Nat.add_assoc]; exact (hSz σ _ _ h5 h1 hs).2 σ' mc hz'
  obtain ⟨t2, a1, b1⟩ := kk σ' r T'.heap (locs ++ L) hp (by rw [e1]; exact hb)
    ⟨Nat.le_trans hS.1 (by rw [e1]; exact hz), fun q g1 g2 => by rw [e1, hk q (Nat.lt_of_lt_of_le g1 hS.1) g2]; exact hS.2.1 q g1 g2, fun q hq => by
      rcases List.mem_append.mp hq with h | h
      · exact hS.2.2 q h
      · exact hL q h⟩ hz2 hvk T' rfl X'
  exact ⟨t2, stp t2 a1, b1⟩
theorem mpush_em (r : Option MV) (rest : List MV) : (r.map (em ad xv)).toList ++ rest.map (em ad xv) = (mpush r rest).map (em ad xv) := by cases r <;> rfl
theorem vok_mpush {r : Option MV} {rest : List MV} (h : ∀ v, r = some v → vok v) (h2 : ∀ v ∈ rest, vok v) : ∀ v ∈ mpush r rest, vok v := by
  cases r with
  | none => exact h2
  | some v => exact vok_cons (h v rfl) h2
/-- what the tables say of a method of ours -/
def MInfo (Wd : List Cond) (y : MethodName) (cb : ByteArray) (mx : Nat) (ret : Option FieldType) (na : Nat) : Prop := Cond.code y cb mx ret ∈ Wd ∧ Cond.initialized y.cls ∈ Wd ∧ (y.cls ≠ "java/lang/invoke/MethodHandle" ∧ y.cls ≠ "java/lang/invoke/VarHandle") ∧ (∀ sig, parseMethodDescriptor y.desc = some sig → na = sig.parameters.length) ∧ mx ≤ 45
def Lk (Wd : List Cond) (own : String) (i : Nat) (y : MethodName) (s : State) : Prop := Cond.methodLink own i y ∈ Wd ∨ ∃ host, va_Nw (.methodLinkNest own i y host) s
variable {Wd : List Cond} {y : MethodName} {cb : ByteArray} {mx na d mc ms : Nat} {ret : Option FieldType}
theorem pay_all (hts : ∀ w ∈ Wd, w.before args s = true) (hG : ∀ w ∈ Wd, goodWord w = true) : ∀ w ∈ Wd, ∀ (a' : Array Value) (U : State), s.WarmedH U.vm → w.before a' U = true := fun w hw a' U hW => word_at hW (good_of_word (hG w hw)) (hts w hw)
theorem sc_base (hts : ∀ w ∈ Wd, w.before args s = true) (hG : ∀ w ∈ Wd, goodWord w = true) (hI : MInfo Wd y cb mx ret na) (hR : d + 1 ≤ R.frames ∧ 64 * (d + 1) ≤ R.locals) : (rmD d mc ms).cells = mc ∧ (rmD d mc ms).slots = ms ∧ (rmD d mc ms).frames + 1 ≤ R.frames ∧ 8 + (mx + 11) + (rmD d mc ms).locals ≤ R.locals ∧ (∀ w ∈ Cond.code y cb mx ret :: Wd, ∀ (a' : Array Value) (U : State), s.WarmedH U.vm → w.before a' U = true) ∧ Cond.code y cb mx ret ∈ Cond.code y cb mx ret :: Wd := by
  obtain ⟨h1, h2, h3, h4, h5⟩ := hI
  refine ⟨rfl, rfl, hR.1, ?_, fun w hw => ?_, List.mem_cons_self⟩
  · refine Nat.le_trans ?_ hR.2; show 8 + (mx + 11) + 64 * d ≤ _; omega
  · rcases List.mem_cons.mp hw with rfl | hw
    · exact pay_all hts hG _ h1
    · exact pay_all hts hG _ hw
/-- the three kinds of calls, as the kit's rows give them -/
theorem sc_static {H : Heap} {locs : List Loc} {cells slots : Nat} {ls : Array Slot} {rest As : List Value} {i : Nat} {Q' : S → Option MV → Prop} {Pc : Array Value → State → Prop} {Qc : Array Value → State → Outcome → State → Prop} (hx : p.tables.exec = Jvm.exec) (hb : c.code = bs) (hml : c.maxLocals = nL) (hown : s.vm.findClass own = some m.cls) (hts : ∀ w ∈ Wd, w.before args s = true) (hG : ∀ w ∈ Wd, goodWord w = true) (hI : MInfo Wd y cb mx ret na) (hR : d + 1 ≤ R.frames ∧ 64 * (d + 1) ≤ R.locals) (hst : Cond.static y ∈ Wd) (hlk : Lk Wd own i y s)
    (hM : Met l y (Cond.code y cb mx ret :: Wd) (rmD d mc ms) Pc Qc mc ms A) (hp : PreS s H Pc As) (hn : As.length = na) (hsize : ls.size = nL) (hW : (rest.map fun v => v.category).sum ≤ 8) (hd : decode bs pc = .ok (.invokestatic i, 3)) (hf : cells + mc ≤ R.cells ∧ slots + ms ≤ R.slots) :
    va_Run p l e R s m args below meth c H locs cells slots mc ms (F0 m pc ls (As.reverse ++ rest)) rest (Qc As.toArray) A := by
  have hB := sc_base (cb := cb) (mc := mc) (ms := ms) hts hG hI hR
  obtain ⟨h1, h2, h3, h4, h5⟩ := hI
  rcases hlk with hlk | ⟨host, hlk⟩
  · exact va_runS (g := F0 m pc ls (As.reverse ++ rest)) ⟨hx, hb, hml, hown, hts⟩ hM ⟨⟨hB.1, hB.2.1, hB.2.2.1, hB.2.2.2.1, hB.2.2.2.2.1, hB.2.2.2.2.2, hts _ h1, hts _ h2, h3, h4, hts _ hlk⟩, hts _ hst⟩ hp rfl hn hsize rfl (lv_room hW) hd hf
  · exact va_runSN (g := F0 m pc ls (As.reverse ++ rest)) ⟨hx, hb, hml, hown, hts⟩ hM ⟨⟨hB, hts _ h1, hts _ h2, h3, h4, va_Nw.use rfl hlk⟩, hts _ hst, trivial⟩ hp rfl hn hsize rfl (lv_room hW) hd hf
theorem sc_virtual {H : Heap} {locs : List Loc} {cells slots : Nat} {ls : Array Slot} {rest As : List Value} {i x : Nat} {C : String} {Pc : Array Value → State → Prop} {Qc : Array Value → State → Outcome → State → Prop} (hx : p.tables.exec = Jvm.exec) (hb : c.code = bs) (hml : c.maxLocals = nL) (hown : s.vm.findClass own = some m.cls) (hts : ∀ w ∈ Wd, w.before args s = true) (hG : ∀ w ∈ Wd, goodWord w = true) (hI : MInfo Wd y cb mx ret na) (hR : d + 1 ≤ R.frames ∧ 64 * (d + 1) ≤ R.locals) (hin : Cond.instanceMethod y ∈ Wd) (hse : Cond.selects C y y ∈ Wd) (hlk : Lk Wd own i y s)
    (hM : Met l y (Cond.code y cb mx ret :: Wd) (rmD d mc ms) Pc Qc mc ms A) (hp : PreV s H C x Pc As) (hn : As.length = na) (hsize : ls.size = nL) (hW : (rest.map fun v => v.category).sum ≤ 8) (hd : decode bs pc = .ok (.invokevirtual i, 3)) (hf : cells + mc ≤ R.cells ∧ slots + ms ≤ R.slots) :
    va_Run p l e R s m args below meth c H locs cells slots mc ms (F0 m pc ls (As.reverse ++ .ref x :: rest)) rest (Qc (Value.ref x :: As).toArray) A := by
  have hB := sc_base (cb := cb) (mc := mc) (ms := ms) hts hG hI hR
  obtain ⟨h1, h2, h3, h4, h5⟩ := hI
  rcases hlk with hlk | ⟨host, hlk⟩
  · exact va_runV (g := F0 m pc ls (As.reverse ++ .ref x :: rest)) ⟨hx, hb, hml, hown, hts⟩ hM ⟨⟨hB.1, hB.2.1, hB.2.2.1, hB.2.2.2.1, hB.2.2.2.2.1, hB.2.2.2.2.2, hts _ h1, hts _ h2, h3, h4, hts _ hlk⟩, hts _ hin, hts _ hse⟩ hp rfl hn hsize rfl (lv_room hW) hd hf
  · exact va_runVN (g := F0 m pc ls (As.reverse ++ .ref x :: rest)) ⟨hx, hb, hml, hown, hts⟩ hM ⟨⟨hB, hts _ h1, hts _ h2, h3, h4, va_Nw.use rfl hlk⟩, hts _ hin, hts _ hse⟩ hp rfl hn hsize rfl (lv_room hW) hd hf
theorem sc_special {H : Heap} {locs : List Loc} {cells slots : Nat} {ls : Array Slot} {rest As : List Value} {i x : Nat} {Pc : Array Value → State → Prop} {Qc : Array Value → State → Outcome → State → Prop} (hx : p.tables.exec = Jvm.exec) (hb : c.code = bs) (hml : c.maxLocals = nL) (hown : s.vm.findClass own = some m.cls) (hts : ∀ w ∈ Wd, w.before args s = true) (hG : ∀ w ∈ Wd, goodWord w = true) (hI : MInfo Wd y cb mx none na) (hR : d + 1 ≤ R.frames ∧ 64 * (d + 1) ≤ R.locals) (hin : Cond.instanceMethod y ∈ Wd) (hyn : y.name = "<init>") (hlk : Lk Wd own i y s)
    (hM : Met l y (Cond.code y cb mx none :: Wd) (rmD d mc ms) Pc Qc mc ms A) (hp : PreS s H Pc (.ref x :: As)) (hn : As.length = na) (hsize : ls.size = nL) (hW : (rest.map fun v => v.category).sum ≤ 8) (hd : decode bs pc = .ok (.invokespecial i, 3)) (hf : cells + mc ≤ R.cells ∧ slots + ms ≤ R.slots) :
    va_Run p l e R s m args below meth c H locs cells slots mc ms (F0 m pc ls (As.reverse ++ .ref x :: rest)) rest (Qc (Value.ref x :: As).toArray) A := by
  have hB := sc_base (cb := cb) (mc := mc) (ms := ms) hts hG hI hR
  obtain ⟨h1, h2, h3, h4, h5⟩ := hI
  rcases hlk with hlk | ⟨host, hlk⟩
  · exact va_runI (g := F0 m pc ls (As.reverse ++ .ref x :: rest)) ⟨hx, hb, hml, hown, hts⟩ hM ⟨⟨hB.1, hB.2.1, hB.2.2.1, hB.2.2.2.1, hB.2.2.2.2.1, hB.2.2.2.2.2, hts _ h1, hts _ h2, h3, h4, hts _ hlk⟩, hyn, hts _ hin⟩ hp rfl hn hsize rfl (lv_room hW) hd hf
  · exact va_runIN (g := F0 m pc ls (As.reverse ++ .ref x :: rest)) ⟨hx, hb, hml, hown, hts⟩ hM ⟨⟨hB, hts _ h1, hts _ h2, h3, h4, va_Nw.use rfl hlk⟩, hyn, hts _ hin⟩ hp rfl hn hsize rfl (lv_room hW) hd hf
end SNE
