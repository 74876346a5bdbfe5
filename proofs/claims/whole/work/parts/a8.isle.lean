/-! ===== an isle asked wrongly: DriftSea.isle throws, the law's helper catches ===== -/
abbrev NSE : String := "java/util/NoSuchElementException"
abbrev bs_isle : ByteArray := prog_1_method_9_code
abbrev bs_H : ByteArray := method_3_code
def y_isle : MethodName := ⟨"DriftSea", "isle", "(II)I"⟩
def y_H : MethodName := ⟨"DriftSeaLaw", "isle", "(LDriftSea;II[J)I"⟩
abbrev hh_H : List (Nat × Nat × Nat × Nat) := [(0, 10, 13, 13)]
theorem di_18 : decode bs_isle 18 = .ok (.new 164, 3) := by decide +kernel
theorem di_21 : decode bs_isle 21 = .ok (.dup, 1) := by decide +kernel
theorem di_22 : decode bs_isle 22 = .ok (.invokespecial 166, 3) := by decide +kernel
theorem di_25 : decode bs_isle 25 = .ok (.athrow, 1) := by decide +kernel
theorem dh_0 : decode bs_H 0 = .ok (.aload_n 3, 1) := by decide +kernel
theorem dh_1 : decode bs_H 1 = .ok (.iconst 0, 1) := by decide +kernel
theorem dh_2 : decode bs_H 2 = .ok (.aload_n 0, 1) := by decide +kernel
theorem dh_3 : decode bs_H 3 = .ok (.iload_n 1, 1) := by decide +kernel
theorem dh_4 : decode bs_H 4 = .ok (.iload_n 2, 1) := by decide +kernel
theorem dh_5 : decode bs_H 5 = .ok (.invokevirtual 7, 3) := by decide +kernel
theorem dh_8 : decode bs_H 8 = .ok (.i2l, 1) := by decide +kernel
theorem dh_9 : decode bs_H 9 = .ok (.lastore, 1) := by decide +kernel
theorem dh_10 : decode bs_H 10 = .ok (.goto 7, 3) := by decide +kernel
theorem dh_13 : decode bs_H 13 = .ok (.astore 4, 2) := by decide +kernel
theorem dh_15 : decode bs_H 15 = .ok (.iconst 1, 1) := by decide +kernel
theorem dh_16 : decode bs_H 16 = .ok (.ireturn, 1) := by decide +kernel
theorem dh_17 : decode bs_H 17 = .ok (.iconst 0, 1) := by decide +kernel
theorem dh_18 : decode bs_H 18 = .ok (.ireturn, 1) := by decide +kernel
theorem wx_k : Cond.classLink "DriftSea" 164 NSE ∈ Wd := inW_mem (w := 1568) (by decide +kernel)
theorem wx_i : Cond.initialized NSE ∈ Wd := inW_mem (w := 141) (by decide +kernel)
theorem wx_l : Cond.classLink "DriftSeaLaw" 13 NSE ∈ Wd := inW_mem (w := 1563) (by decide +kernel)
theorem wx_m : Cond.methodLink "DriftSeaLaw" 7 y_isle ∈ Wd := inW_mem (w := 1564) (by decide +kernel)
theorem wx_s : Cond.static y_H ∈ Wd := inW_mem (w := 1561) (by decide +kernel)
theorem wx_c : Cond.codeWith y_H bs_H 5 (some .int) hh_H ∈ Wd := inW_mem (w := 1562) (by decide +kernel)
theorem wx_n : Cond.initialized "DriftSeaLaw" ∈ Wd := inW_mem (w := 116) (by decide +kernel)
theorem wx_h : Cond.methodLink "DriftSeaLaw" 38 y_H ∈ Wd := inW_mem (w := 1560) (by decide +kernel)
abbrev nm_x : List String := ["java/lang/RuntimeException", "java/lang/Exception"]
theorem wx_t0 : ∀ w ∈ (vx_at0 "DriftSea" 166 NSE nm_x).filter goodWord, w ∈ lw_tbl := by decide +kernel
abbrev xB : List Cond := [.castable NSE NSE, .declares ⟨"java/lang/RuntimeException", "<init>", "()V"⟩, .declares ⟨"java/lang/Exception", "<init>", "()V"⟩, .declares ⟨"java/lang/Throwable", "<init>", "()V"⟩]
theorem xB_on : ∀ w ∈ xB, w.onTables = true := by decide
theorem xB_warm {s U : State} (hW : s.WarmedH U.vm) (h : ∀ w ∈ xB, va_Nw w s) : ∀ w ∈ xB, va_Nw w U := by
  have hd : ∀ x : MethodName, va_Nw (.declares x) s → va_Nw (.declares x) U := fun x h => va_tabs rfl (rfl : (s.setVm U.vm).vm = U.vm) (by rw [Cond.declares_setVm hW.alike]; exact h)
  intro w hw
  have h := h w hw
  rcases List.mem_cons.mp hw with rfl | hw
  · exact va_Nw.warmC hW h
  · rcases List.mem_cons.mp hw with rfl | hw
    · exact hd _ h
    · rcases List.mem_cons.mp hw with rfl | hw
      · exact hd _ h
      · rcases List.mem_cons.mp hw with rfl | hw
        · exact hd _ h
        · cases hw
theorem wx_t1 : ∀ w ∈ (vx_at0 "DriftSea" 166 NSE nm_x).filter (fun w => !goodWord w), w ∈ xB := by decide +kernel
theorem wx_t2 : ∀ w ∈ Cond.classLink "DriftSea" 164 NSE :: Cond.initialized NSE :: vx_at0 "DriftSea" 166 NSE nm_x, vx_ot w = true := by decide +kernel
theorem wx_f : Bundle.fit NSE = true ∧ ∀ n ∈ nm_x, Bundle.fit n = true := by decide +kernel
/-- what a throw needs of the state: two statics, a cast -/
def Ux (A : Nat → Prop) (U : State) : Prop := vx_Zq Bundle.tN "UNASSIGNED_STACK" Bundle.steD A U U.heap ∧ vx_Zq Bundle.tN "SUPPRESSED_SENTINEL" Bundle.listD A U U.heap ∧ ∀ w ∈ xB, va_Nw w U
def MPx {S : Type} (D : va_G) (tys : List (ClassId × FieldType)) (A : Nat → Prop) (Z : State → Prop) (rep : S → va_W) (szR : S → Nat → Prop) (σ : S) (U : State) : Prop := MPre D tys A Z rep szR σ U ∧ Ux A U
section
variable {l : Launch} {S : Type} {ad : Nat × Nat → Nat} {xv : Value} {D : va_G} {A : Nat → Prop} {rep : S → va_W} {szR : S → Nat → Prop} {tys : List (ClassId × FieldType)} {cT : Nat → ClassId} {xs : Nat → Int32} {L : Nat} {Z : State → Prop}
theorem Ux.at {s U : State} {H : Heap} {locs : List Loc} (h : Ux A s) (h2 : va_S A s.heap H locs) (hU : U.heap = H) (hW : s.WarmedH U.vm) : Ux A U := by
  subst hU
  exact ⟨vx_Zq.moved hW.alike (h.1.kept h2.2.1), vx_Zq.moved hW.alike (h.2.1.kept h2.2.1), xB_warm hW h.2.2⟩
theorem MPx.blind (hZ : ZLaw A Z) (as : List Value) (σ : S) : FrameBlind (va_Pc as (MPx D tys A Z rep szR σ)) := by
  intro a' U g mk ⟨h1, h2, h3, h4, h5⟩
  exact ⟨h1, (MPre.blind hZ as σ a' U g mk ⟨h1, h2⟩).2, vx_Zq.moved (u := U) (U := U.calling g mk a') (Vm.Alike.refl U.vm) h3, vx_Zq.moved (u := U) (U := U.calling g mk a') (Vm.Alike.refl U.vm) h4, fun w hw => va_tabs (xB_on w hw) (rfl : U.vm = (U.calling g mk a').vm) (h5 w hw)⟩
end
section
variable {l : Launch} {ad : Nat × Nat → Nat} {xv : Value} {D : va_G} {A : Nat → Prop} {tys : List (ClassId × FieldType)} {cT : Nat → ClassId} {xs : Nat → Int32} {L : Nat} {rep : S2 → va_W} {szR : S2 → Nat → Prop}
/-- asked wrongly -/
abbrev badI (a b : Int32) (σ : S2) : Prop := bI (g_D_isIsle a σ) = 0 ∨ bI (g_D_isWithin b (Int32.ofInt 0) (Int32.ofInt 9) σ) = 0
abbrev XCi (D : va_G) (A : Nat → Prop) (rep : S2 → va_W) (σ : S2) : String → State → State → Prop := vx_X (fun _ : Unit => True) (fun E _ t => E = NSE ∧ HRel D A rep σ t.heap) A
set_option maxRecDepth 20000 in
set_option maxHeartbeats 4000000 in
theorem c_isle_x (hst : l.stackTraces = false) (hall : ∀ m, KOK m) (hxv : xvOk xv) (hty : tys = [(cT 0, .int), (cT 1, .long), (cT 2, .object "DriftSea$Rule"), (cT 3, .object "DriftSea$State")]) (hO : OLaw (O3 xs L) D A rep szR ad xv kvok cT tys xs L) (hZ : ZLaw A (ZK A ad xv xs L)) (hSz : SzLaw D A rep szR) {a b : Int32} {σ : S2} (hbad : badI a b σ) : vx_Met l y_isle (Cond.code y_isle bs_isle 3 (some .int) :: Wd) (rmD 21 1 6) (va_Pc ([mR 10 0, mI a, mI b].map (em ad xv)) (MPx D tys A (ZK A ad xv xs L) rep szR σ)) (fun _ _ _ _ => False) (XCi D A rep σ) 1 6 A := by
  obtain ⟨z1, z2, z3, z4, z5, cd, rt, ws, hp, hrt, hck⟩ := hall k_D_isle y_isle bs_isle 3 (some .int) 2 1 rfl
  cases (show kprog k_D_isle = some (kd_D_isle, 3, 1) from rfl).symm.trans hp
  refine vx_ofW (cc := bs_isle) (maxL := 3) (ret := some .int) z2 rfl ?_
  intro p e s m args below meth c s₁ B hml htab hv
  obtain ⟨rfl, ⟨hF, hH, hsz⟩, hux⟩ := hv
  have hts0 := atoms_spec (ws := Cond.code y_isle bs_isle 3 (some .int) :: Wd) B.pre
  have hts : ∀ w ∈ Wd, w.before ([mR 10 0, mI a, mI b].map (em ad xv)).toArray s = true := fun w hw => hts0 w (List.mem_cons_of_mem _ hw)
  have hown : s.vm.findClass y_isle.cls = some m.cls := findClass_of_methodNamed B.named
  have hnm : meth.name = y_isle.name := (name_of_methodNamed B.named B.method).1
  have hlocks := B.notSynchronized
  have hb := B.bytes
  have hx := B.exec
  show W p l e (rmD 21 1 6) s m ([mR 10 0, mI a, mI b].map (em ad xv)).toArray below meth c s.heap [] 0 0 (vx_MQ below (fun _ _ _ _ => False) (XCi D A rep σ) ([mR 10 0, mI a, mI b].map (em ad xv)).toArray s 1 6 A) (entryFrame m ([mR 10 0, mI a, mI b].map (em ad xv)).toArray 3)
  have hcl := sound_closed (p := p) (l := l) (e := e) (R := rmD 21 1 6) (s := s) (m := m) (args := ([mR 10 0, mI a, mI b].map (em ad xv)).toArray) (below := below) (meth := meth) (c := c) (Q := vx_MQ below (fun _ _ _ _ => False) (XCi D A rep σ) ([mR 10 0, mI a, mI b].map (em ad xv)).toArray s 1 6 A) (O := O3 xs L) (call := kcall (O3 xs L) 20) (rt := 1) (Post := fun _ _ => False) (cd := kd_D_isle) (ini := decide (y_isle.name = "<init>")) (d := 20) (ws := ws)
    hx hb hml hown hxv hts ⟨Nat.le_refl _, Nat.le_refl _⟩ hF hty hO hZ hSz hall (fun z => by rw [hnm]; exact of_decide_eq_true z) hck (fun a as σ Q' y cb mx ret n kd g1 g2 g3 => sound_call hall hxv hty hO hZ hSz 20 a as σ Q' y cb mx ret n kd g1 g2 g3)
    (fun σ x H locs cells slots ls pc g1 g2 => g2.elim) (fun σ x H locs cells slots ls pc g1 g2 => g2.elim) (fun σ H locs cells slots ls pc g1 g2 => g2.elim)
  have h18 : PY p l e (rmD 21 1 6) s m ([mR 10 0, mI a, mI b].map (em ad xv)).toArray below meth c (vx_MQ below (fun _ _ _ _ => False) (XCi D A rep σ) ([mR 10 0, mI a, mI b].map (em ad xv)).toArray s 1 6 A) D A rep (SZs szR s) ad xv kvok 3 18 [some (mR 10 0), some (mI a), some (mI b)] [] σ (1, 6) := by
    intro H locs cells slots ls h1 h2 h3 h4 h5 h6 h7
    have hc0 : cells = 0 := by
      have : cells + 1 = 1 := h6
      omega
    have hs0 : slots = 0 := by
      have : slots + 6 ≤ 6 := h7
      omega
    subst hc0; subst hs0
    show W p l e (rmD 21 1 6) s m ([mR 10 0, mI a, mI b].map (em ad xv)).toArray below meth c H locs 0 0 _ (F0 m 18 ls [])
    refine vx_throw0 (names := nm_x) (own := "DriftSea") (cls := NSE) (ik := 164) (ic := 166) (mc := 1) (ms := 6) (A := A) hx hb hst hown wx_f.1 wx_f.2 (hts _ wx_k) (hts _ wx_i) (vx_hat (B := xB) (fun w hw => hts w (List.mem_filter.mpr ⟨wx_t0 w hw, (List.mem_filter.mp hw).2⟩)) wx_t1 (fun w hw => va_Nw.use (xB_on w hw) (hux.2.2 w hw))) wx_t2 hux.1 hux.2.1 h2 (h3.1.1.trans hml.symm) di_18 di_21 di_22 di_25 (fun x hx => (htab x hx).elim) (Nat.le_of_ble_eq_true rfl) (Nat.le_of_ble_eq_true rfl) (Nat.le_refl _) (Nat.le_refl _) hlocks (fun t ht hz hk => ⟨(), trivial, ⟨rfl, h1.1.kept (fun k q hq => hk q.1 (h1.1 k q hq).lt), h1.2⟩, Nat.le_trans h2.1 hz, fun q hq hA => by rw [hk q (Nat.lt_of_lt_of_le hq h2.1)]; exact h2.2.1 q hq hA⟩) (fun z hz => h2.2.2 z hz) (Nat.le_refl _) (Nat.le_refl _)
  have hrun : PY p l e (rmD 21 1 6) s m ([mR 10 0, mI a, mI b].map (em ad xv)).toArray below meth c (vx_MQ below (fun _ _ _ _ => False) (XCi D A rep σ) ([mR 10 0, mI a, mI b].map (em ad xv)).toArray s 1 6 A) D A rep (SZs szR s) ad xv kvok 3 0 (minit [mR 10 0, mI a, mI b] 3) [] σ (1, 6) := by
    refine mgo_sound hcl [18] 260 _ _ _ _ _ ?_
    refine go_call (fun _ hw => c_D_isIsle hw) ?_
    refine go_br (fun hc : (bI (g_D_isIsle a σ)) = 0 => ?_) (fun hc : ¬ ((bI (g_D_isIsle a σ)) = 0) => ?_)
    · exact h18
    · refine go_call (fun _ hw => c_D_isWithin hw) ?_
      refine go_brn (fun hc2 : ¬ ((bI (g_D_isWithin b (Int32.ofInt 0) (Int32.ofInt 9) σ)) = 0) => ?_) (fun hc2 : (bI (g_D_isWithin b (Int32.ofInt 0) (Int32.ofInt 9) σ)) = 0 => ?_)
      · exact absurd (hbad.resolve_left hc) hc2
      · exact h18
  rw [lg_entry_eq]
  exact hrun s.heap [] 0 0 _ hH va_S.rf (LVr_init hxv (fun v hv => by
    rcases List.mem_cons.mp hv with rfl | hv
    · show 0 < kcn 10
      decide +kernel
    · rcases List.mem_cons.mp hv with rfl | hv
      · trivial
      · rcases List.mem_cons.mp hv with rfl | hv
        · trivial
        · cases hv) (Nat.le_of_ble_eq_true rfl)) (fun v hv => by cases hv) hsz rfl (Nat.le_refl _)
end
