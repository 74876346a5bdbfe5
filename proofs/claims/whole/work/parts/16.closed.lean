set_option maxHeartbeats 4000000 in
theorem sound_closed {p : Program} {l : Launch} {e : Env} {R : Room} {s : State} {m : MethodId} {args : Array Value} {below : List Frame} {meth : Method} {c : Code} {Q : State → Prop} {S : Type} {ad : Nat × Nat → Nat} {xv : Value} {vok : MV → Prop} {nL : Nat} {bs : ByteArray} {O : MOps S} {call : MCall S} {rt : Nat} {Post : S → Option MV → Prop} {D : va_G} {A : Nat → Prop} {rep : S → va_W} {szR : S → Nat → Prop} {tys : List (ClassId × FieldType)} {own : String} {cT : Nat → ClassId} {xs : Nat → Int32} {L d : Nat} {cd : MC} {ini : Bool} {ws : List Nat}
    (hx : p.tables.exec = Jvm.exec) (hb : c.code = bs) (hml : c.maxLocals = nL) (hown : s.vm.findClass own = some m.cls) (hxv : xvOk xv) (hts : ∀ w ∈ Wd, w.before args s = true) (hR : d + 1 ≤ R.frames ∧ 64 * (d + 1) ≤ R.locals)
    (hF : FX D tys A (ZK A ad xv xs L) s) (hty : tys = [(cT 0, .int), (cT 1, .long), (cT 2, .object "DriftSea$Rule"), (cT 3, .object "DriftSea$State")]) (hO : OLaw O D A rep szR ad xv vok cT tys xs L) (hZ : ZLaw A (ZK A ad xv xs L)) (hSz : SzLaw D A rep szR) (hall : ∀ m, KOK m) (hini : ini = true → meth.name = "<init>") (hcd : cchk own ini bs cd ws = true)
    (hcall : ∀ a as σ Q' y cb mx ret n kd, call a as σ Q' → (∀ v ∈ as, vok v) → kinfo a = some (y, cb, mx, ret, n, kd) → CMet l Wd D tys A (ZK A ad xv xs L) rep szR ad xv vok d y cb mx ret (kcost a).1 (kcost a).2 as σ Q')
    (hretI : ∀ σ x H locs cells slots ls pc, (rt = 1 ∨ (rt = 2 ∧ (x = 0 ∨ x = 1)) ∨ (rt = 3 ∧ ∃ j : Nat, j < 65536 ∧ x = nI j)) → Post σ (some (.inl x)) → HRel D A rep σ H → va_S A s.heap H locs → szR σ (s.heap.size + cells) → cells = R.cells → slots ≤ R.slots → decode bs pc = .ok (.ireturn, 1) → W p l e R s m args below meth c H locs cells slots Q (F0 m pc ls [.int x]))
    (hretL : ∀ σ x H locs cells slots ls pc, rt = 4 → Post σ (some (.inr (.inl x))) → HRel D A rep σ H → va_S A s.heap H locs → szR σ (s.heap.size + cells) → cells = R.cells → slots ≤ R.slots → decode bs pc = .ok (.lreturn, 1) → W p l e R s m args below meth c H locs cells slots Q (F0 m pc ls [.long x]))
    (hretV : ∀ σ H locs cells slots ls pc, rt = 0 → Post σ none → HRel D A rep σ H → va_S A s.heap H locs → szR σ (s.heap.size + cells) → cells = R.cells → slots ≤ R.slots → decode bs pc = .ok (.return_, 1) → W p l e R s m args below meth c H locs cells slots Q (F0 m pc ls [])) :
    MClosed O call cd rt Post (PY p l e R s m args below meth c Q D A rep (SZs szR s) ad xv vok nL) := by
  obtain ⟨ogf, opf, oai, owi, oal, owl, oar, owr, oln, oab, ogs, oco, onw, ona0, ona1, ona2, hvi, hvl, hv0, hvs⟩ := hO
  have hK := hF.1
  have hz := hF.2.1
  have hA := hF.2.2
  have hG := Wd_good
  intro pc lv st σ b h
  unfold mat at h
  split at h
  · rename_i en hen
    obtain ⟨w, hd0, hk⟩ := cchk_mem hcd _ (fetch_mem hen)
    obtain ⟨ins, nx, a, k, sw⟩ := en
    have hdec : Dec bs pc ins nx := decb_dec hd0
    have hlai : ∀ σ r n f, vok (.inr (.inr r)) → O.ai σ r = some (n, f) → 2 ≤ r.1 ∧ n < 2 ^ 31 ∧ ((∃ q0 : Nat, cellAt rep σ q0 (ad r) (.inl (cT 0, n, .inl f))) ∨ va_T .int (ad r) n (fun j => .int (f j)) A s s.heap) := fun σ r n f g1 g2 => by
      obtain ⟨g3, g4, g5⟩ := oai σ r n f g1 g2
      refine ⟨g3, g4, ?_⟩
      rcases g5 with g5 | ⟨i, hi, rfl, rfl, rfl⟩ | ⟨rfl, rfl, rfl⟩
      · exact Or.inl g5
      · exact Or.inr (hz.2.2.2.1 i hi)
      · exact Or.inr hz.2.2.2.2.2.1
    have hlwi : ∀ σ r n f f' σ', vok (.inr (.inr r)) → O.ai σ r = some (n, f) → O.wi σ r f' = some σ' → 2 ≤ r.1 ∧ n < 2 ^ 31 ∧ (∀ n, SZs szR s σ n → SZs szR s σ' n) ∧ ∃ q0 : Nat, cellAt rep σ q0 (ad r) (.inl (cT 0, n, .inl f)) ∧ rep σ' = (rep σ).set q0 (ad r, .inl (cT 0, n, .inl f')) := fun σ r n f f' σ' g1 g2 g3 => by
      obtain ⟨g4, g5, g6, g7⟩ := owi σ r n f f' σ' g1 g2 g3
      exact ⟨g4, g5, fun n q => g6 _ q, g7⟩
    have hn : ∀ {σ σ' : S} {x : Nat}, nextA D A rep szR σ σ' x → ∀ cells, SZs szR s σ cells → SZs szR s σ' (cells + 1) ∧ ∀ (q : Nat) (E : va_E) (H1 : Heap), va_P D vwCl (rep σ ++ [(q, E)]) H1 → va_D A (rep σ ++ [(q, E)]) → H1.size ≤ s.heap.size + (cells + 1) → q = x := fun g cells q => g _ q
    cases ins
    case iload n => exact ss_iload hx hb hxv hvi hvl hdec h
    case iload_n n => exact ss_iload_n hx hb hxv hvi hvl hdec h
    case lload n => exact ss_lload hx hb hxv hvi hvl hdec h
    case lload_n n => exact ss_lload_n hx hb hxv hvi hvl hdec h
    case aload n => exact ss_aload hx hb hxv hvi hvl hdec h
    case aload_n n => exact ss_aload_n hx hb hxv hvi hvl hdec h
    case istore n => exact ss_istore hx hb hxv hvi hvl hdec h
    case istore_n n => exact ss_istore_n hx hb hxv hvi hvl hdec h
    case lstore n => exact ss_lstore hx hb hxv hvi hvl hdec h
    case lstore_n n => exact ss_lstore_n hx hb hxv hvi hvl hdec h
    case astore n => exact ss_astore hx hb hxv hvi hvl hdec h
    case astore_n n => exact ss_astore_n hx hb hxv hvi hvl hdec h
    case iconst n => exact ss_iconst hx hb hxv hvi hvl hdec h
    case bipush n => exact ss_bipush hx hb hxv hvi hvl hdec (of_decide_eq_true hk) h
    case sipush n => exact ss_sipush hx hb hxv hvi hvl hdec (of_decide_eq_true hk) h
    case lconst n => exact ss_lconst hx hb hxv hvi hvl hdec h
    case aconst_null => exact ss_aconst_null hx hb hxv hvi hvl hdec hv0 h
    case ldc i =>
      match sw, hk, h with
      | [], hk, h =>
        obtain ⟨q, q1, q2, q3, q4⟩ := kstrs_in hk
        have q5 := hz.2.1 q q1
        rw [q2, q3, q4] at q5
        exact sh_ldcS hx hb hown rfl (hvs a (by rw [← q4]; exact kstrs_lt q q1)) q5 hdec h
      | q :: r, hk, h => exact ss_ldcI hx hb hxv hvi hvl hdec hown rfl (hts _ (inW_mem hk)) h
    case ldc_w i =>
      match sw, hk, h with
      | [], hk, h => cases hk
      | q :: r, hk, h => exact ss_ldcwI hx hb hxv hvi hvl hdec hown rfl (hts _ (inW_mem hk)) h
    case ldc2_w i =>
      match sw, hk, h with
      | [], hk, h => cases hk
      | q :: r, hk, h => exact ss_ldc2L hx hb hxv hvi hvl hdec hown rfl (hts _ (inW_mem hk)) h
    case iadd => exact ss_iadd hx hb hxv hvi hvl hdec h
    case isub => exact ss_isub hx hb hxv hvi hvl hdec h
    case imul => exact ss_imul hx hb hxv hvi hvl hdec h
    case iand => exact ss_iand hx hb hxv hvi hvl hdec h
    case ior => exact ss_ior hx hb hxv hvi hvl hdec h
    case ixor => exact ss_ixor hx hb hxv hvi hvl hdec h
    case ishl => exact ss_ishl hx hb hxv hvi hvl hdec h
    case ishr => exact ss_ishr hx hb hxv hvi hvl hdec h
    case iushr => exact ss_iushr hx hb hxv hvi hvl hdec h
    case idiv => exact ss_idiv hx hb hxv hvi hvl hdec h
    case irem => exact ss_irem hx hb hxv hvi hvl hdec h
    case ineg => exact ss_ineg hx hb hxv hvi hvl hdec h
    case ladd => exact ss_ladd hx hb hxv hvi hvl hdec h
    case lsub => exact ss_lsub hx hb hxv hvi hvl hdec h
    case lmul => exact ss_lmul hx hb hxv hvi hvl hdec h
    case land => exact ss_land hx hb hxv hvi hvl hdec h
    case lor => exact ss_lor hx hb hxv hvi hvl hdec h
    case ldiv => exact ss_ldiv hx hb hxv hvi hvl hdec h
    case lrem => exact ss_lrem hx hb hxv hvi hvl hdec h
    case lushr => exact ss_lushr hx hb hxv hvi hvl hdec h
    case lshl => exact ss_lshl hx hb hxv hvi hvl hdec h
    case lcmp => exact ss_lcmp hx hb hxv hvi hvl hdec h
    case i2l => exact ss_i2l hx hb hxv hvi hvl hdec h
    case l2i => exact ss_l2i hx hb hxv hvi hvl hdec h
    case i2c => exact ss_i2c hx hb hxv hvi hvl hdec h
    case i2b => exact ss_i2b hx hb hxv hvi hvl hdec h
    case dup => exact ss_dup hx hb hxv hvi hvl hdec h
    case dup2 => exact ss_dup2 hx hb hxv hvi hvl hdec h
    case pop => exact ss_pop hx hb hxv hvi hvl hdec h
    case iinc n i => exact ss_iinc hx hb hxv hvi hvl hdec h
    case ifCond cn o => exact ss_ifCond hx hb hxv hvi hvl hdec (of_decide_eq_true hk) h
    case if_icmp cn o => exact ss_if_icmp hx hb hxv hvi hvl hdec (of_decide_eq_true hk) h
    case goto o => exact ss_goto hx hb hxv hvi hvl hdec (of_decide_eq_true hk) h
    case ifnonnull o => exact ss_ifnonnull hx hb hxv hvi hvl hdec (of_decide_eq_true hk) h
    case tableswitch dv lo hi offs =>
      obtain ⟨k1, k2⟩ := Bool.and_eq_true_iff.mp hk
      obtain ⟨k2, k3⟩ := Bool.and_eq_true_iff.mp k2
      have k3 := of_decide_eq_true k3
      refine ss_tableswitch hx hb hxv hvi hvl hdec (of_decide_eq_true k1) (fun q hq => ?_) (fun v v1 v2 => ?_) h
      · have k4 := List.all_eq_true.mp k2 q hq
        obtain ⟨k4, k5⟩ := Bool.and_eq_true_iff.mp k4
        obtain ⟨k5, k6⟩ := Bool.and_eq_true_iff.mp k5
        obtain ⟨k6, k7⟩ := Bool.and_eq_true_iff.mp k6
        exact ⟨of_decide_eq_true k4, of_decide_eq_true k5, of_decide_eq_true k6, of_decide_eq_true k7⟩
      · have hm : v ∈ sw.map (fun q => q.1) := by
          rw [k3]
          exact List.mem_map.mpr ⟨(v - lo).toNat, List.mem_range.mpr (by omega), by omega⟩
        obtain ⟨q, q1, q2⟩ := List.mem_map.mp hm
        exact ⟨q, q1, q2⟩
    case lookupswitch dv ps =>
      obtain ⟨k1, k2⟩ := Bool.and_eq_true_iff.mp hk
      obtain ⟨k2, k3⟩ := Bool.and_eq_true_iff.mp k2
      obtain ⟨k3, k4⟩ := Bool.and_eq_true_iff.mp k3
      have k4 := of_decide_eq_true k4
      refine ss_lookupswitch hx hb hxv hvi hvl hdec (of_decide_eq_true k1) k2 (fun q hq => ?_) (fun v hv => ?_) h
      · have k5 := List.all_eq_true.mp k3 q hq
        obtain ⟨k5, k6⟩ := Bool.and_eq_true_iff.mp k5
        exact ⟨of_decide_eq_true k5, of_decide_eq_true k6⟩
      · refine off_none fun q hq e => ?_
        have hm : q.1 ∈ sw.map (fun q => q.1) := by rw [k4]; exact List.mem_map.mpr ⟨q, hq, rfl⟩
        obtain ⟨q', q1, q2⟩ := List.mem_map.mp hm
        exact hv q' q1 (q2.trans e)
    case getfield i =>
      cases hC : vwCl[a]? with
      | some r =>
        obtain ⟨C, T, N⟩ := r
        dsimp only [elkb] at hk
        rw [hC] at hk
        obtain ⟨k1, k2⟩ := Bool.and_eq_true_iff.mp hk
        have hlt : a < 13 := (List.getElem?_eq_some_iff.mp hC).1
        exact sh_getfield (sdat := fun k r v => a = 13 ∧ strK k r v) hx hb hts hown hK (fun σ r v g1 g2 => ogf a k σ r v g1 g2) (fun _ => ⟨hC, Nat.le_of_ble_eq_true k1, (cls_ok hC).1, inW_mem k2⟩) (fun r v g => absurd g.1 (by omega)) hdec h
      | none =>
        dsimp only [elkb] at hk
        rw [hC] at hk
        have hge : ¬ a < 13 := fun z => by
          have := List.getElem?_eq_none_iff.mp hC
          exact absurd z (Nat.not_lt.mpr this)
        refine sh_getfield (C := "") (T := TX0) (N := 0) (sdat := fun k r v => a = 13 ∧ strK k r v) hx hb hts hown hK (fun σ r v g1 g2 => ogf a k σ r v g1 g2) (fun z => absurd z hge) (fun r v g => ?_) hdec h
        obtain ⟨-, i', hi', rfl, g | g⟩ := g
        · obtain ⟨rfl, rfl⟩ := g
          exact ⟨_, _, _, (hz.2.2.1.1 i' hi').2.1, hts _ (inW_mem hk)⟩
        · obtain ⟨rfl, rfl⟩ := g
          exact ⟨_, _, _, (hz.2.2.1.1 i' hi').2.2.1, hts _ (inW_mem hk)⟩
    case putfield i =>
      dsimp only [elkb] at hk
      cases hC : vwCl[a]? with
      | none => rw [hC] at hk; cases hk
      | some r =>
        obtain ⟨C, T, N⟩ := r
        rw [hC] at hk
        obtain ⟨k1, k2⟩ := Bool.and_eq_true_iff.mp hk
        obtain ⟨k2, k3⟩ := Bool.and_eq_true_iff.mp k2
        obtain ⟨c1, ⟨ty0, c2⟩, c3, c4, c5⟩ := cls_ok hC
        refine sh_putfield hx hb hts hown hK (fun σ r v σ' g1 g2 g3 => ?_) hC (Nat.le_of_ble_eq_true k1) c1 ty0 c2 c3 (inW_mem k2) ?_ hdec h
        · obtain ⟨g4, g5, g6, g7⟩ := opf a k C T N σ r v σ' hC g1 g2 g3
          exact ⟨g4, fun n q => g5 _ q, g6, g7⟩
        · rcases Bool.or_eq_true_iff.mp k3 with k4 | k4
          · exact Or.inl (by simpa using k4)
          · obtain ⟨k5, k6⟩ := Bool.and_eq_true_iff.mp k4
            by_cases hf : (T k).2.2.2 = false
            · exact Or.inl hf
            · exact Or.inr ⟨by simpa using hf, hini k5, of_decide_eq_true k6⟩
    case getstatic i =>
      dsimp only [elkb] at hk
      cases hs : ksta a with
      | none => rw [hs] at hk; cases hk
      | some r =>
        obtain ⟨C, n, dd⟩ := r
        rw [hs] at hk
        exact sh_getstatic hx hb hown (fun v hv => ⟨(ogs a v hv).2, C, n, dd, hz.2.2.2.2.1 a C n dd v hs (ogs a v hv).1, hts _ (inW_mem hk)⟩) hdec h
    case iaload => exact sh_iaload hx hb hK hvi (by rw [hty]; rfl) hlai hdec h
    case baload =>
      refine sh_baload hx hb hvi (fun σ r n f g1 g2 => ?_) hdec h
      obtain ⟨i, hi, rfl, rfl, rfl⟩ := oab σ r n f g1 g2
      exact ⟨Nat.le_of_ble_eq_true rfl, kby_3 i hi, strT hz hi⟩
    case laload => exact sh_laload hx hb hK hvl (by rw [hty]; rfl) oal hdec h
    case aaload => exact sh_aaload hx hb hK oar hdec h
    case iastore => exact sh_iastore hx hb hK (by rw [hty]; rfl) hlwi hdec h
    case lastore =>
      refine sh_lastore hx hb hK (by rw [hty]; rfl) (fun σ r n f f' σ' g1 g2 g3 => ?_) hdec h
      obtain ⟨g4, g5, g6, g7⟩ := owl σ r n f f' σ' g1 g2 g3
      exact ⟨g4, g5, fun n q => g6 _ q, g7⟩
    case aastore =>
      refine sh_aastore (cT := cT) hx hb hK (fun σ r n f j x σ' g1 g2 g3 g4 g5 => ?_) hdec h
      obtain ⟨u1, u2, u3, u4, u5⟩ := owr σ r n f j x σ' g1 g2 g3 g4 g5
      exact ⟨u1, u2, u3, fun n q => u4 _ q, u5⟩
    case arraylength =>
      refine sh_arraylength hx hb hK hvi (fun σ r n g1 g2 => ?_) hdec h
      obtain ⟨g3, g4⟩ := oln σ r n g1 g2
      refine ⟨g3, ?_⟩
      rcases g4 with g4 | ⟨i, hi, rfl, rfl⟩ | ⟨i, hi, rfl, rfl⟩ | ⟨rfl, rfl⟩
      · exact Or.inl g4
      · exact Or.inr ⟨_, _, hz.2.2.2.1 i hi⟩
      · exact Or.inr ⟨_, _, strT hz hi⟩
      · exact Or.inr ⟨_, _, hz.2.2.2.2.2.1⟩
    case new i =>
      dsimp only [elkb] at hk
      cases hC : vwCl[a]? with
      | none => rw [hC] at hk; cases hk
      | some r =>
        obtain ⟨C, T, N⟩ := r
        rw [hC] at hk
        obtain ⟨c1, ⟨ty0, c2⟩, c3, c4, c5⟩ := cls_ok hC
        refine sh_new hx hb hts hown hK hA hC c1 ty0 c2 (inW_mem hk) c4 c5 (fun σ r n σ' g => ?_) hdec h
        obtain ⟨u1, u2, u3, fs, u4, u5, u6⟩ := onw a C T N ty0 σ r n σ' hC c2 g
        exact ⟨u1, u2, u3, fs, u4, u5, hn u6⟩
    case newarray t =>
      dsimp only [elkb] at hk
      split at hk
      · refine sh_newarray (at' := .int) (cT := cT) (ty := .int) hx hb hK hA (hts _ kw_ai) rfl (by rw [hty]; rfl) (by decide) (fun C z => by cases z) (fun σ n r σ' g => ?_) hdec h
        obtain ⟨u1, u2, u5, u6⟩ := ona0 σ n r σ' g
        exact ⟨u1, u2, _, fun cA => rfl, u5, hn u6⟩
      · refine sh_newarray (at' := .long) (cT := cT) (ty := .long) hx hb hK hA (hts _ kw_al) rfl (by rw [hty]; rfl) (by decide) (fun C z => by cases z) (fun σ n r σ' g => ?_) hdec h
        obtain ⟨u1, u2, u5, u6⟩ := ona1 σ n r σ' g
        exact ⟨u1, u2, _, fun cA => rfl, u5, hn u6⟩
      · cases hk
    case anewarray i =>
      dsimp only [elkb] at hk
      split at hk
      · refine sh_anewarray (cT := cT) hx hb hts hown hK hA (inW_mem hk) hz.2.2.2.2.2.2.1 (by rw [hty]; rfl) (fun σ n r σ' g => ?_) hdec h
        obtain ⟨u1, u2, u5, u6⟩ := ona2 2 σ n r σ' (Or.inl rfl) g
        exact ⟨u1, u2, u5, hn u6⟩
      · refine sh_anewarray (cT := cT) hx hb hts hown hK hA (inW_mem hk) hz.2.2.2.2.2.2.2 (by rw [hty]; rfl) (fun σ n r σ' g => ?_) hdec h
        obtain ⟨u1, u2, u5, u6⟩ := ona2 3 σ n r σ' (Or.inr rfl) g
        exact ⟨u1, u2, u5, hn u6⟩
      · cases hk
    case invokestatic i =>
      match a, hk, h with
      | 0, hk, h =>
        dsimp only [elkb] at hk
        split at hk
        · exact sh_arraycopy hx hb hml hxv hK (by rw [hty]; rfl) hown (hts _ (inW_mem hk)) (hts _ kw_nat) (hts _ kw_sta) (hts _ kw_sys) (by omega) (by omega) hlai hlwi hdec h
        · exact sh_m101 hx hb hml hxv hvi hvl hown (hts _ (inW_mem hk)) (hts _ kw_s101) (hts _ kw_math) (hts _ kw_c101) (by omega) (by omega) hdec h
        · exact sh_m102 hx hb hml hxv hvi hvl hown (hts _ (inW_mem hk)) (hts _ kw_s102) (hts _ kw_math) (hts _ kw_c102) (by omega) (by omega) hdec h
        · exact sh_m103 hx hb hml hxv hvi hvl hown (hts _ (inW_mem hk)) (hts _ kw_s103) (hts _ kw_math) (hts _ kw_c103) (by omega) (by omega) hdec h
        · exact sh_m104 hx hb hml hxv hvi hvl hown (hts _ (inW_mem hk)) (hts _ kw_s104) (hts _ kw_math) (hts _ kw_c104) (by omega) (by omega) hdec h
        · exact sh_m105 hx hb hml hxv hvi hvl hown (hts _ (inW_mem hk)) (hts _ kw_s105) (hts _ kw_math) (hts _ kw_c105) (by omega) (by omega) hdec h
        · cases hk
      | a + 1, hk, h =>
        dsimp only [elkb] at hk
        split at hk
        · rename_i y cb mx ret n hi
          obtain ⟨k1, k2⟩ := Bool.and_eq_true_iff.mp hk
          obtain ⟨k2, k3⟩ := Bool.and_eq_true_iff.mp k2
          have k3 := of_decide_eq_true k3
          obtain ⟨z1, z2, z3, z4, z5, -⟩ := hall a y cb mx ret n 0 hi
          refine sk_static hx hb hml hown hxv hts hG z1 hR (z3 rfl) (slkb_lk hz k2) hZ hSz hF (Nat.eq_of_beq_eq_true k1) (fun as σ Q' g1 g2 => ?_) hdec h
          have := hcall a as σ Q' y cb mx ret n 0 g1 g2 hi
          rw [k3] at this
          exact this
        · cases hk
    case invokevirtual i =>
      dsimp only [elkb] at hk
      split at hk
      · rename_i y cb mx ret n q hi
        obtain ⟨k1, k2⟩ := Bool.and_eq_true_iff.mp hk
        obtain ⟨k2, k3⟩ := Bool.and_eq_true_iff.mp k2
        obtain ⟨k3, k4⟩ := Bool.and_eq_true_iff.mp k3
        have k3 := of_decide_eq_true k3
        have k4 := of_decide_eq_true k4
        obtain ⟨z1, z2, z3, z4, z5, -⟩ := hall a y cb mx ret n 1 hi
        refine sk_virtual (C := y.cls) hx hb hml hown hxv hts hG z1 hR (z4 rfl).1 (z4 rfl).2 (slkb_lk hz k2) hZ hSz hF (Nat.eq_of_beq_eq_true k1) (fun σ r ci q' g1 g2 g3 g4 => ?_) (fun as σ Q' g1 g2 => ?_) hdec h
        · obtain ⟨u1, u2⟩ := oco σ r ci g2 g1
          refine ⟨u1, fun H locs v1 v2 => ?_⟩
          have e1 : q' = q := by simpa using g3
          subst e1
          rw [← k4, ← g4]
          rcases u2 with ⟨q0, fs, u2⟩ | ⟨rfl, i', hi', rfl⟩
          · obtain ⟨r0, w0, -⟩ := v1.1 q0 _ u2
            have e2 : kcls ci = r0.1 := by
              have hlt : ci < 13 := (List.getElem?_eq_some_iff.mp w0).1
              unfold kcls
              split
              · omega
              · rw [show vwCl[ci]? = some r0 from w0]
            rw [e2]
            exact va_recv hK v1.1 w0 u2
          · exact vk_recv hz.2.2.1 hi' v2
        · have := hcall a as σ Q' y cb mx ret n 1 g1 g2 hi
          rw [k3] at this
          exact this
      · cases hk
    case invokespecial i =>
      match a, hk, h with
      | 0, hk, h => exact sk_object hx hb hml hown hxv hR (hts _ (inW_mem hk)) (hts _ kw_oi) (hts _ kw_oc) hdec h
      | a + 1, hk, h =>
        dsimp only [elkb] at hk
        split at hk
        · rename_i y cb mx n q hi _ _
          obtain ⟨k1, k2⟩ := Bool.and_eq_true_iff.mp hk
          obtain ⟨k2, k3⟩ := Bool.and_eq_true_iff.mp k2
          have k3 := of_decide_eq_true k3
          obtain ⟨z1, z2, z3, z4, z5, -⟩ := hall a y cb mx none n 2 hi
          refine sk_special hx hb hml hown hxv hts hG z1 hR (z5 rfl).1 (z5 rfl).2 (slkb_lk hz k2) hZ hSz hF (Nat.eq_of_beq_eq_true k1) (fun σ r ci g1 g2 => (oco σ r ci g2 g1).1) (fun q' as σ Q' g0 g1 g2 => ?_) hdec h
          have e1 : q' = q := by simpa using g0
          subst e1
          have := hcall a as σ Q' y cb mx none n 2 g1 g2 hi
          rw [k3] at this
          exact this
        · cases hk
    case ireturn => exact sk_ireturn (fun x H locs cells slots ls g1 g2 g3 g4 g5 g6 g7 g8 => hretI σ x H locs cells slots ls pc g1 g2 g3 g4 g5 g6 g7 g8) hdec h
    case lreturn => exact sk_lreturn (fun x H locs cells slots ls g1 g2 g3 g4 g5 g6 g7 g8 => hretL σ x H locs cells slots ls pc g1 g2 g3 g4 g5 g6 g7 g8) hdec h
    case return_ => exact sk_return (fun H locs cells slots ls g1 g2 g3 g4 g5 g6 g7 g8 => hretV σ H locs cells slots ls pc g1 g2 g3 g4 g5 g6 g7 g8) hdec h
    all_goals exact False.elim h
  · exact h.elim
