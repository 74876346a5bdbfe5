/-! ===== the law's helper: it keeps what isle answers, or catches what it throws ===== -/
section
variable {cT : Nat → ClassId} {ad : Nat × Nat → Nat} {xv : Value} {D : va_G} {A : Nat → Prop}
theorem k55_all : (kcx.all fun r => decide (r.1 = 55) || ((kobj r.1).isSome || ((karr r.1).isSome || (decide (r.1 = 16) || decide (r.1 = 23))))) = true := by decide +kernel
theorem k55_ne {σ : S2} {x : Int64} {r : Nat × Nat} (hr : r ∈ kcx) (h : r.1 ≠ 55) : kce cT ad xv (σ.1, uJ σ.2 55 x) r = kce cT ad xv σ r := by
  have h1 := List.all_eq_true.mp k55_all r hr
  unfold kce
  cases ho : kobj r.1 with
  | some q =>
    dsimp only
    have e : kfs ad xv (σ.1, uJ σ.2 55 x) r.1 r.2 q.2 = kfs ad xv σ r.1 r.2 q.2 := by
      unfold kfs kfv
      rw [show (σ.1, uJ σ.2 55 x).2 r.1 = σ.2 r.1 from uJ_ne h]
    rw [e]
  | none =>
    dsimp only
    cases ha : karr r.1 with
    | some n => rfl
    | none =>
      dsimp only
      rw [decide_eq_false h, ho, ha] at h1
      have h1 : (decide (r.1 = 16) || decide (r.1 = 23)) = true := h1
      rcases Bool.or_eq_true_iff.mp h1 with w | w
      · rw [of_decide_eq_true w]
        rfl
      · rw [of_decide_eq_true w]
        rfl
theorem k55_set {σ : S2} {x : Int64} : krep cT ad xv (σ.1, uJ σ.2 55 x) = (krep cT ad xv σ).set (kix kcx (55, 0)) (ad (55, 0), .inl (cT 1, 1, .inr (.inl (fun _ => x)))) := by
  have h55 : (0 : Nat) < kcn 55 := by decide +kernel
  have hm := map_updM kcx (fun r => (ad r, kce cT ad xv σ r)) (fun r => (ad r, kce cT ad xv (σ.1, uJ σ.2 55 x) r)) (kix kcx (55, 0)) (55, 0) (kcell_of (r := (55, 0)) (by show 10 ≤ 55; omega) h55) (fun j hj => ((kcx_at hj).1).symm) (fun r hr hne => by
    have hr1 : r.1 ≠ 55 := fun z => by
      have hb := Nat.le_of_ble_eq_true (List.all_eq_true.mp kcx_ok r hr)
      rw [z] at hb
      have : kcn 55 = 1 := by decide +kernel
      exact hne (Prod.ext z (by show r.2 = 0; omega))
    rw [k55_ne hr hr1])
  have hk2 : kce cT ad xv (σ.1, uJ σ.2 55 x) (55, 0) = .inl (cT 1, 1, .inr (.inl (fun _ => x))) := by
    show (Sum.inl (cT 1, 1, .inr (.inl (fun _ => uJ σ.2 55 x 55))) : va_E) = _
    rw [uJ_eq]
  rw [← hk2]
  exact hm
/-- the one place of the long array, written -/
theorem k55_rel {σ : S2} {x : Int64} {H : Heap} (h : va_P D vwCl ((krep cT ad xv σ).set (kix kcx (55, 0)) (ad (55, 0), .inl (cT 1, 1, .inr (.inl (vp_updL (fun _ => σ.2 55) 0 x))))) H) (hD : va_D A ((krep cT ad xv σ).set (kix kcx (55, 0)) (ad (55, 0), .inl (cT 1, 1, .inr (.inl (vp_updL (fun _ => σ.2 55) 0 x)))))) : HRel D A (krep cT ad xv) (σ.1, uJ σ.2 55 x) H := by
  have hlt : kix kcx (55, 0) < (krep cT ad xv σ).length := by
    unfold krep
    rw [List.length_map]
    exact (List.getElem?_eq_some_iff.mp (kcell_of (r := (55, 0)) (by show 10 ≤ 55; omega) (by decide +kernel : (0 : Nat) < kcn 55))).1
  have hg : ∀ (i : Nat) (q : Nat × va_E), (krep cT ad xv (σ.1, uJ σ.2 55 x))[i]? = some q → ∃ q', ((krep cT ad xv σ).set (kix kcx (55, 0)) (ad (55, 0), .inl (cT 1, 1, .inr (.inl (vp_updL (fun _ => σ.2 55) 0 x)))))[i]? = some q' ∧ q'.1 = q.1 ∧ (va_at D vwCl q' H → va_at D vwCl q H) := by
    intro i q hq
    rw [k55_set, List.getElem?_set] at hq
    rw [List.getElem?_set]
    by_cases hi : kix kcx (55, 0) = i
    · rw [if_pos hi, if_pos hlt] at hq
      rw [if_pos hi, if_pos hlt]
      cases hq
      refine ⟨_, rfl, rfl, fun h => ?_⟩
      have h : H[ad (55, 0)]? = some (arrV (cT 1) 1 (fun j => .long (vp_updL (fun _ => σ.2 55) 0 x j))) := h
      show H[ad (55, 0)]? = some (arrV (cT 1) 1 (fun _ => .long x))
      rw [h, arrV_eq (cT 1) (g := fun _ => .long x) (fun j hj => ?_)]
      have : j = 0 := by omega
      subst this
      rfl
    · rw [if_neg hi] at hq
      rw [if_neg hi]
      exact ⟨q, hq, rfl, id⟩
  refine ⟨fun i q hq => ?_, fun i j p q hp hq e => ?_, fun i q hq => ?_⟩
  · obtain ⟨q', e1, e2, e3⟩ := hg i q hq
    exact e3 (h i q' e1)
  · obtain ⟨p', e1, e2, e3⟩ := hg i p hp
    obtain ⟨q', f1, f2, f3⟩ := hg j q hq
    exact hD.1 i j p' q' e1 f1 (by rw [e2, f2]; exact e)
  · obtain ⟨q', e1, e2, e3⟩ := hg i q hq
    rw [← e2]
    exact hD.2 i q' e1
end
section
variable {l : Launch} {ad : Nat × Nat → Nat} {xv : Value} {D : va_G} {A : Nat → Prop} {tys : List (ClassId × FieldType)} {cT : Nat → ClassId} {xs : Nat → Int32} {L : Nat}
theorem k_vok : ∀ r : Nat × Nat, r = (10, 0) ∨ r = (55, 0) → kvok (.inr (.inr r)) := by
  intro r h
  rcases h with rfl | rfl
  · show 0 < kcn 10
    decide +kernel
  · show 0 < kcn 55
    decide +kernel
set_option maxRecDepth 20000 in
set_option maxHeartbeats 4000000 in
theorem c_help (hst : l.stackTraces = false) (hall : ∀ m, KOK m) (hxv : xvOk xv) (hty : tys = [(cT 0, .int), (cT 1, .long), (cT 2, .object "DriftSea$Rule"), (cT 3, .object "DriftSea$State")]) (hO : OLaw (O3 xs L) D A (krep cT ad xv) szT ad xv kvok cT tys xs L) (hZ : ZLaw A (ZK A ad xv xs L)) {a b k : Int32} {σ σ1 : S2} (hcase : (∃ r, f_D_isle a b σ = some r ∧ σ1 = (σ.1, uJ σ.2 55 r.toInt64) ∧ k = Int32.ofInt 0) ∨ (badI a b σ ∧ σ1 = σ ∧ k = Int32.ofInt 1)) : Met l y_H (Cond.codeWith y_H bs_H 5 (some .int) hh_H :: Wd) (rmD 30 1 6) (va_Pc ([mR 10 0, mI a, mI b, mR 55 0].map (em ad xv)) (MPx D tys A (ZK A ad xv xs L) (krep cT ad xv) szT σ)) (MQc D A (krep cT ad xv) szT ad xv kvok 1 (fun σ' r => σ' = σ1 ∧ r = some (mI k))) 1 6 A := by
  have hSz : SzLaw D A (krep cT ad xv) szT := szT_law
  obtain ⟨z1, z2, z3, z4, z5, -⟩ := hall k_D_isle y_isle bs_isle 3 (some .int) 2 1 rfl
  refine va_MetW (cc := bs_H) (maxL := 5) (ret := some .int) (hh := hh_H) (by decide +kernel) rfl ?_
  intro p e s m args below meth c s₁ B hml hv
  obtain ⟨rfl, ⟨hF, hH, hsz⟩, hux⟩ := hv
  generalize hargs : ([mR 10 0, mI a, mI b, mR 55 0].map (em ad xv)) = av at B
  have hts0 := atoms_spec (ws := Cond.codeWith y_H bs_H 5 (some .int) hh_H :: Wd) B.pre
  have hts : ∀ w ∈ Wd, w.before av.toArray s = true := fun w hw => hts0 w (List.mem_cons_of_mem _ hw)
  have htab := vx_table (x := y_H) B (hts0 _ List.mem_cons_self)
  have hown : s.vm.findClass "DriftSeaLaw" = some m.cls := findClass_of_methodNamed B.named
  have hlocks := B.notSynchronized
  have hr := B.returns
  have hb := B.bytes
  have hx := B.exec
  have hK := hF.1
  show W p l e (rmD 30 1 6) s m av.toArray below meth c s.heap [] 0 0 (MQ below (MQc D A (krep cT ad xv) szT ad xv kvok 1 (fun σ' r => σ' = σ1 ∧ r = some (mI k))) av.toArray s 1 6 A) (entryFrame m av.toArray 5)
  have hva : ∀ v ∈ ([mR 10 0, mI a, mI b, mR 55 0] : List MV), kvok v := fun v hv => by
    rcases List.mem_cons.mp hv with rfl | hv
    · exact k_vok _ (Or.inl rfl)
    · rcases List.mem_cons.mp hv with rfl | hv
      · trivial
      · rcases List.mem_cons.mp hv with rfl | hv
        · trivial
        · rcases List.mem_cons.mp hv with rfl | hv
          · exact k_vok _ (Or.inr rfl)
          · cases hv
  have hl0 := LVr_init (ad := ad) (xv := xv) (vok := kvok) hxv (as := [mR 10 0, mI a, mI b, mR 55 0]) (mx := 5) hva (Nat.le_of_ble_eq_true rfl)
  rw [hargs] at hl0
  rw [lg_entry_eq]
  generalize (lg_sl av ++ List.replicate (5 - (lg_sl av).length) Slot.unset).toArray = ls at hl0 ⊢
  have e0 : ls[0]? = some (.val (.ref (ad (10, 0)))) := hl0.get (k := 0) (v := mR 10 0) rfl
  have e1 : ls[1]? = some (.val (.int a)) := hl0.get (k := 1) (v := mI a) rfl
  have e2 : ls[2]? = some (.val (.int b)) := hl0.get (k := 2) (v := mI b) rfl
  have e3 : ls[3]? = some (.val (.ref (ad (55, 0)))) := hl0.get (k := 3) (v := mR 55 0) rfl
  have hcell : (krep cT ad xv σ)[kix kcx (10, 0)]? = some (ad (10, 0), .inr (11, kfs ad xv σ 10 0 [(4, 11, 0), (4, 13, 0), (4, 13, 1), (4, 16, 0), (4, 17, 4), (4, 20, 0), (4, 20, 1), (4, 22, 0), (4, 25, 0), (4, 26, 0), (4, 31, 0), (4, 41, 0), (4, 45, 0), (4, 49, 0), (0, 0, 0), (0, 0, 0), (1, 0, 0)])) := by
    rw [krep_at (r := (10, 0)) (by show 10 ≤ 10; omega) (by decide +kernel : (0 : Nat) < kcn 10)]
    rfl
  have hrecv := va_recv (q := (RX11, TX11, 17)) (ci := 11) hK hH.1 rfl hcell
  refine lv_aload_n hx hb dh_0 rfl e3 ?_
  refine lv_iconst hx hb dh_1 rfl ?_
  refine lv_aload_n hx hb dh_2 rfl e0 ?_
  refine lv_iload_n hx hb dh_3 rfl e1 ?_
  refine lv_iload_n hx hb dh_4 rfl e2 ?_
  rcases hcase with ⟨r, hr1, rfl, rfl⟩ | ⟨hbad, rfl, rfl⟩
  · have hcall := c_D_isle (xs := xs) (L := L) (d := 20) (Q := fun s' v => s' = σ ∧ v = some (mI r)) hr1 ⟨rfl, rfl⟩
    have hM := sound_call (l := l) hall hxv hty hO hZ hSz 23 k_D_isle [mR 10 0, mI a, mI b] σ _ y_isle bs_isle 3 (some .int) 2 1 hcall (fun v hv => hva v (by
      rcases List.mem_cons.mp hv with rfl | hv
      · exact List.mem_cons_self
      · rcases List.mem_cons.mp hv with rfl | hv
        · exact List.mem_cons_of_mem _ List.mem_cons_self
        · rcases List.mem_cons.mp hv with rfl | hv
          · exact List.mem_cons_of_mem _ (List.mem_cons_of_mem _ List.mem_cons_self)
          · cases hv)) rfl
    have hrun := sc_virtual (e := e) (below := below) (meth := meth) (locs := []) (cells := 0) (slots := 0) (ls := ls) (rest := [.int (Int32.ofInt 0), .ref (ad (55, 0))]) (R := rmD 30 1 6) (d := 23) (mc := 0) (ms := 0) (As := [.int a, .int b]) (x := ad (10, 0)) (C := "DriftSea") (own := "DriftSeaLaw") (i := 7) (pc := 5) (bs := bs_H) (nL := 5) (H := s.heap) hx hb hml hown hts Wd_good z1 ⟨by decide, by decide⟩ (z4 rfl).1 (z4 rfl).2 (Or.inl wx_m) hM ⟨MPre.blind hZ _ _, hrecv, fun U hU hW => ⟨rfl, MPre.at (cells := 0) hZ hSz hF hH va_S.rf hsz (Nat.le_refl _) hU hW⟩⟩ rfl hl0.1.1 (Nat.le_of_ble_eq_true rfl) dh_5 ⟨by decide, by decide⟩
    refine sc_back hSz hH hsz (Nat.le_refl _) hrun va_S.rf fun σ' r' H1 locs1 k1 k2 k3 k4 k5 => ?_
    obtain ⟨rfl, rfl⟩ := k1
    show W p l e (rmD 30 1 6) s m av.toArray below meth c H1 locs1 0 0 _ (F0 m 8 ls [.int r, .int (Int32.ofInt 0), .ref (ad (55, 0))])
    refine lv_i2l hx hb dh_8 rfl ?_
    have h55 : (krep cT ad xv σ')[kix kcx (55, 0)]? = some (ad (55, 0), .inl (cT 1, 1, .inr (.inl (fun _ => σ'.2 55)))) := by
      rw [krep_at (r := (55, 0)) (by show 10 ≤ 55; omega) (by decide +kernel : (0 : Nat) < kcn 55)]
      rfl
    have hj : (Int32.ofInt 0).toNatClampNeg = 0 := by decide +kernel
    refine va_last hx hb hK k2.1 k2.2 k3 (kix kcx (55, 0)) 1 h55 (by rw [hty]; rfl) (by
      show ¬ (Int32.ofInt 0 < 0 ∨ 1 ≤ (Int32.ofInt 0).toNatClampNeg)
      decide +kernel) dh_9 fun H2 locs2 q1 q2 q3 => ?_
    rw [hj] at q1 q2
    have hrel := k55_rel q1 q2
    refine lv_goto hx hb dh_10 (show ((10 : Nat) : Int) + 7 = ((17 : Nat) : Int) by decide) ?_
    refine lv_iconst hx hb dh_17 rfl ?_
    refine W.widen (k := 1) (n := 6) (by omega) (by omega) ?_
    exact W.iret hx hb hr (fun t ht hW => ⟨⟨_, some (mI (Int32.ofInt 0)), rfl, ⟨rfl, rfl⟩, by rw [ht]; exact hrel, trivial, fun v hv => by cases hv; trivial⟩, q3.F ht⟩) q3.2.2 dh_18
  · have hM := c_isle_x (l := l) (xs := xs) (L := L) hst hall hxv hty hO hZ hSz hbad
    obtain ⟨u1, u2, u3, u4, u5⟩ := z1
    have hB := sc_base (R := rmD 30 1 6) (d := 21) (y := y_isle) (cb := bs_isle) (mx := 3) (ret := some .int) (na := 2) (mc := 1) (ms := 6) hts Wd_good ⟨u1, u2, u3, u4, u5⟩ ⟨by decide, by decide⟩
    have hrun := vx_runV (e := e) (below := below) (meth := meth) (locs := []) (cells := 0) (slots := 0) (R := rmD 30 1 6) (own := "DriftSeaLaw") (C := "DriftSea") (index := 7) (y := y_isle) (bytes := bs_isle) (maxL := 3) (ret := some .int) (cc := bs_H) (nL := 5) (n := 2) (mc := 1) (ms := 6) (As := [.int a, .int b]) (b := ad (10, 0)) (rest := [.int (Int32.ofInt 0), .ref (ad (55, 0))]) (H := s.heap) (g := F0 m 5 ls [.int b, .int a, .ref (ad (10, 0)), .int (Int32.ofInt 0), .ref (ad (55, 0))]) ⟨hx, hb, hml, hown, hts⟩ hM ⟨⟨hB.1, hB.2.1, hB.2.2.1, hB.2.2.2.1, hB.2.2.2.2.1, hB.2.2.2.2.2, hts _ u1, hts _ u2, u3, u4, hts _ wx_m⟩, hts _ (z4 rfl).1, hts _ (z4 rfl).2⟩ ⟨MPx.blind hZ _ _, hrecv, fun U hU hW => ⟨rfl, MPre.at (cells := 0) hZ hSz hF hH va_S.rf hsz (Nat.le_refl _) hU hW, hux.at va_S.rf hU hW⟩⟩ rfl rfl hl0.1.1 rfl (Nat.le_of_ble_eq_true rfl) dh_5 ⟨by decide, by decide⟩
    intro T hT X
    rcases hrun T hT X with ⟨v, st₀, t, T', L', h0, X', hL, e4, e5, hq, st⟩ | ⟨q, st₀, t, T', L', E, ce, h0, X', hL, e4, e5, ⟨u, hp, ⟨hE, hrel⟩, hFF⟩, hce, hcv, hcl, st⟩
    · exact hq.elim
    · obtain ⟨w1, w2, w3⟩ := vx_keep h0 e4 (va_S.rf (A := A)) (fun q _ h => h) (fun q h => h) hL hFF
      subst hE
      have hk : W p l e (rmD 30 1 6) s m av.toArray below meth c T'.heap ([] ++ L') (0 + 1) (0 + 6) (MQ below (MQc D A (krep cT ad xv) szT ad xv kvok 1 (fun σ' r => σ' = σ1 ∧ r = some (mI (Int32.ofInt 1)))) av.toArray s 1 6 A) (F0 m 13 ls [.ref q]) := by
        refine lv_astore hx hb dh_13 hl0.1 (by decide) rfl fun ls' hls' => ?_
        refine lv_iconst hx hb dh_15 rfl ?_
        exact W.iret hx hb hr (fun t' ht hW => ⟨⟨σ1, some (mI (Int32.ofInt 1)), rfl, ⟨rfl, rfl⟩, by rw [ht, e4]; exact hrel, trivial, fun v hv => by cases hv; trivial⟩, w3.F ht⟩) w3.2.2 dh_16
      have hcatch : vx_W p l e (rmD 30 1 6) s m av.toArray below meth c T'.heap ([] ++ L') (0 + 1) (0 + 6) (MQ below (MQc D A (krep cT ad xv) szT ad xv kvok 1 (fun σ' r => σ' = σ1 ∧ r = some (mI (Int32.ofInt 1)))) av.toArray s 1 6 A) (F0 m 5 ls [.int (Int32.ofInt 0), .ref (ad (55, 0))]) q :=
        vx_catch (own := "DriftSeaLaw") (name := NSE) (E := NSE) (ce := ce) hown [] { startPc := 0, endPc := 10, handlerPc := 13, catchType := 13 } [] htab (fun z hz => nomatch hz) rfl (by decide) (hts _ wx_l) (va_Nw.use rfl (hux.2.2 _ List.mem_cons_self)) (by rw [e4]; exact hce) hcv hcl hk
      obtain ⟨t2, a1, b1⟩ := hcatch T' rfl X'
      exact ⟨t2, st.trans a1, b1⟩
end
