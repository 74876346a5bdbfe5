/-! ===== the walk of the law's body from its entry ===== -/
theorem dl_0 : decode code 0 = .ok (.new 8, 3) := by decide +kernel
theorem dl_398 : decode code 398 = .ok (.invokestatic 38, 3) := by decide +kernel
theorem dl_1961 : decode code 1961 = .ok (.ireturn, 1) := by decide +kernel
theorem tw_11 : decide (lw_tbl[143]? = some (.classLink "DriftSeaLaw" 8 "DriftSea")) = true := by decide +kernel
theorem fs0_ok : ∀ (ad : Nat × Nat → Nat) (xv : Value) (j : Nat), j < 17 → defaultValue (tyX11 j) = vp_V (fs0.map (em ad xv)) j := by
  intro ad xv j hj
  have : j = 0 ∨ j = 1 ∨ j = 2 ∨ j = 3 ∨ j = 4 ∨ j = 5 ∨ j = 6 ∨ j = 7 ∨ j = 8 ∨ j = 9 ∨ j = 10 ∨ j = 11 ∨ j = 12 ∨ j = 13 ∨ j = 14 ∨ j = 15 ∨ j = 16 := by omega
  rcases this with rfl | rfl | rfl | rfl | rfl | rfl | rfl | rfl | rfl | rfl | rfl | rfl | rfl | rfl | rfl | rfl | rfl <;> rfl
set_option maxRecDepth 20000 in
set_option maxHeartbeats 4000000 in
theorem whole_start {p : Program} {e : Env} {s : State} {m : MethodId} {below : List Frame} {meth : Method} {c : Code} (l : Launch) (hflags : l.flags = flags0) {b L : Nat} {xs : Nat → Int32} (hL : L ≤ 3584) (C0 : lw_At p s m meth c b L xs) : W p l e room_1 s m #[Value.ref b] below meth c s.heap [] 0 0 (lw_Z below #[Value.ref b] s) (entryFrame m ([Value.ref b] : List Value).toArray 7) := by
  obtain ⟨hx, hb, hr, hml, hown, hts, hX, hbl, hlocks, hgv⟩ := C0
  have hst : l.stackTraces = false := by
    unfold Launch.stackTraces
    rw [hflags]
    decide +kernel
  have hown : s.vm.findClass "DriftSeaLaw" = some m.cls := hown
  have htsW : ∀ w ∈ Wd, w.before #[Value.ref b] s = true := fun w hw => hts w (List.mem_filter.mp hw).1
  have hall : ∀ m, KOK m := kall
  obtain ⟨A, hAd⟩ : ∃ A : Nat → Prop, A = fun q => s.heap.size ≤ q := ⟨_, rfl⟩
  have hA1 : ∀ q, s.heap.size ≤ q → A q := fun q h => by rw [hAd]; exact h
  have hA2 : ∀ q, A q → s.heap.size ≤ q := fun q h => by rw [hAd] at h; exact h
  have hA0 : ∀ a : Nat, a < s.heap.size → ¬ A a := fun a h z => absurd (hA2 a z) (by omega)
  obtain ⟨sa, xv, hxv, hsa, hZ⟩ := zk_start (A := A) s.heap.size hts hgv hL hX hbl hA0
  have hux := ux_start (A := A) hts hgv hA0
  obtain ⟨D, cT, hK⟩ := vk_start hts
  obtain ⟨tys, hty⟩ : ∃ t, t = [(cT 0, FieldType.int), (cT 1, FieldType.long), (cT 2, FieldType.object "DriftSea$Rule"), (cT 3, FieldType.object "DriftSea$State")] := ⟨_, rfl⟩
  rw [← hty] at hK
  have hF : FX D tys A (ZK A (kad s.heap.size sa) xv xs L) s := ⟨hK, hZ, hA1⟩
  have hZL : ZLaw A (ZK A (kad s.heap.size sa) xv xs L) := zk_law
  have hO3 : OLaw (O3 xs L) D A (krep cT (kad s.heap.size sa) xv) szT (kad s.heap.size sa) xv kvok cT tys xs L := o5_law (by omega) (by rw [hty]; rfl) (by rw [hty]; rfl) (by rw [hty]; rfl) (by rw [hty]; rfl)
  have hS3 : SzLaw D A (krep cT (kad s.heap.size sa) xv) szT := szT_law
  have hOL : OLaw OL D A (lrp cT (kad s.heap.size sa) xv s.heap.size) (szL s.heap.size) (kad s.heap.size sa) xv kvok cT tys xs L := ol_law hA2 (by rw [hty]; rfl) (by rw [hty]; rfl) (by rw [hty]; rfl)
  have hSL : SzLaw D A (lrp cT (kad s.heap.size sa) xv s.heap.size) (szL s.heap.size) := szL_law
  -- the loop
  have hP2 : LPc xs L (PY p l e room_1 s m #[Value.ref b] below meth c (lw_Z below #[Value.ref b] s) D A (krep cT (kad s.heap.size sa) xv) (SZs szT s) (kad s.heap.size sa) xv kvok 7) (fun _ _ => False) := fun cd ws hck =>
    sound_closed (O := O3 xs L) (call := kcall (O3 xs L) DD) (rt := 1) (Post := fun _ _ => False) (cd := cd) (ini := false) (d := DD) (ws := ws) hx hb hml hown hxv htsW ⟨Nat.le_of_ble_eq_true rfl, Nat.le_of_ble_eq_true rfl⟩ hF hty hO3 hZL hS3 hall (fun z => by cases z) hck (fun a as σ Q' y cb mx ret n kd g1 g2 g3 => sound_call hall hxv hty hO3 hZL hS3 DD a as σ Q' y cb mx ret n kd g1 g2 g3) (fun σ x H locs cells slots ls pc g1 g2 => g2.elim) (fun σ x H locs cells slots ls pc g1 g2 => g2.elim) (fun σ H locs cells slots ls pc g1 g2 => g2.elim)
  have h4 : HC4 (PY p l e room_1 s m #[Value.ref b] below meth c (lw_Z below #[Value.ref b] s) D A (krep cT (kad s.heap.size sa) xv) (SZs szT s) (kad s.heap.size sa) xv kvok 7) := by
    intro lv a a2 k σ σ1 bb b1 b2 hcase hlen hlv hk H locs cells slots ls h1 h2 h3 h4 h5 h6 h7
    refine W_sz fun hsz => ?_
    have h6 : cells + bb.1 = 601024 := h6
    have h7 : slots + bb.2 ≤ 7293034 := h7
    have hM := c_help (l := l) (a := a) (b := a2) (k := k) hst hall hxv hty hO3 hZL hcase
    have hrun := vx_runSW (e := e) (below := below) (meth := meth) (R := room_1) (locs := locs) (cells := cells) (slots := slots) (H := H) (own := "DriftSeaLaw") (index := 38) (y := y_H) (bytes := bs_H) (maxL := 5) (ret := some .int) (hh := hh_H) (cc := code) (nL := 7) (n := 4) (mc := 1) (ms := 6) (As := [mR 10 0, mI a, mI a2, mR 55 0].map (em (kad s.heap.size sa) xv)) (rest := []) (g := F0 m 398 ls ([mR 55 0, mI a2, mI a, mR 10 0].map (em (kad s.heap.size sa) xv))) ⟨hx, hb, hml, hown, htsW⟩ hM ⟨⟨rfl, rfl, Nat.le_of_ble_eq_true rfl, Nat.le_of_ble_eq_true rfl, fun w hw => (List.mem_cons.mp hw).elim (fun z => by rw [z]; exact pay_all htsW Wd_good _ wx_c) (fun hw => pay_all htsW Wd_good w hw), List.mem_cons_self⟩, htsW _ wx_c, htsW _ wx_n, ⟨by decide, by decide⟩, fun sig hs => by
        have e1 : (parseMethodDescriptor y_H.desc).map (fun d => d.parameters.length) = some 4 := by decide +kernel
        rw [hs] at e1
        exact (Option.some.inj e1).symm, htsW _ wx_h, htsW _ wx_s⟩ ⟨MPx.blind hZL _ _, fun U hU hW => ⟨rfl, MPre.at (cells := cells) hZL hS3 hF h1 h2 h5 hsz hU hW, hux.at h2 hU hW⟩⟩ rfl rfl h3.1.1 rfl (Nat.le_of_ble_eq_true rfl) dl_398 ⟨by show cells + 1 ≤ 601024; omega, by show slots + 6 ≤ 7293034; omega⟩
    refine sc_back hS3 h1 h5 hsz hrun h2 fun σ' r H1 locs1 k1 k2 k3 k4 k5 => ?_
    obtain ⟨rfl, rfl⟩ := k1
    exact hk H1 locs1 (cells + 1) (slots + 6) ls k2 k3 h3 (fun v hv => by
      rcases List.mem_cons.mp hv with rfl | hv
      · trivial
      · cases hv) k4 (by show cells + 1 + (bb.1 - 1) = 601024; omega) (by show slots + 6 + (bb.2 - 6) ≤ 7293034; omega)
  have hend : ∀ (lv : ML) (σ : S2) (bb : Nat × Nat), lv.length = 7 → PY p l e room_1 s m #[Value.ref b] below meth c (lw_Z below #[Value.ref b] s) D A (krep cT (kad s.heap.size sa) xv) (SZs szT s) (kad s.heap.size sa) xv kvok 7 1961 lv [mI (Int32.ofInt 1)] σ bb := by
    intro lv σ bb hlen H locs cells slots ls h1 h2 h3 h4 h5 h6 h7
    have h6 : cells + bb.1 = 601024 := h6
    have h7 : slots + bb.2 ≤ 7293034 := h7
    refine va_forget (fun q hq => hA2 _ (h2.2.2 q hq)) ?_
    refine W.widen (k := 601024) (n := 7293034) (by omega) (by omega) ?_
    exact lw_ret hx hb hr hlocks dl_1961
  -- the beginning
  obtain ⟨z, hz, hck⟩ := law_run
  have hcl : MClosed OL (kcall OL 10) kd_L_a 1 (fun _ _ => False) (PY p l e room_1 s m #[Value.ref b] below meth c (lw_Z below #[Value.ref b] s) D A (lrp cT (kad s.heap.size sa) xv s.heap.size) (SZs (szL s.heap.size) s) (kad s.heap.size sa) xv kvok 7) :=
    sound_closed (O := OL) (call := kcall OL 10) (rt := 1) (Post := fun _ _ => False) (cd := kd_L_a) (ini := false) (d := 10) hx hb hml hown hxv htsW ⟨Nat.le_of_ble_eq_true rfl, Nat.le_of_ble_eq_true rfl⟩ hF hty hOL hZL hSL hall (fun z => by cases z) ck_L_a (fun a as σ Q' y cb mx ret n kd g1 g2 g3 => sound_call hall hxv hty hOL hZL hSL 10 a as σ Q' y cb mx ret n kd g1 g2 g3) (fun σ x H locs cells slots ls pc g1 g2 => g2.elim) (fun σ x H locs cells slots ls pc g1 g2 => g2.elim) (fun σ H locs cells slots ls pc g1 g2 => g2.elim)
  have hbeg : PY p l e room_1 s m #[Value.ref b] below meth c (lw_Z below #[Value.ref b] s) D A (lrp cT (kad s.heap.size sa) xv s.heap.size) (SZs (szL s.heap.size) s) (kad s.heap.size sa) xv kvok 7 3 [some (mR 5 0), none, none, none, none, none, none] [mR 10 0] [.inl (11, fs0)] (601023, 7293017) := by
    refine estp_ok (ecal_ok 10) hcl 12 lawS0 z hz ?_
    obtain ⟨zpc, zlv, zst, zs, zb1, zb2⟩ := z
    unfold lchk at hck
    obtain ⟨c1, hck⟩ := Bool.and_eq_true_iff.mp hck
    obtain ⟨c2, hck⟩ := Bool.and_eq_true_iff.mp hck
    obtain ⟨c3, hck⟩ := Bool.and_eq_true_iff.mp hck
    obtain ⟨c4, hck⟩ := Bool.and_eq_true_iff.mp hck
    obtain ⟨c4, c5⟩ := Bool.and_eq_true_iff.mp c4
    obtain ⟨c6, c7⟩ := Bool.and_eq_true_iff.mp hck
    have e1 : zpc = 23 := of_decide_eq_true c1
    have e2 : zlv = [some (mR 5 0), some (mR 10 0), some (mR 60 0), some (mR 55 0), some (mI 0), none, none] := of_decide_eq_true c2
    have e3 : zst = [] := of_decide_eq_true c3
    have c4 : 1000 ≤ zb1 := Nat.le_of_ble_eq_true c4
    have c5 : 6000 ≤ zb2 := Nat.le_of_ble_eq_true c5
    subst e1; subst e2; subst e3
    intro H locs cells slots ls h1 h2 h3 h4' h5 h6 h7
    have hrel := made_rel c6 h1
    have hgo := law_loop hP2 h4 hL hend 600 0 0 0 0 0 none (stM zs) none none (zb1, zb2) (INV_0 (fchk_ok c7)) (by omega) (by omega) (by show 600 ≤ zb1; omega) (by show 6 * 600 ≤ zb2; omega)
    have h0 : nI (7 * 0) = 0 := nI_0
    have hlv : LV 0 none none = [some (mR 5 0), some (mR 10 0), some (mR 60 0), some (mR 55 0), some (mI 0), none, none] := by
      show [some (mR 5 0), some (mR 10 0), some (mR 60 0), some (mR 55 0), some (mI (nI (7 * 0))), none, none] = _
      rw [h0]
    rw [hlv] at hgo
    exact hgo H locs cells slots ls hrel h2 h3 h4' trivial h6 h7
  -- the entry
  have hl0 := LVr_init (ad := kad s.heap.size sa) (xv := xv) (vok := kvok) hxv (as := [mR 5 0]) (mx := 7) (fun v hv => by
    rcases List.mem_cons.mp hv with rfl | hv
    · show 0 < kcn 5
      decide +kernel
    · cases hv) (Nat.le_of_ble_eq_true rfl)
  have hav : ([mR 5 0].map (em (kad s.heap.size sa) xv)) = [Value.ref b] := by
    show [Value.ref (sa (5, 0))] = _
    rw [hsa]
  rw [hav] at hl0
  rw [lg_entry_eq]
  generalize (lg_sl [Value.ref b] ++ List.replicate (7 - (lg_sl [Value.ref b]).length) Slot.unset).toArray = ls at hl0 ⊢
  refine va_new (ci := 11) (fs := fs0.map (em (kad s.heap.size sa) xv)) (C := RX11) (T := TX11) (N := 17) (ws := []) (tys := tys) (D := D) (A := A) (H0 := s.heap) hx hb htsW (cls_ok (a := 11) rfl).1 tyX11 tyX11_ok hown (tb_at hts tw_11) (htsW _ (cls_ok (a := 11) (C := RX11) (T := TX11) (N := 17) rfl).2.2.2.1) (htsW _ (cls_ok (a := 11) (C := RX11) (T := TX11) (N := 17) rfl).2.2.2.2) hK (fun k q h => by simp at h) ⟨fun i j p q h => by simp at h, fun k q h => by simp at h⟩ va_S.rf hA1 rfl (fs0_ok _ _) (Nat.le_of_ble_eq_true rfl) (Nat.le_of_ble_eq_true rfl) dl_0 (fun q0 H hP hD hS => ?_)
  refine W_sz fun hsz => ?_
  have hP : va_P D vwCl [(q0, .inr (11, fs0.map (em (kad s.heap.size sa) xv)))] H := hP
  have hD : va_D A [(q0, .inr (11, fs0.map (em (kad s.heap.size sa) xv)))] := hD
  have hq1 : q0 < H.size := (hP 0 _ rfl).lt
  have hq2 : s.heap.size ≤ q0 := hA2 _ (hD.2 0 _ rfl)
  have hq : q0 = s.heap.size := by omega
  subst hq
  have had : kad s.heap.size sa (10, 0) = s.heap.size := by
    rw [kad_of (by show 10 ≤ 10; omega), show kix kcx (10, 0) = 0 by decide +kernel]
    rfl
  have := hbeg H [] 1 17 ls ⟨hP, hD⟩ hS hl0 (fun v hv => by
    rcases List.mem_cons.mp hv with rfl | hv
    · show 0 < kcn 10
      decide +kernel
    · cases hv) ⟨rfl, Nat.zero_lt_one⟩ rfl (Nat.le_refl _)
  have hf : ([mR 10 0].map (em (kad s.heap.size sa) xv)) = [Value.ref s.heap.size] := by
    show [Value.ref (kad s.heap.size sa (10, 0))] = _
    rw [had]
  rw [hf] at this
  exact this
