/-! ===== the law's start: classes, arrays, statics ===== -/
abbrev flat0 : List Cond := flatC (Jvm.Cond.and given_1 narrow_1)
def inF (x : Cond) : Bool := decide (x ∈ flat0)
theorem inF_at {args : Array Value} {s : State} (h : (Jvm.Cond.and given_1 narrow_1).before args s = true) {x : Cond} (hx : inF x = true) : x.before args s = true := flat_of_before _ h x (of_decide_eq_true hx)
def stm (i : Nat) : Term := match ksta i with
  | some (C, n, d) => .static C n d
  | none => .arg 0
def slay : Nat → Nat × Nat
  | 0 => (557, 119)
  | 1 => (661, 119)
  | 2 => (667, 119)
  | 3 => (706, 119)
  | 4 => (708, 119)
  | 5 => (587, 132)
  | _ => (630, 136)
theorem st_ok : ((List.range 5).all fun i => inF (.arrayOf (stm i) .int) && (inF (.eq (.length (stm i)) (.int (Int32.ofNat (kstat i).length))) && (Nat.blt (kstat i).length 100 && (List.range (kstat i).length).all fun j => inF (.eq (.elem (stm i) (.int (Int32.ofNat j))) (.int (lgD (kstat i) j)))))) = true := by decide +kernel
theorem st_la : ((List.range 7).all fun i => match ksta i with
    | some (C, n, d) => decide (lw_tbl[(slay i).1]? = some (.laysStatic C n d)) && decide (lw_tbl[(slay i).2]? = some (.initialized C))
    | none => false) = true := by decide +kernel
theorem st_56 : (inF (.eq (.static "java/lang/String" "COMPACT_STRINGS" "Z") (.int 1)) && (inF (.isRef (.static "jdk/internal/util/Preconditions" "SIOOBE_FORMATTER" "Ljava/util/function/BiFunction;")) && (inF (.isRef (.static Bundle.tN "UNASSIGNED_STACK" Bundle.steD)) && inF (.isRef (.static Bundle.tN "SUPPRESSED_SENTINEL" Bundle.listD))))) = true := by decide +kernel
def strm (i : Nat) : Term := match i with
  | 0 => .string "DriftSea$Sea" 57
  | 1 => .string "DriftSea$Sea" 98
  | _ => .string "DriftSea$Rule" 93
abbrev lens : List Nat := [4, 32, 6]
abbrev byts : List (List Int32) := [kbyt 0, kbyt 1, kbyt 2]
theorem sr_ok : ((List.range 3).all fun i => inF (.exactly (strm i) "java/lang/String") && (inF (.eq (.field (strm i) "java/lang/String" "coder" "B") (.int 0)) && (inF (.arrayOf (.field (strm i) "java/lang/String" "value" "[B") .byte) && (inF (.eq (.length (.field (strm i) "java/lang/String" "value" "[B")) (.int (Int32.ofNat (lens.getD i 0)))) && ((List.range (lens.getD i 0)).all (fun j => inF (.eq (.elem (.field (strm i) "java/lang/String" "value" "[B") (.int (Int32.ofNat j))) (.int ((byts.getD i []).getD j 0)))) && (List.range 3).all (fun j => decide (i = j) || (inF (.not (.eq (strm i) (strm j))) || inF (.not (.eq (strm j) (strm i)))))))))) = true := by decide +kernel
theorem kn_ok : ((knest.zip [153, 170, 184, 244, 260, 287, 912, 1115, 1214, 1370, 1443]).all fun p => decide (lw_tbl[p.2]? = some (.methodLinkNest p.1.1 p.1.2.1 p.1.2.2.1 p.1.2.2.2))) = true := by decide +kernel
theorem kn_all : (knest.all fun q => (knest.zip [153, 170, 184, 244, 260, 287, 912, 1115, 1214, 1370, 1443]).any fun p => decide (p.1 = q)) = true := by decide +kernel
theorem ks_ok : ((List.range 3).all fun i => match kstrs[i]? with
    | some q => decide (q.2.2.2 = i) && (decide (strm i = .string q.1 q.2.1) && decide (lw_tbl[[569, 671, 791].getD i 0]? = some (.stringRef q.1 q.2.1 q.2.2.1)))
    | none => false) = true := by decide +kernel
theorem tw_0 : decide (lw_tbl[182]? = some (.arrayOver (.object "DriftSea$Rule"))) = true := by decide +kernel
theorem tw_1 : decide (lw_tbl[221]? = some (.arrayOver (.object "DriftSea$State"))) = true := by decide +kernel
theorem tw_2 : decide (lw_tbl[167]? = some (.arrayClass .int)) = true := by decide +kernel
theorem tw_3 : decide (lw_tbl[2393]? = some (.arrayClass .long)) = true := by decide +kernel
theorem tw_4 : decide (lw_tbl[1595]? = some (.laysStatic Bundle.tN "UNASSIGNED_STACK" Bundle.steD)) = true := by decide +kernel
theorem tw_5 : decide (lw_tbl[1597]? = some (.laysStatic Bundle.tN "SUPPRESSED_SENTINEL" Bundle.listD)) = true := by decide +kernel
theorem tw_6 : decide (lw_tbl[138]? = some (.initialized Bundle.tN)) = true := by decide +kernel
theorem tw_7 : decide (lw_tbl[1570]? = some (.castable NSE NSE)) = true := by decide +kernel
theorem tw_8 : decide (lw_tbl[1571]? = some (.declares ⟨"java/lang/RuntimeException", "<init>", "()V"⟩)) = true := by decide +kernel
theorem tw_9 : decide (lw_tbl[1573]? = some (.declares ⟨"java/lang/Exception", "<init>", "()V"⟩)) = true := by decide +kernel
theorem tw_10 : decide (lw_tbl[1575]? = some (.declares ⟨"java/lang/Throwable", "<init>", "()V"⟩)) = true := by decide +kernel
section
variable {args : Array Value} {s : State} {A : Nat → Prop}
theorem tb_at (hts : ∀ w ∈ lw_tbl, w.before args s = true) {i : Nat} {w : Cond} (h : decide (lw_tbl[i]? = some w) = true) : w.before args s = true := hts w (List.mem_of_getElem? (of_decide_eq_true h))
theorem st_T (hgv : (Jvm.Cond.and given_1 narrow_1).before args s = true) (hA : ∀ a : Nat, a < s.heap.size → ¬ A a) (i : Nat) (hi : i < 5) : ∃ t : Nat, (stm i).eval args s none [] s = some (.ref t) ∧ va_T .int t (kstat i).length (fun j => .int (lgD (kstat i) j)) A s s.heap := by
  have h1 := List.all_eq_true.mp st_ok i (List.mem_range.mpr hi)
  obtain ⟨a1, h1⟩ := Bool.and_eq_true_iff.mp h1
  obtain ⟨a2, h1⟩ := Bool.and_eq_true_iff.mp h1
  obtain ⟨a3, a4⟩ := Bool.and_eq_true_iff.mp h1
  have a3 : (kstat i).length < 100 := Nat.le_of_ble_eq_true a3
  exact va_Tof (by omega) (inF_at hgv a1) (va_eqt (inF_at hgv a2)) (fun j hj => va_eqt (inF_at hgv (List.all_eq_true.mp a4 j (List.mem_range.mpr hj)))) hA
theorem st_Z (hts : ∀ w ∈ lw_tbl, w.before args s = true) (hA : ∀ a : Nat, a < s.heap.size → ¬ A a) {i : Nat} (hi : i < 7) {C n d : String} (hc : ksta i = some (C, n, d)) {v : Value} (hv : (Term.static C n d).eval args s none [] s = some v) : va_Z C n d v A s s.heap := by
  have h1 := List.all_eq_true.mp st_la i (List.mem_range.mpr hi)
  rw [hc] at h1
  obtain ⟨a1, a2⟩ := Bool.and_eq_true_iff.mp h1
  exact va_Zof (tb_at hts a1) (tb_at hts a2) hv hA
theorem isRef_ev {t : Term} (h : (Cond.isRef t).before args s = true) : ∃ v, t.eval args s none [] s = some v ∧ xvOk v := by
  cases hv : t.eval args s none [] s with
  | none => simp [Cond.before, Cond.holds, Cond.value, hv] at h
  | some v =>
    refine ⟨v, rfl, ?_⟩
    cases v with
    | null => exact Or.inl rfl
    | ref a => exact Or.inr ⟨a, rfl⟩
    | _ => simp [Cond.before, Cond.holds, Cond.value, hv] at h
theorem sr_S (hgv : (Jvm.Cond.and given_1 narrow_1).before args s = true) (hA : ∀ a : Nat, a < s.heap.size → ¬ A a) : ∃ adK adV : Nat → Nat, vk_S 3 lens byts adK adV A s s.heap ∧ ∀ i : Nat, i < 3 → (strm i).eval args s none [] s = some (.ref (adK i)) := by
  have h1 : ∀ i : Nat, i < 3 → _ := fun i hi => List.all_eq_true.mp sr_ok i (List.mem_range.mpr hi)
  have h2 : ∀ i : Nat, i < 3 → inF (.exactly (strm i) "java/lang/String") = true ∧ inF (.eq (.field (strm i) "java/lang/String" "coder" "B") (.int 0)) = true ∧ inF (.arrayOf (.field (strm i) "java/lang/String" "value" "[B") .byte) = true ∧ inF (.eq (.length (.field (strm i) "java/lang/String" "value" "[B")) (.int (Int32.ofNat (lens.getD i 0)))) = true ∧ ((List.range (lens.getD i 0)).all (fun j => inF (.eq (.elem (.field (strm i) "java/lang/String" "value" "[B") (.int (Int32.ofNat j))) (.int ((byts.getD i []).getD j 0))))) = true ∧ ((List.range 3).all (fun j => decide (i = j) || (inF (.not (.eq (strm i) (strm j))) || inF (.not (.eq (strm j) (strm i)))))) = true := fun i hi => by
    have h := h1 i hi
    obtain ⟨a1, h⟩ := Bool.and_eq_true_iff.mp h
    obtain ⟨a2, h⟩ := Bool.and_eq_true_iff.mp h
    obtain ⟨a3, h⟩ := Bool.and_eq_true_iff.mp h
    obtain ⟨a4, h⟩ := Bool.and_eq_true_iff.mp h
    obtain ⟨a5, a6⟩ := Bool.and_eq_true_iff.mp h
    exact ⟨a1, a2, a3, a4, a5, a6⟩
  refine vk_Sof (fun i hi => ?_) (fun i hi => inF_at hgv (h2 i hi).1) (fun i hi => inF_at hgv (h2 i hi).2.1) (fun i hi => inF_at hgv (h2 i hi).2.2.1) (fun i hi => inF_at hgv (h2 i hi).2.2.2.1) (fun i hi j hj => inF_at hgv (List.all_eq_true.mp (h2 i hi).2.2.2.2.1 j (List.mem_range.mpr hj))) (fun i j hi hj hij => ?_) hA
  · have : i = 0 ∨ i = 1 ∨ i = 2 := by omega
    rcases this with rfl | rfl | rfl <;> decide
  · have h := List.all_eq_true.mp (h2 i hi).2.2.2.2.2 j (List.mem_range.mpr hj)
    rw [decide_eq_false hij] at h
    have h : (inF (.not (.eq (strm i) (strm j))) || inF (.not (.eq (strm j) (strm i)))) = true := h
    rcases Bool.or_eq_true_iff.mp h with w | w
    · exact Or.inl (inF_at hgv w)
    · exact Or.inr (inF_at hgv w)
/-- the statics' facts at the law's start -/
theorem zk_start {b L : Nat} {xs : Nat → Int32} (base : Nat) (hts : ∀ w ∈ lw_tbl, w.before args s = true) (hgv : (Jvm.Cond.and given_1 narrow_1).before args s = true) (hL : L ≤ 3584) (hX : va_X b L xs s s.heap) (hb : b < s.heap.size) (hA : ∀ a : Nat, a < s.heap.size → ¬ A a) : ∃ (sa : Nat × Nat → Nat) (xv : Value), xvOk xv ∧ sa (5, 0) = b ∧ ZK A (kad base sa) xv xs L s := by
  obtain ⟨c5, h⟩ := Bool.and_eq_true_iff.mp st_56
  obtain ⟨c6, -⟩ := Bool.and_eq_true_iff.mp h
  obtain ⟨adK, adV, hS, hSe⟩ := sr_S hgv hA
  obtain ⟨xv, hxe, hxv⟩ := isRef_ev (inF_at hgv c6)
  obtain ⟨tA, htA⟩ := Classical.axiomOfChoice (show ∀ i : Nat, ∃ t : Nat, i < 5 → (stm i).eval args s none [] s = some (.ref t) ∧ va_T .int t (kstat i).length (fun j => .int (lgD (kstat i) j)) A s s.heap from fun i => by
    by_cases hi : i < 5
    · obtain ⟨t, ht⟩ := st_T hgv hA i hi
      exact ⟨t, fun _ => ht⟩
    · exact ⟨0, fun h => absurd h hi⟩)
  refine ⟨fun r => match r.1 with
    | 2 => adK r.2
    | 3 => adV r.2
    | 4 => tA r.2
    | _ => b, xv, hxv, rfl, fun q hq => ?_, fun q hq => ?_, hS, fun i hi => (htA i hi).2, fun i C n d v g1 g2 => ?_, ?_, ?_, ?_⟩
  · obtain ⟨p, p1, p2⟩ := List.any_eq_true.mp (List.all_eq_true.mp kn_all q hq)
    have p2 := of_decide_eq_true p2
    have h1 := List.all_eq_true.mp kn_ok p p1
    rw [p2] at h1
    exact va_Nw.of rfl (tb_at hts h1)
  · obtain ⟨i, hi, e⟩ := List.getElem_of_mem hq
    have hi3 : i < 3 := hi
    have h1 := List.all_eq_true.mp ks_ok i (List.mem_range.mpr hi3)
    rw [List.getElem?_eq_getElem hi, e] at h1
    obtain ⟨a1, h1⟩ := Bool.and_eq_true_iff.mp h1
    obtain ⟨a2, a3⟩ := Bool.and_eq_true_iff.mp h1
    have a1 := of_decide_eq_true a1
    have a2 := of_decide_eq_true a2
    have h2 := hSe i hi3
    rw [a2] at h2
    show vk_R q.1 q.2.1 q.2.2.1 (adK q.2.2.2) s
    rw [a1]
    exact vk_R.of (tb_at hts a3) h2
  · by_cases h5 : i < 5
    · have e := (htA i h5).1
      have ev : v = mR 4 i := by
        have hi : i = 0 ∨ i = 1 ∨ i = 2 ∨ i = 3 ∨ i = 4 := by omega
        rcases hi with rfl | rfl | rfl | rfl | rfl <;> (cases g2; rfl)
      subst ev
      refine st_Z hts hA (by omega) g1 ?_
      unfold stm at e
      rw [g1] at e
      exact e
    · by_cases e5 : i = 5
      · subst e5
        cases g1
        cases g2
        exact st_Z hts hA (i := 5) (by omega) rfl (va_eqt (inF_at hgv c5))
      · by_cases e6 : i = 6
        · subst e6
          cases g1
          cases g2
          exact st_Z hts hA (i := 6) (by omega) rfl hxe
        · unfold ksta at g1
          split at g1 <;> first | omega | cases g1
  · obtain ⟨scr, h1, h2, h3, h4, h5⟩ := hX
    refine ⟨scr, h1, h2, h3, by omega, ?_, h5, hA b hb⟩
    rw [h4]
  · exact va_AO.of (tb_at hts tw_0)
  · exact va_AO.of (tb_at hts tw_1)
theorem ux_start (hts : ∀ w ∈ lw_tbl, w.before args s = true) (hgv : (Jvm.Cond.and given_1 narrow_1).before args s = true) (hA : ∀ a : Nat, a < s.heap.size → ¬ A a) : Ux A s := by
  obtain ⟨-, h⟩ := Bool.and_eq_true_iff.mp st_56
  obtain ⟨-, h⟩ := Bool.and_eq_true_iff.mp h
  obtain ⟨b1, b2⟩ := Bool.and_eq_true_iff.mp h
  exact ⟨vx_Zqof (tb_at hts tw_4) (tb_at hts tw_6) (inF_at hgv b1) hA, vx_Zqof (tb_at hts tw_5) (tb_at hts tw_6) (inF_at hgv b2) hA, List.forall_mem_cons.mpr ⟨va_Nw.of rfl (tb_at hts tw_7), List.forall_mem_cons.mpr ⟨va_Nw.of rfl (tb_at hts tw_8), List.forall_mem_cons.mpr ⟨va_Nw.of rfl (tb_at hts tw_9), List.forall_mem_cons.mpr ⟨va_Nw.of rfl (tb_at hts tw_10), fun _ h => absurd h List.not_mem_nil⟩⟩⟩⟩⟩
theorem arr_of {c : ClassId} {kA : Class} {comp : ClassId} {ty : FieldType} (h2 : s.vm.classes[c]? = some kA) (h3 : kA.kind = .array comp ty) : ArrOfT s c ty := fun n z => ⟨fun k h => (by cases h), kA, h2, comp, h3⟩
/-- the classes and arrays -/
theorem vk_start (hts : ∀ w ∈ lw_tbl, w.before args s = true) : ∃ (D : va_G) (cT : Nat → ClassId), va_K D vwCl [(cT 0, .int), (cT 1, .long), (cT 2, .object "DriftSea$Rule"), (cT 3, .object "DriftSea$State")] s := by
  have htsW : ∀ w ∈ Wd, w.before args s = true := fun w hw => hts w (List.mem_filter.mp hw).1
  obtain ⟨f, hf⟩ := Classical.axiomOfChoice (show ∀ a : Nat, ∃ p : ClassId × (Nat → Nat), ∀ q : vw_C, vwCl[a]? = some q → u_Kn s q.1 q.2.1 q.2.2 p.1 p.2 from fun a => by
    cases h : vwCl[a]? with
    | none => exact ⟨(0, fun _ => 0), fun q hq => by cases hq⟩
    | some q =>
      obtain ⟨C, T, N⟩ := q
      obtain ⟨h1, h2, h3, h4, h5⟩ := cls_ok h
      obtain ⟨cC, iS, hk⟩ := u_known (C := C) (T := T) (N := N) htsW h1 (htsW _ h4)
      exact ⟨(cC, iS), fun q hq => by cases hq; exact hk⟩)
  obtain ⟨c0, k0, p0, x1, x2, x3⟩ := Cond.arrayClass_spec (tb_at hts tw_2)
  obtain ⟨c1, k1, p1, y1, y2, y3⟩ := Cond.arrayClass_spec (tb_at hts tw_3)
  obtain ⟨p2, c2, k2, z1, z2, z3, z4, z5⟩ := Cond.arrayOver_spec (tb_at hts tw_0)
  obtain ⟨p3, c3, k3, w1, w2, w3, w4, w5⟩ := Cond.arrayOver_spec (tb_at hts tw_1)
  refine ⟨(fun a => (f a).1, fun a => (f a).2), fun a => match a with
    | 0 => c0
    | 1 => c1
    | 2 => c2
    | _ => c3, fun a q hq => hf a q hq, fun k q hq => ?_⟩
  match k, hq with
  | 0, hq => cases hq; exact ⟨arr_of x2 x3, x1⟩
  | 1, hq => cases hq; exact ⟨arr_of y2 y3, y1⟩
  | 2, hq => cases hq; exact ⟨arr_of z3 z4, k2, p2, z3, z4, z1, z5⟩
  | 3, hq => cases hq; exact ⟨arr_of w3 w4, k3, p3, w3, w4, w1, w5⟩
end
