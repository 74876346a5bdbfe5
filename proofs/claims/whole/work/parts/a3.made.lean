/-! ===== what the constructors have made, seen as the typed store ===== -/
/-- cells that look alike -/
theorem arrV_eq (cA : ClassId) {n : Nat} {f g : Nat → Value} (h : ∀ j, j < n → f j = g j) : arrV cA n f = arrV cA n g := by
  unfold arrV
  have e : (fun j : Fin n => f j.val) = fun j : Fin n => g j.val := funext fun j => h j.val j.isLt
  rw [e]
def lfst : List MV → Int64
  | [] => 0
  | .inr (.inl x) :: _ => x
  | _ :: r => lfst r
def stI (σ : KL) (c i : Nat) : Nat → Int32 := match klc σ (c, i) with
  | some (.inl q) => fun k => match q.2[k]? with
    | some (.inl x) => x
    | _ => 0
  | some (.inr (.inl q)) => q.2
  | _ => fun _ => 0
def stJ (σ : KL) (c : Nat) : Int64 := match klc σ (c, 0) with
  | some (.inl q) => lfst q.2
  | some (.inr (.inr (.inl q))) => q.2 0
  | _ => 0
def stM (σ : KL) : S2 := (stI σ, stJ σ)
def kchk1 (s : S2) (r : Nat × Nat) (c : LCe) : Bool := match c with
  | .inl q => match kobj r.1 with
    | some o => Nat.beq q.1 o.1 && (Nat.beq q.2.length o.2.length && (List.range o.2.length).all fun k => match o.2[k]?, q.2[k]? with
      | some fd, some v => decide (kfv s r.1 r.2 k fd = some v)
      | _, _ => false)
    | none => false
  | .inr (.inl q) => match kobj r.1 with
    | some _ => false
    | none => match karr r.1 with
      | some n => Nat.beq n q.1
      | none => false
  | .inr (.inr (.inl q)) => decide (r = (55, 0)) && Nat.beq q.1 1
  | .inr (.inr (.inr q)) => (Nat.beq r.1 16 && (Nat.beq q.1 2 && (Nat.beq q.2.1 4 && decide (q.2.2 = (List.range 4).map fun j => (17, j))))) || (Nat.beq r.1 23 && (Nat.beq q.1 3 && (Nat.beq q.2.1 30 && decide (q.2.2 = (List.range 30).map fun j => (20, 5 + j)))))
def kchk (σ : KL) : Bool := Nat.beq σ.length kcx.length && (List.range kcx.length).all fun i => match kcx[i]?, σ[i]? with
  | some r, some c => kchk1 (stM σ) r c
  | _, _ => false
section
variable {cT : Nat → ClassId} {base : Nat} {sa : Nat × Nat → Nat} {xv : Value} {D : va_G}
theorem lgr_map {n j : Nat} {f : Nat → Nat × Nat} (h : j < n) : lgr ((List.range n).map f) j = f j := by
  unfold lgr
  rw [List.getD_eq_getElem?_getD, List.getElem?_map, List.getElem?_range h]
  rfl
theorem kchk_cell {σ : KL} {r : Nat × Nat} {c : LCe} {H : Heap} (hc : klc σ r = some c) (h : kchk1 (stM σ) r c = true) (hat : va_at D vwCl (kad base sa r, kec cT (kad base sa) xv c) H) : va_at D vwCl (kad base sa r, kce cT (kad base sa) xv (stM σ) r) H := by
  rcases c with q | q | q | q
  · unfold kchk1 at h
    dsimp only at h
    split at h
    · rename_i o ho
      obtain ⟨h1, h2⟩ := Bool.and_eq_true_iff.mp h
      obtain ⟨h2, h3⟩ := Bool.and_eq_true_iff.mp h2
      have h1 := Nat.eq_of_beq_eq_true h1
      have h2 := Nat.eq_of_beq_eq_true h2
      rw [kce_obj ho]
      have e : kfs (kad base sa) xv (stM σ) r.1 r.2 o.2 = q.2.map (em (kad base sa) xv) := by
        apply List.ext_getElem?
        intro k
        by_cases hk : k < o.2.length
        · have h4 := List.all_eq_true.mp h3 k (List.mem_range.mpr hk)
          have e1 : o.2[k]? = some o.2[k] := List.getElem?_eq_getElem hk
          have e2 : q.2[k]? = some (q.2[k]'(by omega)) := List.getElem?_eq_getElem (by omega)
          rw [e1, e2] at h4
          have h4 := of_decide_eq_true h4
          rw [kfs_at e1 h4, List.getElem?_map, e2]
          rfl
        · rw [List.getElem?_eq_none (by rw [kfs_len]; omega), List.getElem?_eq_none (by rw [List.length_map]; omega)]
      rw [e, ← h1]
      exact hat
    · cases h
  · unfold kchk1 at h
    dsimp only at h
    split at h
    · cases h
    · rename_i ho
      split at h
      · rename_i n hn
        have h := Nat.eq_of_beq_eq_true h
        subst h
        unfold kce
        rw [ho]
        dsimp only
        rw [hn]
        dsimp only
        have e : (stM σ).1 r.1 r.2 = q.2 := by
          show stI σ r.1 r.2 = q.2
          unfold stI
          rw [show (r.1, r.2) = r from rfl, hc]
        rw [e]
        exact hat
      · cases h
  · obtain ⟨h1, h2⟩ := Bool.and_eq_true_iff.mp h
    have h1 := of_decide_eq_true h1
    have h2 := Nat.eq_of_beq_eq_true h2
    subst h1
    obtain ⟨n, f⟩ := q
    have h2 : n = 1 := h2
    subst h2
    have hat : H[kad base sa (55, 0)]? = some (arrV (cT 1) 1 (fun j => .long (f j))) := hat
    show H[kad base sa (55, 0)]? = some (arrV (cT 1) 1 (fun j => .long (stJ σ 55)))
    rw [hat, arrV_eq (cT 1) (g := fun j => .long (stJ σ 55)) (fun j hj => ?_)]
    have : j = 0 := by omega
    subst this
    show Value.long (f 0) = .long (stJ σ 55)
    unfold stJ
    rw [hc]
  · obtain ⟨t0, n, rs⟩ := q
    have hat : H[kad base sa r]? = some (arrV (cT t0) n (fun j => va_rf (rfo (kad base sa) (lgr rs j)))) := hat
    rcases Bool.or_eq_true_iff.mp h with h | h
    · obtain ⟨h1, h⟩ := Bool.and_eq_true_iff.mp h
      obtain ⟨h2, h⟩ := Bool.and_eq_true_iff.mp h
      obtain ⟨h3, h⟩ := Bool.and_eq_true_iff.mp h
      have g1 := Nat.eq_of_beq_eq_true h1
      have g2 : t0 = 2 := Nat.eq_of_beq_eq_true h2
      have g3 : n = 4 := Nat.eq_of_beq_eq_true h3
      have g4 : rs = (List.range 4).map fun j => (17, j) := of_decide_eq_true h
      clear h1 h2 h3 h
      obtain ⟨rc, ri⟩ := r
      have g1 : rc = 16 := g1
      subst g1; subst g2; subst g3; subst g4
      show H[kad base sa (16, ri)]? = some (arrV (cT 2) 4 (fun j => va_rf (some (kad base sa (17, j)))))
      rw [hat, arrV_eq (cT 2) (g := fun j => va_rf (some (kad base sa (17, j)))) (fun j hj => ?_)]
      rw [lgr_map hj]
      rfl
    · obtain ⟨h1, h⟩ := Bool.and_eq_true_iff.mp h
      obtain ⟨h2, h⟩ := Bool.and_eq_true_iff.mp h
      obtain ⟨h3, h⟩ := Bool.and_eq_true_iff.mp h
      have g1 := Nat.eq_of_beq_eq_true h1
      have g2 : t0 = 3 := Nat.eq_of_beq_eq_true h2
      have g3 : n = 30 := Nat.eq_of_beq_eq_true h3
      have g4 : rs = (List.range 30).map fun j => (20, 5 + j) := of_decide_eq_true h
      clear h1 h2 h3 h
      obtain ⟨rc, ri⟩ := r
      have g1 : rc = 23 := g1
      subst g1; subst g2; subst g3; subst g4
      show H[kad base sa (23, ri)]? = some (arrV (cT 3) 30 (fun j => va_rf (some (kad base sa (20, 5 + j)))))
      rw [hat, arrV_eq (cT 3) (g := fun j => va_rf (some (kad base sa (20, 5 + j)))) (fun j hj => ?_)]
      rw [lgr_map hj]
      rfl
theorem kchk_at {σ : KL} (h : kchk σ = true) {i : Nat} {r : Nat × Nat} (hr : kcx[i]? = some r) : ∃ c, σ[i]? = some c ∧ klc σ r = some c ∧ kchk1 (stM σ) r c = true := by
  obtain ⟨h1, h2⟩ := Bool.and_eq_true_iff.mp h
  have h3 := List.all_eq_true.mp h2 i (List.mem_range.mpr (List.getElem?_eq_some_iff.mp hr).1)
  rw [hr] at h3
  cases hc : σ[i]? with
  | none => rw [hc] at h3; cases h3
  | some c =>
    rw [hc] at h3
    obtain ⟨k1, k2, k3⟩ := kcx_at hr
    refine ⟨c, rfl, ?_, h3⟩
    unfold klc
    rw [Nat.ble_eq_true_of_le k2, k1]
    exact hc
/-- the heap of cells that the constructors have made is the typed store's -/
theorem made_rel {A : Nat → Prop} {σ : KL} {H : Heap} (h : kchk σ = true) (hH : HRel D A (lrp cT (kad base sa) xv base) σ H) : HRel D A (krep cT (kad base sa) xv) (stM σ) H := by
  have hr : ∀ (i : Nat) (q : Nat × va_E), (krep cT (kad base sa) xv (stM σ))[i]? = some q → ∃ r c, kcx[i]? = some r ∧ klc σ r = some c ∧ kchk1 (stM σ) r c = true ∧ (lrp cT (kad base sa) xv base σ)[i]? = some (kad base sa r, kec cT (kad base sa) xv c) ∧ q = (kad base sa r, kce cT (kad base sa) xv (stM σ) r) := by
    intro i q hq
    unfold krep at hq
    rw [List.getElem?_map] at hq
    obtain ⟨r, e1, e2⟩ := Option.map_eq_some_iff.mp hq
    obtain ⟨c, c1, c2, c3⟩ := kchk_at h e1
    obtain ⟨k1, k2, k3⟩ := kcx_at e1
    refine ⟨r, c, e1, c2, c3, ?_, e2.symm⟩
    rw [lrp_get, c1, kad_of k2, k1]
    rfl
  refine ⟨fun i q hq => ?_, fun i j p q hp hq e => ?_, fun i q hq => ?_⟩
  · obtain ⟨r, c, e1, e2, e3, e4, rfl⟩ := hr i q hq
    exact kchk_cell e2 e3 (hH.1 i _ e4)
  · obtain ⟨r, c, e1, e2, e3, e4, rfl⟩ := hr i p hp
    obtain ⟨r', c', e1', e2', e3', e4', rfl⟩ := hr j q hq
    exact hH.2.1 i j _ _ e4 e4' e
  · obtain ⟨r, c, e1, e2, e3, e4, rfl⟩ := hr i q hq
    have := hH.2.2 i _ e4
    exact this
end
/-- FST, checked -/
def fchk (s : S2) : Bool := ((List.range 6).all fun a => decide (s.1 21 0 (18 + a) = -1)) && ((decide (s.1 15 0 1 = 0) && (decide (s.1 15 0 2 = 0) && decide (s.1 15 0 3 = 0))) && (((List.range 4).all fun k => decide (s.1 14 0 k = 0) && decide (s.1 75 0 k = 0)) && (([2, 13, 28, 29, 30, 36, 41, 42, 55, 57, 76, 78].all fun k => decide (s.1 60 0 k = 0)) && (decide (s.1 21 0 42 = s.1 60 0 37) && ((decide (s.1 60 0 40 = -1) && (decide (s.1 10 0 15 = -1) && decide (rl (s.1 31 0 11) = none))) && ((decide (s.1 11 0 1 = 0) && (decide (s.1 10 0 14 = 0) && (decide (s.1 10 0 16 = 0) && decide (s.1 49 0 8 = 0)))) && (((List.range 6).all fun k => Nat.blt k 2 || decide (s.1 22 0 k = 0)) && (decide (s.1 25 0 0 = s.1 60 0 38) && decide (s.1 25 0 1 = s.1 60 0 39)))))))))
theorem fchk_ok {s : S2} (h : fchk s = true) : FST s := by
  unfold fchk at h
  simp only [Bool.and_eq_true, decide_eq_true_eq, List.all_eq_true, List.mem_range, Bool.or_eq_true] at h
  obtain ⟨h1, h2, h3, h4, h5, h6, h7, h8, h9⟩ := h
  refine ⟨h1, h2, h3, fun k hk => h4 k ?_, h5, h6, h7, fun k hk hk' => ?_, h9⟩
  · rcases hk with rfl | rfl | rfl | rfl | rfl | rfl | rfl | rfl | rfl | rfl | rfl | rfl <;> decide
  · rcases h8 k hk' with w | w
    · exact absurd (show k < 2 from Nat.le_of_ble_eq_true w) (by omega)
    · exact w
