/-! ===== the heap while the objects are made: a list of cells ===== -/
/-- a cell: an object (class, fields), an int array, a long array, an array of references -/
abbrev LCe : Type := (Nat × List MV) ⊕ ((Nat × (Nat → Int32)) ⊕ ((Nat × (Nat → Int64)) ⊕ (Nat × Nat × List (Nat × Nat))))
abbrev KL : Type := List LCe
/-- a list's spine first, then on -/
def frc {α β : Type} : List α → (List α → β) → β
  | [], k => k []
  | c :: r, k => frc r fun r' => k (c :: r')
theorem frc_eq {α β : Type} : ∀ (l : List α) (k : List α → β), frc l k = k l
  | [], _ => rfl
  | _ :: r, _ => frc_eq r _
def kvb : MV → Bool
  | .inr (.inr r) => Nat.blt r.2 (kcn r.1)
  | _ => true
theorem kvb_ok {v : MV} (h : kvb v = true) : kvok v := by
  rcases v with x | x | r
  · trivial
  · trivial
  · exact Nat.le_of_ble_eq_true h
def klc (σ : KL) (r : Nat × Nat) : Option LCe := cond (Nat.ble 10 r.1) σ[kix kcx r]? none
def lgr (rs : List (Nat × Nat)) (j : Nat) : Nat × Nat := rs.getD j (0, 0)
def kob (x : Nat × Nat) : Bool := (Nat.beq x.1 0 && Nat.beq x.2 0) || (Nat.ble 10 x.1 && Nat.blt x.2 (kcn x.1))
def kdf (fd : KF) : MV := match fd.1 with
  | 0 => mI 0
  | 1 => mI 0
  | 2 => mL 0
  | _ => mR 0 0
def lgf (σ : KL) (r : Nat × Nat) (a k : Nat) : Option MV := match klc σ r with
  | some (.inl q) => cond (Nat.beq q.1 a) (match q.2[k]? with
    | some v => cond (kvb v) (some v) none
    | none => none) none
  | _ => none
/-- may a field of a kind hold it -/
def kfo (fd : KF) (v : MV) : Bool := match fd.1, v with
  | 0, .inl _ => true
  | 3, .inr (.inr r) => kob r
  | 4, .inr (.inr r) => kob r
  | 5, .inr (.inr r) => kob r
  | _, _ => false
def lpf (σ : KL) (r : Nat × Nat) (a k : Nat) (v : MV) : Option KL := match klc σ r with
  | some (.inl q) => match kobj r.1 with
    | some o => match o.2[k]? with
      | some fd => cond ((Nat.beq q.1 a && Nat.beq o.1 a) && (Nat.blt k q.2.length && kfo fd v)) (frc (σ.set (kix kcx r) (.inl (a, q.2.set k v))) some) none
      | none => none
    | none => none
  | _ => none
def lai (σ : KL) (r : Nat × Nat) : Option (Nat × (Nat → Int32)) := match klc σ r with
  | some (.inr (.inl q)) => cond (Nat.blt q.1 100000) (some q) none
  | _ => none
def lwi (σ : KL) (r : Nat × Nat) (f : Nat → Int32) : Option KL := match klc σ r with
  | some (.inr (.inl q)) => frc (σ.set (kix kcx r) (.inr (.inl (q.1, f)))) some
  | _ => none
def lar (σ : KL) (r : Nat × Nat) : Option (Nat × (Nat → Nat × Nat)) := match klc σ r with
  | some (.inr (.inr (.inr q))) => cond ((Nat.blt q.2.1 100000 && (Nat.beq q.1 2 || Nat.beq q.1 3)) && (Nat.beq q.2.2.length q.2.1 && q.2.2.all kob)) (some (q.2.1, lgr q.2.2)) none
  | _ => none
def lwr (σ : KL) (r : Nat × Nat) (j : Nat) (x : Nat × Nat) : Option KL := match klc σ r, klc σ x with
  | some (.inr (.inr (.inr q))), some (.inl o) => cond ((Nat.beq q.1 2 && Nat.beq o.1 5) || (Nat.beq q.1 3 && Nat.beq o.1 7)) (frc (σ.set (kix kcx r) (.inr (.inr (.inr (q.1, q.2.1, q.2.2.set j x))))) some) none
  | _, _ => none
def lnw (σ : KL) (a : Nat) : Option ((Nat × Nat) × Nat × KL) := match kcx[σ.length]? with
  | some r => match kobj r.1 with
    | some o => cond (Nat.beq o.1 a) (frc (σ ++ [.inl (a, o.2.map kdf)]) fun t => some (r, o.2.length, t)) none
    | none => none
  | none => none
def lnc (a n : Nat) : LCe := match a with
  | 0 => .inr (.inl (n, fun _ => 0))
  | 1 => .inr (.inr (.inl (n, fun _ => 0)))
  | a => .inr (.inr (.inr (a, n, List.replicate n (0, 0))))
def lna (σ : KL) (a n : Nat) : Option ((Nat × Nat) × KL) := match kcx[σ.length]? with
  | some r => frc (σ ++ [lnc a n]) fun t => some (r, t)
  | none => none
def lln (σ : KL) (r : Nat × Nat) : Option Nat := match klc σ r with
  | some (.inr (.inl q)) => some q.1
  | _ => none
def lco (σ : KL) (r : Nat × Nat) : Option Nat := match klc σ r with
  | some (.inl q) => some q.1
  | _ => none
def OL : MOps KL := (lgf, lpf, lln, lai, lwi, fun _ _ => none, fun _ _ _ => none, lar, lwr, lnw, lna, fun _ _ => none, fun _ => none, lco)
/-- what a cell is to the machine -/
def rfo (ad : Nat × Nat → Nat) (r : Nat × Nat) : Option Nat := cond (Nat.ble 10 r.1) (some (ad r)) none
def kec (cT : Nat → ClassId) (ad : Nat × Nat → Nat) (xv : Value) : LCe → va_E
  | .inl q => .inr (q.1, q.2.map (em ad xv))
  | .inr (.inl q) => .inl (cT 0, q.1, .inl q.2)
  | .inr (.inr (.inl q)) => .inl (cT 1, q.1, .inr (.inl q.2))
  | .inr (.inr (.inr q)) => .inl (cT q.1, q.2.1, .inr (.inr (.inr (.inr (fun j => rfo ad (lgr q.2.2 j))))))
def lrp (cT : Nat → ClassId) (ad : Nat × Nat → Nat) (xv : Value) : Nat → KL → va_W
  | _, [] => []
  | b, c :: r => (b, kec cT ad xv c) :: lrp cT ad xv (b + 1) r
def szL (base : Nat) (σ : KL) (n : Nat) : Prop := n = base + σ.length ∧ 0 < σ.length
section
variable {cT : Nat → ClassId} {ad : Nat × Nat → Nat} {xv : Value}
theorem lrp_get : ∀ (b : Nat) (σ : KL) (i : Nat), (lrp cT ad xv b σ)[i]? = σ[i]?.map (fun c => (b + i, kec cT ad xv c))
  | _, [], _ => rfl
  | b, c :: r, 0 => rfl
  | b, c :: r, i + 1 => by
    show (lrp cT ad xv (b + 1) r)[i]? = _
    rw [lrp_get (b + 1) r i, List.getElem?_cons_succ, show b + 1 + i = b + (i + 1) by omega]
theorem lrp_app : ∀ (b : Nat) (σ : KL) (c : LCe), lrp cT ad xv b (σ ++ [c]) = lrp cT ad xv b σ ++ [(b + σ.length, kec cT ad xv c)]
  | _, [], _ => rfl
  | b, d :: r, c => by
    show (b, kec cT ad xv d) :: lrp cT ad xv (b + 1) (r ++ [c]) = (b, kec cT ad xv d) :: (lrp cT ad xv (b + 1) r ++ [(b + (r.length + 1), kec cT ad xv c)])
    rw [lrp_app (b + 1) r c, show b + 1 + r.length = b + (r.length + 1) by omega]
theorem lrp_set : ∀ (b : Nat) (σ : KL) (i : Nat) (c : LCe), lrp cT ad xv b (σ.set i c) = (lrp cT ad xv b σ).set i (b + i, kec cT ad xv c)
  | _, [], _, _ => rfl
  | b, d :: r, 0, c => rfl
  | b, d :: r, i + 1, c => by
    show (b, kec cT ad xv d) :: lrp cT ad xv (b + 1) (r.set i c) = (b, kec cT ad xv d) :: (lrp cT ad xv (b + 1) r).set i (b + (i + 1), kec cT ad xv c)
    rw [lrp_set (b + 1) r i c, show b + 1 + i = b + (i + 1) by omega]
theorem lrp_len : ∀ (b : Nat) (σ : KL), (lrp cT ad xv b σ).length = σ.length
  | _, [] => rfl
  | b, d :: r => congrArg Nat.succ (lrp_len (b + 1) r)
theorem klc_ge {σ : KL} {r : Nat × Nat} {c : LCe} (h : klc σ r = some c) : 10 ≤ r.1 ∧ σ[kix kcx r]? = some c := by
  unfold klc at h
  cases hr : Nat.ble 10 r.1 with
  | false => rw [hr] at h; cases h
  | true =>
    rw [hr] at h
    exact ⟨Nat.le_of_ble_eq_true hr, h⟩
theorem kcx_uq : (((List.range kcx.length).all fun i => match kcx[i]? with
    | some r => decide (kix kcx r = i) && (Nat.ble 10 r.1 && Nat.blt r.2 (kcn r.1))
    | none => false)) = true := by decide +kernel
theorem kcx_at {i : Nat} {r : Nat × Nat} (h : kcx[i]? = some r) : kix kcx r = i ∧ 10 ≤ r.1 ∧ r.2 < kcn r.1 := by
  have h1 := List.all_eq_true.mp kcx_uq i (List.mem_range.mpr (List.getElem?_eq_some_iff.mp h).1)
  rw [h] at h1
  obtain ⟨h2, h3⟩ := Bool.and_eq_true_iff.mp h1
  obtain ⟨h3, h4⟩ := Bool.and_eq_true_iff.mp h3
  exact ⟨of_decide_eq_true h2, Nat.le_of_ble_eq_true h3, Nat.le_of_ble_eq_true h4⟩
end
section
variable {cT : Nat → ClassId} {base : Nat} {sa : Nat × Nat → Nat} {xv : Value} {tys : List (ClassId × FieldType)} {D : va_G}
theorem kad_of {r : Nat × Nat} (h : 10 ≤ r.1) : kad base sa r = base + kix kcx r := by
  unfold kad
  rw [show Nat.blt r.1 10 = false from by
    cases e : Nat.blt r.1 10 with
    | false => rfl
    | true => exact absurd (Nat.le_of_ble_eq_true e) (by omega)]
  rfl
theorem lrp_at {σ : KL} {r : Nat × Nat} {c : LCe} (h : klc σ r = some c) : 10 ≤ r.1 ∧ cellAt (lrp cT (kad base sa) xv base) σ (kix kcx r) (kad base sa r) (kec cT (kad base sa) xv c) := by
  obtain ⟨h1, h2⟩ := klc_ge h
  refine ⟨h1, ?_⟩
  show (lrp cT (kad base sa) xv base σ)[kix kcx r]? = _
  rw [lrp_get, h2, kad_of h1]
  rfl
theorem lrp_st {σ : KL} {r : Nat × Nat} {c : LCe} (h : 10 ≤ r.1) : lrp cT (kad base sa) xv base (σ.set (kix kcx r) c) = (lrp cT (kad base sa) xv base σ).set (kix kcx r) (kad base sa r, kec cT (kad base sa) xv c) := by
  rw [lrp_set, kad_of h]
theorem l_gf (a k : Nat) (σ : KL) (r : Nat × Nat) (v : MV) (h : lgf σ r a k = some v) : kvok v ∧ 2 ≤ r.1 ∧ ((∃ (q0 : Nat) (fs : List Value), cellAt (lrp cT (kad base sa) xv base) σ q0 (kad base sa r) (.inr (a, fs)) ∧ fs[k]? = some (em (kad base sa) xv v)) ∨ (a = 13 ∧ strK k r v)) := by
  unfold lgf at h
  split at h
  · rename_i q hq
    obtain ⟨h1, h2⟩ := lrp_at (cT := cT) (base := base) (sa := sa) (xv := xv) hq
    cases ha : Nat.beq q.1 a with
    | false => rw [ha] at h; cases h
    | true =>
      rw [ha] at h
      have ha := Nat.eq_of_beq_eq_true ha
      subst ha
      dsimp only [cond] at h
      split at h
      · rename_i w hw
        cases hb : kvb w with
        | false => rw [hb] at h; cases h
        | true =>
          rw [hb] at h
          cases h
          refine ⟨kvb_ok hb, by omega, Or.inl ⟨_, _, h2, ?_⟩⟩
          rw [List.getElem?_map, hw]
          rfl
      · cases h
  · cases h
/-- references' descriptors -/
def pfR (c : Nat) : Bool := match kobj c with
  | none => true
  | some q => match vwCl[q.1]? with
    | none => false
    | some (_, T, N) => Nat.beq N q.2.length && (List.range q.2.length).all fun k => match q.2[k]? with
      | some (x, _, _) => match parseFieldDescriptor (T k).2.2.1, x with
        | some (.object _), 3 => true
        | some (.object _), 4 => true
        | some (.object _), 5 => true
        | some (.array _), 3 => true
        | some (.array _), 4 => true
        | some .int, 0 => true
        | some .boolean, 1 => true
        | some .long, 2 => true
        | _, _ => false
      | none => true
theorem pfR_tab : ∀ c, c < 102 → pfR c = true := by decide +kernel
theorem pfR_at {c k : Nat} {q : Nat × List KF} {fd : KF} {C : String} {T : u_T} {N : Nat} (hq : kobj c = some q) (hC : vwCl[q.1]? = some (C, T, N)) (hk : q.2[k]? = some fd) : ∃ ty, parseFieldDescriptor (T k).2.2.1 = some ty ∧ ((fd.1 = 0 ∧ ty = .int) ∨ (fd.1 = 1 ∧ ty = .boolean) ∨ (fd.1 = 2 ∧ ty = .long) ∨ ((fd.1 = 3 ∨ fd.1 = 4 ∨ fd.1 = 5) ∧ ((∃ X, ty = .object X) ∨ ∃ X, ty = .array X))) := by
  have h1 := pfR_tab c (kobj_lt hq).2
  unfold pfR at h1
  rw [hq] at h1
  dsimp only at h1
  rw [hC] at h1
  dsimp only at h1
  have h2 := List.all_eq_true.mp (Bool.and_eq_true_iff.mp h1).2 k (List.mem_range.mpr (List.getElem?_eq_some_iff.mp hk).1)
  rw [hk] at h2
  obtain ⟨x, y, z⟩ := fd
  dsimp only at h2
  split at h2
  · rename_i X e; exact ⟨_, e, Or.inr (Or.inr (Or.inr ⟨Or.inl rfl, Or.inl ⟨_, rfl⟩⟩))⟩
  · rename_i X e; exact ⟨_, e, Or.inr (Or.inr (Or.inr ⟨Or.inr (Or.inl rfl), Or.inl ⟨_, rfl⟩⟩))⟩
  · rename_i X e; exact ⟨_, e, Or.inr (Or.inr (Or.inr ⟨Or.inr (Or.inr rfl), Or.inl ⟨_, rfl⟩⟩))⟩
  · rename_i X e; exact ⟨_, e, Or.inr (Or.inr (Or.inr ⟨Or.inl rfl, Or.inr ⟨_, rfl⟩⟩))⟩
  · rename_i X e; exact ⟨_, e, Or.inr (Or.inr (Or.inr ⟨Or.inr (Or.inl rfl), Or.inr ⟨_, rfl⟩⟩))⟩
  · rename_i e; exact ⟨_, e, Or.inl ⟨rfl, rfl⟩⟩
  · rename_i e; exact ⟨_, e, Or.inr (Or.inl ⟨rfl, rfl⟩)⟩
  · rename_i e; exact ⟨_, e, Or.inr (Or.inr (Or.inl ⟨rfl, rfl⟩))⟩
  · cases h2
theorem pfR_len {c : Nat} {q : Nat × List KF} {C : String} {T : u_T} {N : Nat} (hq : kobj c = some q) (hC : vwCl[q.1]? = some (C, T, N)) : N = q.2.length := by
  have h1 := pfR_tab c (kobj_lt hq).2
  unfold pfR at h1
  rw [hq] at h1
  dsimp only at h1
  rw [hC] at h1
  dsimp only at h1
  exact Nat.eq_of_beq_eq_true (Bool.and_eq_true_iff.mp h1).1
theorem em_kob {r : Nat × Nat} (h : kob r = true) : er (kad base sa) xv r = va_rf (rfo (kad base sa) r) := by
  obtain ⟨c, i⟩ := r
  unfold kob at h
  rcases Bool.or_eq_true_iff.mp h with h | h
  · obtain ⟨h1, h2⟩ := Bool.and_eq_true_iff.mp h
    have e1 : c = 0 := Nat.eq_of_beq_eq_true h1
    rw [e1]
    rfl
  · obtain ⟨h1, h2⟩ := Bool.and_eq_true_iff.mp h
    have h1' : 10 ≤ c := Nat.le_of_ble_eq_true h1
    rw [er_ref (show 2 ≤ (c, i).1 by show 2 ≤ c; omega)]
    unfold rfo
    rw [show Nat.ble 10 (c, i).1 = true from h1]
    rfl
theorem kob_ok {r : Nat × Nat} (h : kob r = true) : kvok (.inr (.inr r)) := by
  obtain ⟨c, i⟩ := r
  unfold kob at h
  rcases Bool.or_eq_true_iff.mp h with h | h
  · obtain ⟨h1, h2⟩ := Bool.and_eq_true_iff.mp h
    have e1 : c = 0 := Nat.eq_of_beq_eq_true h1
    have e2 : i = 0 := Nat.eq_of_beq_eq_true h2
    rw [e1, e2]
    show 0 < kcn 0
    decide
  · exact Nat.le_of_ble_eq_true (Bool.and_eq_true_iff.mp h).2
theorem l_pf (a k : Nat) (C : vw_C) (σ : KL) (r : Nat × Nat) (v : MV) (σ' : KL) (hC : vwCl[a]? = some C) (h : lpf σ r a k v = some σ') : 2 ≤ r.1 ∧ (∀ n, szL base σ n → szL base σ' n) ∧ (∃ (q0 : Nat) (fs : List Value), cellAt (lrp cT (kad base sa) xv base) σ q0 (kad base sa r) (.inr (a, fs)) ∧ k < fs.length ∧ lrp cT (kad base sa) xv base σ' = (lrp cT (kad base sa) xv base σ).set q0 (kad base sa r, .inr (a, fs.set k (em (kad base sa) xv v)))) ∧ ∃ ty, parseFieldDescriptor (C.2.1 k).2.2.1 = some ty ∧ narrow ty (em (kad base sa) xv v) = em (kad base sa) xv v ∧ fits ty (em (kad base sa) xv v) = true := by
  unfold lpf at h
  split at h
  · rename_i q hq
    obtain ⟨h1, h2⟩ := lrp_at (cT := cT) (base := base) (sa := sa) (xv := xv) hq
    split at h
    · rename_i o ho
      split at h
      · rename_i fd hfd
        cases hc : ((Nat.beq q.1 a && Nat.beq o.1 a) && (Nat.blt k q.2.length && kfo fd v)) with
        | false => rw [hc] at h; cases h
        | true =>
          rw [hc, frc_eq] at h
          cases h
          obtain ⟨g1, g2⟩ := Bool.and_eq_true_iff.mp hc
          obtain ⟨g1, g3⟩ := Bool.and_eq_true_iff.mp g1
          obtain ⟨g2, g4⟩ := Bool.and_eq_true_iff.mp g2
          have g1 := Nat.eq_of_beq_eq_true g1
          have g3 := Nat.eq_of_beq_eq_true g3
          have g2 : k < q.2.length := Nat.le_of_ble_eq_true g2
          refine ⟨by omega, fun n hn => ⟨by rw [List.length_set]; exact hn.1, by rw [List.length_set]; exact hn.2⟩, ⟨kix kcx r, q.2.map (em (kad base sa) xv), ?_, by rw [List.length_map]; exact g2, ?_⟩, ?_⟩
          · rw [← g1]; exact h2
          · rw [lrp_st h1]
            show _ = _
            rw [← List.map_set]
            rfl
          · obtain ⟨C1, T, N⟩ := C
            rw [← g3] at hC
            obtain ⟨ty, e1, e2⟩ := pfR_at ho hC hfd
            refine ⟨ty, e1, ?_⟩
            obtain ⟨x, y, z⟩ := fd
            rcases e2 with ⟨w, e2⟩ | ⟨w, e2⟩ | ⟨w, e2⟩ | ⟨w, e2⟩
            · have w : x = 0 := w
              subst w; subst e2
              rcases v with v | v | r9
              · exact ⟨rfl, rfl⟩
              · cases g4
              · cases g4
            · have w : x = 1 := w
              subst w
              rcases v with v | v | r9 <;> cases g4
            · have w : x = 2 := w
              subst w
              rcases v with v | v | r9 <;> cases g4
            · rcases v with v | v | r9
              · rcases w with w | w | w <;> (have w : x = _ := w; subst w; cases g4)
              · rcases w with w | w | w <;> (have w : x = _ := w; subst w; cases g4)
              · have g5 : kob r9 = true := by
                  rcases w with w | w | w <;> (have w : x = _ := w; subst w; exact g4)
                have e3 : em (kad base sa) xv (.inr (.inr r9)) = va_rf (rfo (kad base sa) r9) := em_kob g5
                rw [e3]
                rcases e2 with ⟨X, e2⟩ | ⟨X, e2⟩
                · subst e2; cases rfo (kad base sa) r9 <;> exact ⟨rfl, rfl⟩
                · subst e2; cases rfo (kad base sa) r9 <;> exact ⟨rfl, rfl⟩
      · cases h
    · cases h
  · cases h
end
