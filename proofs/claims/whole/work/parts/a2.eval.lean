/-! ===== running the small machine: what makes the objects ===== -/
abbrev ES (S : Type) : Type := Nat × ML × List MV × S × (Nat × Nat)
abbrev EC (S : Type) : Type := Nat → List MV → S → Option (S × Option MV)
def eld {S : Type} (nx : Nat) (lv : ML) (st : List MV) (n ty : Nat) (σ : S) (b : Nat × Nat) : Option (ES S) := match ty, mlg lv n with
  | 0, some (.inl x) => some (nx, lv, .inl x :: st, σ, b)
  | 2, some (.inr (.inr x)) => some (nx, lv, .inr (.inr x) :: st, σ, b)
  | _, _ => none
def esto {S : Type} (nx : Nat) (lv : ML) (n ty : Nat) (st : List MV) (σ : S) (b : Nat × Nat) : Option (ES S) := match ty, st with
  | 0, .inl x :: st => cond (mfree lv n && Nat.blt n lv.length) (some (nx, mls lv n (some (.inl x)), st, σ, b)) none
  | 2, .inr (.inr x) :: st => cond ((mfree lv n && Nat.blt n lv.length) && Nat.ble 2 x.1) (some (nx, mls lv n (some (.inr (.inr x))), st, σ, b)) none
  | _, _ => none
def enat (i : Int32) (n : Nat) : Option Nat := if i = nI i.toNatClampNeg then cond (Nat.blt i.toNatClampNeg n) (some i.toNatClampNeg) none else none
def enew {S : Type} (nx : Nat) (lv : ML) (st : List MV) (b : Nat × Nat) (n : Nat) (o : Option ((Nat × Nat) × S)) : Option (ES S) := match o with
  | some (r, σ') => cond (Nat.ble 1 b.1 && Nat.ble n b.2) (some (nx, lv, .inr (.inr r) :: st, σ', (b.1 - 1, b.2 - n))) none
  | none => none
def est {S : Type} (O : MOps S) (ec : EC S) (e : ME) (lv : ML) (st : List MV) (σ : S) (b : Nat × Nat) : Option (ES S) := match e with
  | (ins, nx, a, k, sw) => match ins with
    | .iload n => eld nx lv st n 0 σ b
    | .iload_n n => eld nx lv st n.val 0 σ b
    | .aload n => eld nx lv st n 2 σ b
    | .aload_n n => eld nx lv st n.val 2 σ b
    | .istore n => esto nx lv n 0 st σ b
    | .istore_n n => esto nx lv n.val 0 st σ b
    | .astore n => esto nx lv n 2 st σ b
    | .astore_n n => esto nx lv n.val 2 st σ b
    | .iconst n => some (nx, lv, .inl (Int32.ofInt n) :: st, σ, b)
    | .bipush n => some (nx, lv, .inl (Int32.ofInt n) :: st, σ, b)
    | .sipush n => some (nx, lv, .inl (Int32.ofInt n) :: st, σ, b)
    | .dup => match st with
      | v :: st => cond (Nat.beq (mcat v) 1) (some (nx, lv, v :: v :: st, σ, b)) none
      | _ => none
    | .iinc n c => match mlg lv n with
      | some (.inl x) => cond (mfree lv n) (some (nx, mls lv n (some (.inl (x + Int32.ofInt c))), st, σ, b)) none
      | _ => none
    | .ifCond c _ => match c, st with
      | .ge, .inl x :: st => some (if 0 ≤ x then a else nx, lv, st, σ, b)
      | _, _ => none
    | .if_icmp c _ => match c, st with
      | .ge, .inl y :: .inl x :: st => some (if y ≤ x then a else nx, lv, st, σ, b)
      | .le, .inl y :: .inl x :: st => some (if x ≤ y then a else nx, lv, st, σ, b)
      | _, _ => none
    | .goto _ => some (a, lv, st, σ, b)
    | .getfield _ => match st with
      | .inr (.inr r) :: st => match O.gf σ r a k with
        | some v => some (nx, lv, v :: st, σ, b)
        | none => none
      | _ => none
    | .putfield _ => match st with
      | v :: .inr (.inr r) :: st => match O.pf σ r a k v with
        | some σ' => some (nx, lv, st, σ', b)
        | none => none
      | _ => none
    | .iastore => match st with
      | .inl x :: .inl i :: .inr (.inr r) :: st => match O.ai σ r with
        | some (n, f) => match enat i n with
          | some j => match O.wi σ r (upd f j x) with
            | some σ' => some (nx, lv, st, σ', b)
            | none => none
          | none => none
        | none => none
      | _ => none
    | .aastore => match st with
      | .inr (.inr x) :: .inl i :: .inr (.inr r) :: st => match O.ar σ r with
        | some (n, _) => match enat i n with
          | some j => match O.wr σ r j x with
            | some σ' => some (nx, lv, st, σ', b)
            | none => none
          | none => none
        | none => none
      | _ => none
    | .arraylength => match st with
      | .inr (.inr r) :: st => match O.ln σ r with
        | some n => some (nx, lv, .inl (nI n) :: st, σ, b)
        | none => none
      | _ => none
    | .new _ => match O.nw σ a with
      | some (r, n, σ') => enew nx lv st b n (some (r, σ'))
      | none => none
    | .newarray _ => match st with
      | .inl i :: st => match enat i 100000 with
        | some n => enew nx lv st b n (O.na σ a n)
        | none => none
      | _ => none
    | .anewarray _ => match st with
      | .inl i :: st => match enat i 100000 with
        | some n => enew nx lv st b n (O.na σ a n)
        | none => none
      | _ => none
    | .invokestatic _ => match a with
      | 0 => none
      | a + 1 => match mtake k st [] with
        | none => none
        | some (as, rest) => cond (Nat.ble (mwt rest) 8) (match sw with
          | [] => match ec a as σ with
            | some (σ', r) => some (nx, lv, mpush r rest, σ', b)
            | none => none
          | _ => none) none
    | .invokespecial _ => match a with
      | 0 => match st with
        | .inr (.inr r) :: st => cond (Nat.ble (mwt st) 8 && Nat.ble 2 r.1) (some (nx, lv, st, σ, b)) none
        | _ => none
      | a + 1 => match mtake k st [] with
        | none => none
        | some (as, rest) => cond (Nat.ble (mwt rest) 8) (match as, sw with
          | .inr (.inr r0) :: as, [q] => match O.co σ r0 with
            | some _ => cond (Nat.ble q.1.toNat b.1 && Nat.ble q.2 b.2) (match ec a (.inr (.inr r0) :: as) σ with
              | some (σ', r) => some (nx, lv, mpush r rest, σ', (b.1 - q.1.toNat, b.2 - q.2))
              | none => none) none
            | none => none
          | _, _ => none) none
    | _ => none
def erun {S : Type} (O : MOps S) (ec : EC S) (cd : MC) : Nat → ES S → Option (S × Option MV)
  | 0, _ => none
  | n + 1, (pc, lv, st, σ, b) => match mfetch cd pc with
    | none => none
    | some (ins, q) => match ins with
      | .return_ => match st with
        | [] => cond (Nat.beq b.1 0) (some (σ, none)) none
        | _ => none
      | ins => match est O ec (ins, q) lv st σ b with
        | some z => erun O ec cd n z
        | none => none
def ecal {S : Type} (O : MOps S) : Nat → EC S
  | 0 => fun _ _ _ => none
  | d + 1 => fun m as σ => match kprog m with
    | some (cd, mx, rt) => cond (Nat.beq rt 0 && Nat.ble (mwt as) mx) (erun O (ecal O d) cd 400 (0, minit as mx, [], σ, kcost m)) none
    | none => none
section
variable {S : Type} {O : MOps S} {call : MCall S} {ec : EC S} {rt : Nat} {Post : S → Option MV → Prop} {K : MK S}
theorem eld_ok {nx : Nat} {lv : ML} {st : List MV} {n ty : Nat} {σ : S} {b : Nat × Nat} {z : ES S} (h : eld nx lv st n ty σ b = some z) (hK : K z.1 z.2.1 z.2.2.1 z.2.2.2.1 z.2.2.2.2) : mload (fun st => K nx lv st σ b) st lv n ty := by
  unfold eld at h
  unfold mload
  split at h
  · rename_i x e
    rw [e]
    cases h
    exact hK
  · rename_i x e
    rw [e]
    cases h
    exact hK
  · cases h
theorem esto_ok {nx : Nat} {lv : ML} {st : List MV} {n ty : Nat} {σ : S} {b : Nat × Nat} {z : ES S} (h : esto nx lv n ty st σ b = some z) (hK : K z.1 z.2.1 z.2.2.1 z.2.2.2.1 z.2.2.2.2) : mstore (fun lv st => K nx lv st σ b) lv n ty st := by
  unfold esto at h
  unfold mstore
  split at h
  · rename_i x st'
    cases hc : (mfree lv n && Nat.blt n lv.length) with
    | false => rw [hc] at h; cases h
    | true =>
      rw [hc] at h
      cases h
      exact hK
  · rename_i x st'
    show cond ((mfree lv n && Nat.blt n lv.length) && Nat.ble 2 x.1) (K nx (mls lv n (some (.inr (.inr x)))) st' σ b) False
    cases hc : ((mfree lv n && Nat.blt n lv.length) && Nat.ble 2 x.1) with
    | false => rw [hc] at h; cases h
    | true =>
      rw [hc] at h
      cases h
      exact hK
  · cases h
theorem enat_ok {i : Int32} {n j : Nat} (h : enat i n = some j) : j < n ∧ i = nI j := by
  unfold enat at h
  split at h
  · rename_i e
    cases hc : Nat.blt i.toNatClampNeg n with
    | false => rw [hc] at h; cases h
    | true =>
      rw [hc] at h
      cases h
      exact ⟨Nat.le_of_ble_eq_true hc, e⟩
  · cases h
theorem enew_ok {nx : Nat} {lv : ML} {st : List MV} {b : Nat × Nat} {n : Nat} {o : Option ((Nat × Nat) × S)} {z : ES S} (h : enew nx lv st b n o = some z) (hK : K z.1 z.2.1 z.2.2.1 z.2.2.2.1 z.2.2.2.2) : match (generalizing := false) o with
    | some (r, σ') => cond (Nat.ble 1 b.1 && Nat.ble n b.2) (K nx lv (.inr (.inr r) :: st) σ' (b.1 - 1, b.2 - n)) False
    | none => False := by
  unfold enew at h
  split at h
  · rename_i r σ'
    cases hc : (Nat.ble 1 b.1 && Nat.ble n b.2) with
    | false => rw [hc] at h; cases h
    | true =>
      rw [hc] at h
      cases h
      exact hK
  · cases h
set_option maxHeartbeats 4000000 in
theorem est_ok (hc : ∀ a as σ σ' r, ec a as σ = some (σ', r) → call a as σ (fun x y => x = σ' ∧ y = r)) {e : ME} {lv : ML} {st : List MV} {σ : S} {b : Nat × Nat} {z : ES S} (h : est O ec e lv st σ b = some z) (hK : K z.1 z.2.1 z.2.2.1 z.2.2.2.1 z.2.2.2.2) : mstep O call rt Post K e lv st σ b := by
  obtain ⟨ins, nx, a, k, sw⟩ := e
  cases ins
  case iload n => exact eld_ok h hK
  case iload_n n => exact eld_ok h hK
  case aload n => exact eld_ok h hK
  case aload_n n => exact eld_ok h hK
  case istore n => exact esto_ok h hK
  case istore_n n => exact esto_ok h hK
  case astore n => exact esto_ok h hK
  case astore_n n => exact esto_ok h hK
  case iconst n => cases h; exact hK
  case bipush n => cases h; exact hK
  case sipush n => cases h; exact hK
  case goto n => cases h; exact hK
  case dup =>
    dsimp only [est] at h
    dsimp only [mstep]
    split at h
    · rename_i v st'
      dsimp only
      cases hb : Nat.beq (mcat v) 1 with
      | false => rw [hb] at h; cases h
      | true => rw [hb] at h; cases h; exact hK
    · cases h
  case iinc n c =>
    dsimp only [est] at h
    dsimp only [mstep]
    split at h
    · rename_i x e
      rw [e]
      dsimp only
      cases hb : mfree lv n with
      | false => rw [hb] at h; cases h
      | true => rw [hb] at h; cases h; exact hK
    · cases h
  case ifCond c t =>
    dsimp only [est] at h
    dsimp only [mstep]
    split at h
    · rename_i x st'
      dsimp only
      cases h
      dsimp only at hK
      exact ⟨fun q => by rw [if_pos q] at hK; exact hK, fun q => by rw [if_neg q] at hK; exact hK⟩
    · cases h
  case if_icmp c t =>
    dsimp only [est] at h
    dsimp only [mstep]
    split at h
    · dsimp only
      cases h
      dsimp only at hK
      exact ⟨fun q => by rw [if_pos q] at hK; exact hK, fun q => by rw [if_neg q] at hK; exact hK⟩
    · dsimp only
      cases h
      dsimp only at hK
      exact ⟨fun q => by rw [if_pos q] at hK; exact hK, fun q => by rw [if_neg q] at hK; exact hK⟩
    · cases h
  case getfield n =>
    dsimp only [est] at h
    dsimp only [mstep]
    split at h
    · dsimp only
      split at h
      · rename_i v e
        rw [e]
        cases h
        exact hK
      · cases h
    · cases h
  case putfield n =>
    dsimp only [est] at h
    dsimp only [mstep]
    split at h
    · dsimp only
      split at h
      · rename_i v e
        rw [e]
        cases h
        exact hK
      · cases h
    · cases h
  case iastore =>
    dsimp only [est] at h
    dsimp only [mstep]
    split at h
    · dsimp only
      split at h
      · rename_i n f e
        rw [e]
        dsimp only
        split at h
        · rename_i j ej
          split at h
          · rename_i σ' ew
            cases h
            obtain ⟨j1, j2⟩ := enat_ok ej
            refine ⟨j, j1, j2, ?_⟩
            rw [ew]
            exact hK
          · cases h
        · cases h
      · cases h
    · cases h
  case aastore =>
    dsimp only [est] at h
    dsimp only [mstep]
    split at h
    · dsimp only
      split at h
      · rename_i n f e
        rw [e]
        dsimp only
        split at h
        · rename_i j ej
          split at h
          · rename_i σ' ew
            cases h
            obtain ⟨j1, j2⟩ := enat_ok ej
            refine ⟨j, j1, j2, ?_⟩
            rw [ew]
            exact hK
          · cases h
        · cases h
      · cases h
    · cases h
  case arraylength =>
    dsimp only [est] at h
    dsimp only [mstep]
    split at h
    · dsimp only
      split at h
      · rename_i n e
        rw [e]
        cases h
        exact hK
      · cases h
    · cases h
  case new n =>
    dsimp only [est] at h
    dsimp only [mstep]
    split at h
    · rename_i r n σ' e
      rw [e]
      exact enew_ok (K := K) h hK
    · cases h
  case newarray n =>
    dsimp only [est] at h
    dsimp only [mstep]
    split at h
    · dsimp only
      split at h
      · rename_i n e
        obtain ⟨j1, j2⟩ := enat_ok e
        exact ⟨n, j1, j2, enew_ok (K := K) h hK⟩
      · cases h
    · cases h
  case anewarray n =>
    dsimp only [est] at h
    dsimp only [mstep]
    split at h
    · dsimp only
      split at h
      · rename_i n e
        obtain ⟨j1, j2⟩ := enat_ok e
        exact ⟨n, j1, j2, enew_ok (K := K) h hK⟩
      · cases h
    · cases h
  case invokestatic n =>
    dsimp only [est] at h
    cases a with
    | zero => cases h
    | succ a =>
      dsimp only [mstep]
      unfold mcall0
      dsimp only at h
      split at h
      · cases h
      · rename_i as rest e
        rw [e]
        dsimp only
        cases hb : Nat.ble (mwt rest) 8 with
        | false => rw [hb] at h; cases h
        | true =>
          rw [hb] at h
          dsimp only [cond] at h ⊢
          split at h
          · dsimp only
            split at h
            · rename_i σ' r ee
              cases h
              exact ⟨_, hc _ _ _ _ _ ee, fun x y q => by rw [q.1, q.2]; exact hK⟩
            · cases h
          · cases h
  case invokespecial n =>
    dsimp only [est] at h
    cases a with
    | zero =>
      dsimp only [mstep]
      dsimp only at h
      split at h
      · rename_i r st'
        dsimp only
        cases hb : (Nat.ble (mwt st') 8 && Nat.ble 2 r.1) with
        | false => rw [hb] at h; cases h
        | true => rw [hb] at h; cases h; exact hK
      · cases h
    | succ a =>
      dsimp only [mstep]
      unfold mcall2
      dsimp only at h
      split at h
      · cases h
      · rename_i as rest e
        rw [e]
        dsimp only
        cases hb : Nat.ble (mwt rest) 8 with
        | false => rw [hb] at h; cases h
        | true =>
          rw [hb] at h
          dsimp only [cond] at h ⊢
          split at h
          · rename_i r0 as' q
            dsimp only
            split at h
            · rename_i ci eci
              rw [eci]
              dsimp only
              cases hq : (Nat.ble q.1.toNat b.1 && Nat.ble q.2 b.2) with
              | false => rw [hq] at h; cases h
              | true =>
                rw [hq] at h
                dsimp only [cond] at h ⊢
                split at h
                · rename_i σ' r ee
                  cases h
                  exact ⟨_, hc _ _ _ _ _ ee, fun x y q => by rw [q.1, q.2]; exact hK⟩
                · cases h
            · cases h
          · cases h
  all_goals cases h
theorem erun_ok (hc : ∀ a as σ σ' r, ec a as σ = some (σ', r) → call a as σ (fun x y => x = σ' ∧ y = r)) {cd : MC} {P : MK S} (hP : MClosed O call cd 0 Post P) {σ' : S} {r : Option MV} (hq : Post σ' r) : ∀ (n : Nat) (z : ES S), erun O ec cd n z = some (σ', r) → P z.1 z.2.1 z.2.2.1 z.2.2.2.1 z.2.2.2.2
  | 0, _, h => by cases h
  | n + 1, (pc, lv, st, σ, b), h => by
    unfold erun at h
    show P pc lv st σ b
    refine hP _ _ _ _ _ ?_
    unfold mat
    split at h
    · cases h
    · rename_i ins q e
      rw [e]
      dsimp only
      split at h
      · split at h
        · cases hb : Nat.beq b.1 0 with
          | false => rw [hb] at h; cases h
          | true =>
            rw [hb] at h
            cases h
            obtain ⟨nx, a, k, sw⟩ := q
            show cond (Nat.beq b.1 0) (Post _ none) False
            rw [hb]
            exact hq
        · cases h
      · split at h
        · rename_i z ez
          exact est_ok hc ez (erun_ok hc hP hq n z h)
        · cases h
theorem ecal_ok : ∀ (d m : Nat) (as : List MV) (σ σ' : S) (r : Option MV), ecal O d m as σ = some (σ', r) → kcall O d m as σ (fun x y => x = σ' ∧ y = r)
  | 0, _, _, _, _, _, h => by cases h
  | d + 1, m, as, σ, σ', r, h => by
    unfold ecal at h
    split at h
    · rename_i cd mx rt e
      cases hb : (Nat.beq rt 0 && Nat.ble (mwt as) mx) with
      | false => rw [hb] at h; cases h
      | true =>
        rw [hb] at h
        obtain ⟨h1, h2⟩ := Bool.and_eq_true_iff.mp hb
        have h1 := Nat.eq_of_beq_eq_true h1
        subst h1
        refine kc_of e h2 ?_
        intro P hP
        exact erun_ok (ecal_ok d) hP ⟨rfl, rfl⟩ _ _ h
    · cases h
/-- a run's beginning: some steps, then on -/
def estp {S : Type} (O : MOps S) (ec : EC S) (cd : MC) : Nat → ES S → Option (ES S)
  | 0, z => some z
  | n + 1, (pc, lv, st, σ, b) => match mfetch cd pc with
    | none => none
    | some e => match est O ec e lv st σ b with
      | some z => estp O ec cd n z
      | none => none
theorem estp_ok (hc : ∀ a as σ σ' r, ec a as σ = some (σ', r) → call a as σ (fun x y => x = σ' ∧ y = r)) {cd : MC} {P : MK S} (hP : MClosed O call cd rt Post P) : ∀ (n : Nat) (z z' : ES S), estp O ec cd n z = some z' → P z'.1 z'.2.1 z'.2.2.1 z'.2.2.2.1 z'.2.2.2.2 → P z.1 z.2.1 z.2.2.1 z.2.2.2.1 z.2.2.2.2
  | 0, _, _, h, h' => by cases h; exact h'
  | n + 1, (pc, lv, st, σ, b), z', h, h' => by
    unfold estp at h
    show P pc lv st σ b
    refine hP _ _ _ _ _ ?_
    unfold mat
    split at h
    · cases h
    · rename_i e ee
      rw [ee]
      split at h
      · rename_i z ez
        exact est_ok hc ez (estp_ok hc hP n z z' h h')
      · cases h
end
