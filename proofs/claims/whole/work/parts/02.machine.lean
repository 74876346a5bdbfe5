/-! ===== THE SMALL MACHINE: values, code lists, one step as a predicate transformer, the least closed predicate ===== -/
abbrev MV : Type := Int32 ⊕ (Int64 ⊕ (Nat × Nat))
abbrev mI (x : Int32) : MV := .inl x
abbrev mL (x : Int64) : MV := .inr (.inl x)
abbrev mR (c i : Nat) : MV := .inr (.inr (c, i))
def mcat : MV → Nat
  | .inr (.inl _) => 2
  | _ => 1
/-- an instruction with what links it: itself, the next pc, two numbers, a list -/
abbrev ME : Type := Instr × Nat × Nat × Nat × List (Int × Nat)
abbrev MC : Type := List (Nat × ME)
def mfetch : MC → Nat → Option ME
  | [], _ => none
  | q :: r, pc => cond (Nat.beq q.1 pc) (some q.2) (mfetch r pc)
abbrev ML : Type := List (Option MV)
def mlg : ML → Nat → Option MV
  | [], _ => none
  | o :: _, 0 => o
  | _ :: r, n + 1 => mlg r n
def mls : ML → Nat → Option MV → ML
  | [], _, _ => []
  | _ :: r, 0, v => v :: r
  | o :: r, n + 1, v => o :: mls r n v
/-- no long stands right below the place -/
def mfree : ML → Nat → Bool
  | _, 0 => true
  | lv, n + 1 => match mlg lv n with
    | some (.inr (.inl _)) => false
    | _ => true
def mwt : List MV → Nat
  | [] => 0
  | v :: r => mcat v + mwt r
def mtake : Nat → List MV → List MV → Option (List MV × List MV)
  | 0, st, acc => some (acc, st)
  | _ + 1, [], _ => none
  | n + 1, v :: st, acc => mtake n st (v :: acc)
def mpush : Option MV → List MV → List MV
  | none, st => st
  | some v, st => v :: st
def minit : List MV → Nat → ML
  | [], n => List.replicate n none
  | .inr (.inl y) :: r, n => some (mL y) :: none :: minit r (n - 2)
  | v :: r, n => some v :: minit r (n - 1)
/-- what a heap can do: fields, their storing, lengths, int arrays and their contents, long arrays, arrays of references, new objects, new arrays; byte arrays and statics that nobody writes; the class of an object -/
abbrev MOps (S : Type) : Type :=
  (S → Nat × Nat → Nat → Nat → Option MV) × (S → Nat × Nat → Nat → Nat → MV → Option S) × (S → Nat × Nat → Option Nat) ×
  (S → Nat × Nat → Option (Nat × (Nat → Int32))) × (S → Nat × Nat → (Nat → Int32) → Option S) ×
  (S → Nat × Nat → Option (Nat × (Nat → Int64))) × (S → Nat × Nat → (Nat → Int64) → Option S) ×
  (S → Nat × Nat → Option (Nat × (Nat → Nat × Nat))) × (S → Nat × Nat → Nat → Nat × Nat → Option S) ×
  (S → Nat → Option ((Nat × Nat) × Nat × S)) × (S → Nat → Nat → Option ((Nat × Nat) × S)) ×
  (S → Nat × Nat → Option (Nat × (Nat → Int32))) × (Nat → Option MV) × (S → Nat × Nat → Option Nat)
abbrev MOps.gf {S : Type} (O : MOps S) := O.1
abbrev MOps.pf {S : Type} (O : MOps S) := O.2.1
abbrev MOps.ln {S : Type} (O : MOps S) := O.2.2.1
abbrev MOps.ai {S : Type} (O : MOps S) := O.2.2.2.1
abbrev MOps.wi {S : Type} (O : MOps S) := O.2.2.2.2.1
abbrev MOps.al {S : Type} (O : MOps S) := O.2.2.2.2.2.1
abbrev MOps.wl {S : Type} (O : MOps S) := O.2.2.2.2.2.2.1
abbrev MOps.ar {S : Type} (O : MOps S) := O.2.2.2.2.2.2.2.1
abbrev MOps.wr {S : Type} (O : MOps S) := O.2.2.2.2.2.2.2.2.1
abbrev MOps.nw {S : Type} (O : MOps S) := O.2.2.2.2.2.2.2.2.2.1
abbrev MOps.na {S : Type} (O : MOps S) := O.2.2.2.2.2.2.2.2.2.2.1
abbrev MOps.ab {S : Type} (O : MOps S) := O.2.2.2.2.2.2.2.2.2.2.2.1
abbrev MOps.gs {S : Type} (O : MOps S) := O.2.2.2.2.2.2.2.2.2.2.2.2.1
abbrev MOps.co {S : Type} (O : MOps S) := O.2.2.2.2.2.2.2.2.2.2.2.2.2
abbrev MK (S : Type) : Type := Nat → ML → List MV → S → Nat × Nat → Prop
abbrev MCall (S : Type) : Type := Nat → List MV → S → (S → Option MV → Prop) → Prop
def jrem (x y : Int32) : Int32 := x - x / y * y
def jremL (x y : Int64) : Int64 := x - x / y * y
def jushr (x y : Int32) : Int32 := (x.toUInt32 >>> (y.toUInt32 &&& Int32.toUInt32 31)).toInt32
def jlushr (x : Int64) (y : Int32) : Int64 := (x.toUInt64 >>> (y.toInt64.toUInt64 &&& Int64.toUInt64 63)).toInt64
def ji2c (x : Int32) : Int32 := (x.toUInt32 % 65536).toInt32
def msw (x : Int32) (K : Nat → Prop) (d : Nat) : List (Int × Nat) → Prop
  | [] => K d
  | q :: r => (x = Int32.ofInt q.1 → K q.2) ∧ (¬ x = Int32.ofInt q.1 → msw x K d r)
def mload (K : List MV → Prop) (st : List MV) (lv : ML) (n ty : Nat) : Prop := match ty, mlg lv n with
  | 0, some (.inl x) => K (.inl x :: st)
  | 1, some (.inr (.inl x)) => K (.inr (.inl x) :: st)
  | 2, some (.inr (.inr x)) => K (.inr (.inr x) :: st)
  | _, _ => False
def mstore (K : ML → List MV → Prop) (lv : ML) (n ty : Nat) (st : List MV) : Prop := match ty, st with
  | 0, .inl x :: st => cond (mfree lv n && Nat.blt n lv.length) (K (mls lv n (some (.inl x))) st) False
  | 1, .inr (.inl x) :: st => cond (mfree lv n && Nat.blt (n + 1) lv.length) (K (mls (mls lv n (some (.inr (.inl x)))) (n + 1) none) st) False
  | 2, .inr (.inr x) :: st => cond ((mfree lv n && Nat.blt n lv.length) && Nat.ble 2 x.1) (K (mls lv n (some (.inr (.inr x)))) st) False
  | _, _ => False
def mcall0 {S : Type} (call : MCall S) (K : List MV → S → Nat × Nat → Prop) (a n : Nat) (sw : List (Int × Nat)) (st : List MV) (σ : S) (b : Nat × Nat) : Prop := match mtake n st [] with
  | none => False
  | some (as, rest) => cond (Nat.ble (mwt rest) 8) (match sw with
    | [] => ∃ Q : S → Option MV → Prop, call a as σ Q ∧ ∀ σ' r, Q σ' r → K (mpush r rest) σ' b
    | _ => False) False
def mcall1 {S : Type} (O : MOps S) (call : MCall S) (K : List MV → S → Nat × Nat → Prop) (a n : Nat) (sw : List (Int × Nat)) (st : List MV) (σ : S) (b : Nat × Nat) : Prop := match mtake n st [] with
  | none => False
  | some (as, rest) => cond (Nat.ble (mwt rest) 8) (match as, sw with
    | .inr (.inr r0) :: as, [q] => match O.co σ r0 with
      | some ci => cond (Nat.beq ci q.2) (∃ Q : S → Option MV → Prop, call a (.inr (.inr r0) :: as) σ Q ∧ ∀ σ' r, Q σ' r → K (mpush r rest) σ' b) False
      | none => False
    | _, _ => False) False
def mcall2 {S : Type} (O : MOps S) (call : MCall S) (K : List MV → S → Nat × Nat → Prop) (a n : Nat) (sw : List (Int × Nat)) (st : List MV) (σ : S) (b : Nat × Nat) : Prop := match mtake n st [] with
  | none => False
  | some (as, rest) => cond (Nat.ble (mwt rest) 8) (match as, sw with
    | .inr (.inr r0) :: as, [q] => match O.co σ r0 with
      | some _ => cond (Nat.ble q.1.toNat b.1 && Nat.ble q.2 b.2) (∃ Q : S → Option MV → Prop, call a (.inr (.inr r0) :: as) σ Q ∧ ∀ σ' r, Q σ' r → K (mpush r rest) σ' (b.1 - q.1.toNat, b.2 - q.2)) False
      | none => False
    | _, _ => False) False
/-- Math's own: abs, max, min of ints, max, min of longs -/
def mmath (k : Nat) (st : List MV) : Option (List MV) := match k, st with
  | 101, .inl x :: st => some (.inl (if 0 ≤ x then x else 0 - x) :: st)
  | 102, .inl y :: .inl x :: st => some (.inl (if x < y then y else x) :: st)
  | 103, .inl y :: .inl x :: st => some (.inl (if y < x then y else x) :: st)
  | 104, .inr (.inl y) :: .inr (.inl x) :: st => some (.inr (.inl (if y < x then x else y)) :: st)
  | 105, .inr (.inl y) :: .inr (.inl x) :: st => some (.inr (.inl (if y < x then y else x)) :: st)
  | _, _ => none
/-- one instruction: what must hold so that K holds behind it -/
def mstep {S : Type} (O : MOps S) (call : MCall S) (rt : Nat) (Post : S → Option MV → Prop) (K : MK S) (e : ME) (lv : ML) (st : List MV) (σ : S) (b : Nat × Nat) : Prop := match e with
  | (ins, nx, a, k, sw) => match ins with
    | .iload n => mload (fun st => K nx lv st σ b) st lv n 0
    | .iload_n n => mload (fun st => K nx lv st σ b) st lv n.val 0
    | .lload n => mload (fun st => K nx lv st σ b) st lv n 1
    | .lload_n n => mload (fun st => K nx lv st σ b) st lv n.val 1
    | .aload n => mload (fun st => K nx lv st σ b) st lv n 2
    | .aload_n n => mload (fun st => K nx lv st σ b) st lv n.val 2
    | .istore n => mstore (fun lv st => K nx lv st σ b) lv n 0 st
    | .istore_n n => mstore (fun lv st => K nx lv st σ b) lv n.val 0 st
    | .lstore n => mstore (fun lv st => K nx lv st σ b) lv n 1 st
    | .lstore_n n => mstore (fun lv st => K nx lv st σ b) lv n.val 1 st
    | .astore n => mstore (fun lv st => K nx lv st σ b) lv n 2 st
    | .astore_n n => mstore (fun lv st => K nx lv st σ b) lv n.val 2 st
    | .iconst n => K nx lv (.inl (Int32.ofInt n) :: st) σ b
    | .bipush n => K nx lv (.inl (Int32.ofInt n) :: st) σ b
    | .sipush n => K nx lv (.inl (Int32.ofInt n) :: st) σ b
    | .lconst n => K nx lv (.inr (.inl (Int64.ofNat n.val)) :: st) σ b
    | .aconst_null => K nx lv (.inr (.inr (0, 0)) :: st) σ b
    | .ldc _ => match sw with
      | [] => K nx lv (.inr (.inr (2, a)) :: st) σ b
      | q :: _ => K nx lv (.inl (Int32.ofInt q.1) :: st) σ b
    | .ldc_w _ => match sw with
      | [] => False
      | q :: _ => K nx lv (.inl (Int32.ofInt q.1) :: st) σ b
    | .ldc2_w _ => match sw with
      | [] => False
      | q :: _ => K nx lv (.inr (.inl (Int64.ofInt q.1)) :: st) σ b
    | .iadd => match st with
      | .inl y :: .inl x :: st => K nx lv (.inl (x + y) :: st) σ b
      | _ => False
    | .isub => match st with
      | .inl y :: .inl x :: st => K nx lv (.inl (x - y) :: st) σ b
      | _ => False
    | .imul => match st with
      | .inl y :: .inl x :: st => K nx lv (.inl (x * y) :: st) σ b
      | _ => False
    | .iand => match st with
      | .inl y :: .inl x :: st => K nx lv (.inl (x &&& y) :: st) σ b
      | _ => False
    | .ior => match st with
      | .inl y :: .inl x :: st => K nx lv (.inl (x ||| y) :: st) σ b
      | _ => False
    | .ixor => match st with
      | .inl y :: .inl x :: st => K nx lv (.inl (x ^^^ y) :: st) σ b
      | _ => False
    | .ishl => match st with
      | .inl y :: .inl x :: st => K nx lv (.inl (x <<< (y &&& 31)) :: st) σ b
      | _ => False
    | .ishr => match st with
      | .inl y :: .inl x :: st => K nx lv (.inl (x >>> (y &&& 31)) :: st) σ b
      | _ => False
    | .iushr => match st with
      | .inl y :: .inl x :: st => K nx lv (.inl (jushr x y) :: st) σ b
      | _ => False
    | .idiv => match st with
      | .inl y :: .inl x :: st => ¬ y = 0 ∧ K nx lv (.inl (x / y) :: st) σ b
      | _ => False
    | .irem => match st with
      | .inl y :: .inl x :: st => ¬ y = 0 ∧ K nx lv (.inl (jrem x y) :: st) σ b
      | _ => False
    | .ineg => match st with
      | .inl x :: st => K nx lv (.inl (-x) :: st) σ b
      | _ => False
    | .ladd => match st with
      | .inr (.inl y) :: .inr (.inl x) :: st => K nx lv (.inr (.inl (x + y)) :: st) σ b
      | _ => False
    | .lsub => match st with
      | .inr (.inl y) :: .inr (.inl x) :: st => K nx lv (.inr (.inl (x - y)) :: st) σ b
      | _ => False
    | .lmul => match st with
      | .inr (.inl y) :: .inr (.inl x) :: st => K nx lv (.inr (.inl (x * y)) :: st) σ b
      | _ => False
    | .land => match st with
      | .inr (.inl y) :: .inr (.inl x) :: st => K nx lv (.inr (.inl (x &&& y)) :: st) σ b
      | _ => False
    | .lor => match st with
      | .inr (.inl y) :: .inr (.inl x) :: st => K nx lv (.inr (.inl (x ||| y)) :: st) σ b
      | _ => False
    | .ldiv => match st with
      | .inr (.inl y) :: .inr (.inl x) :: st => ¬ y = 0 ∧ K nx lv (.inr (.inl (x / y)) :: st) σ b
      | _ => False
    | .lrem => match st with
      | .inr (.inl y) :: .inr (.inl x) :: st => ¬ y = 0 ∧ K nx lv (.inr (.inl (jremL x y)) :: st) σ b
      | _ => False
    | .lushr => match st with
      | .inl y :: .inr (.inl x) :: st => K nx lv (.inr (.inl (jlushr x y)) :: st) σ b
      | _ => False
    | .lshl => match st with
      | .inl y :: .inr (.inl x) :: st => K nx lv (.inr (.inl (x <<< (y.toInt64 &&& 63))) :: st) σ b
      | _ => False
    | .lcmp => match st with
      | .inr (.inl y) :: .inr (.inl x) :: st => K nx lv (.inl (lg_cmp x y) :: st) σ b
      | _ => False
    | .i2l => match st with
      | .inl x :: st => K nx lv (.inr (.inl x.toInt64) :: st) σ b
      | _ => False
    | .l2i => match st with
      | .inr (.inl x) :: st => K nx lv (.inl x.toInt32 :: st) σ b
      | _ => False
    | .i2c => match st with
      | .inl x :: st => K nx lv (.inl (ji2c x) :: st) σ b
      | _ => False
    | .i2b => match st with
      | .inl x :: st => K nx lv (.inl x.toInt8.toInt32 :: st) σ b
      | _ => False
    | .dup => match st with
      | v :: st => cond (Nat.beq (mcat v) 1) (K nx lv (v :: v :: st) σ b) False
      | _ => False
    | .dup2 => match st with
      | v :: w :: st => cond (Nat.beq (mcat v) 1 && Nat.beq (mcat w) 1) (K nx lv (v :: w :: v :: w :: st) σ b) (cond (Nat.beq (mcat v) 2) (K nx lv (v :: v :: w :: st) σ b) False)
      | _ => False
    | .pop => match st with
      | v :: st => cond (Nat.beq (mcat v) 1) (K nx lv st σ b) False
      | _ => False
    | .iinc n c => match mlg lv n with
      | some (.inl x) => cond (mfree lv n) (K nx (mls lv n (some (.inl (x + Int32.ofInt c)))) st σ b) False
      | _ => False
    | .ifCond c _ => match c, st with
      | .eq, .inl x :: st => (x = 0 → K a lv st σ b) ∧ (¬ x = 0 → K nx lv st σ b)
      | .ne, .inl x :: st => (¬ x = 0 → K a lv st σ b) ∧ (x = 0 → K nx lv st σ b)
      | .lt, .inl x :: st => (x < 0 → K a lv st σ b) ∧ (¬ x < 0 → K nx lv st σ b)
      | .ge, .inl x :: st => (0 ≤ x → K a lv st σ b) ∧ (¬ 0 ≤ x → K nx lv st σ b)
      | .gt, .inl x :: st => (0 < x → K a lv st σ b) ∧ (¬ 0 < x → K nx lv st σ b)
      | .le, .inl x :: st => (x ≤ 0 → K a lv st σ b) ∧ (¬ x ≤ 0 → K nx lv st σ b)
      | _, _ => False
    | .if_icmp c _ => match c, st with
      | .eq, .inl y :: .inl x :: st => (x = y → K a lv st σ b) ∧ (¬ x = y → K nx lv st σ b)
      | .ne, .inl y :: .inl x :: st => (¬ x = y → K a lv st σ b) ∧ (x = y → K nx lv st σ b)
      | .lt, .inl y :: .inl x :: st => (x < y → K a lv st σ b) ∧ (¬ x < y → K nx lv st σ b)
      | .ge, .inl y :: .inl x :: st => (y ≤ x → K a lv st σ b) ∧ (¬ y ≤ x → K nx lv st σ b)
      | .gt, .inl y :: .inl x :: st => (y < x → K a lv st σ b) ∧ (¬ y < x → K nx lv st σ b)
      | .le, .inl y :: .inl x :: st => (x ≤ y → K a lv st σ b) ∧ (¬ x ≤ y → K nx lv st σ b)
      | _, _ => False
    | .ifnonnull _ => match st with
      | .inr (.inr r) :: st => ¬ r.1 = 1 ∧ (¬ r.1 = 0 → K a lv st σ b) ∧ (r.1 = 0 → K nx lv st σ b)
      | _ => False
    | .goto _ => K a lv st σ b
    | .tableswitch _ _ _ _ => match st with
      | .inl x :: st => msw x (fun t => K t lv st σ b) a sw
      | _ => False
    | .lookupswitch _ _ => match st with
      | .inl x :: st => msw x (fun t => K t lv st σ b) a sw
      | _ => False
    | .getfield _ => match st with
      | .inr (.inr r) :: st => match O.gf σ r a k with
        | some v => K nx lv (v :: st) σ b
        | none => False
      | _ => False
    | .putfield _ => match st with
      | v :: .inr (.inr r) :: st => match O.pf σ r a k v with
        | some σ' => K nx lv st σ' b
        | none => False
      | _ => False
    | .getstatic _ => match O.gs a with
      | some v => K nx lv (v :: st) σ b
      | none => False
    | .iaload => match st with
      | .inl i :: .inr (.inr r) :: st => match O.ai σ r with
        | some (n, f) => ∃ j : Nat, j < n ∧ i = nI j ∧ K nx lv (.inl (f j) :: st) σ b
        | none => False
      | _ => False
    | .baload => match st with
      | .inl i :: .inr (.inr r) :: st => match O.ab σ r with
        | some (n, f) => ∃ j : Nat, j < n ∧ i = nI j ∧ K nx lv (.inl (f j) :: st) σ b
        | none => False
      | _ => False
    | .laload => match st with
      | .inl i :: .inr (.inr r) :: st => match O.al σ r with
        | some (n, f) => ∃ j : Nat, j < n ∧ i = nI j ∧ K nx lv (.inr (.inl (f j)) :: st) σ b
        | none => False
      | _ => False
    | .aaload => match st with
      | .inl i :: .inr (.inr r) :: st => match O.ar σ r with
        | some (n, f) => ∃ j : Nat, j < n ∧ i = nI j ∧ K nx lv (.inr (.inr (f j)) :: st) σ b
        | none => False
      | _ => False
    | .iastore => match st with
      | .inl x :: .inl i :: .inr (.inr r) :: st => match O.ai σ r with
        | some (n, f) => ∃ j : Nat, j < n ∧ i = nI j ∧ (match O.wi σ r (upd f j x) with
          | some σ' => K nx lv st σ' b
          | none => False)
        | none => False
      | _ => False
    | .lastore => match st with
      | .inr (.inl x) :: .inl i :: .inr (.inr r) :: st => match O.al σ r with
        | some (n, f) => ∃ j : Nat, j < n ∧ i = nI j ∧ (match O.wl σ r (vp_updL f j x) with
          | some σ' => K nx lv st σ' b
          | none => False)
        | none => False
      | _ => False
    | .aastore => match st with
      | .inr (.inr x) :: .inl i :: .inr (.inr r) :: st => match O.ar σ r with
        | some (n, f) => ∃ j : Nat, j < n ∧ i = nI j ∧ (match O.wr σ r j x with
          | some σ' => K nx lv st σ' b
          | none => False)
        | none => False
      | _ => False
    | .arraylength => match st with
      | .inr (.inr r) :: st => match O.ln σ r with
        | some n => K nx lv (.inl (nI n) :: st) σ b
        | none => False
      | _ => False
    | .new _ => match O.nw σ a with
      | some (r, n, σ') => cond (Nat.ble 1 b.1 && Nat.ble n b.2) (K nx lv (.inr (.inr r) :: st) σ' (b.1 - 1, b.2 - n)) False
      | none => False
    | .newarray _ => match st with
      | .inl i :: st => ∃ n : Nat, n < 100000 ∧ i = nI n ∧ (match O.na σ a n with
        | some (r, σ') => cond (Nat.ble 1 b.1 && Nat.ble n b.2) (K nx lv (.inr (.inr r) :: st) σ' (b.1 - 1, b.2 - n)) False
        | none => False)
      | _ => False
    | .anewarray _ => match st with
      | .inl i :: st => ∃ n : Nat, n < 100000 ∧ i = nI n ∧ (match O.na σ a n with
        | some (r, σ') => cond (Nat.ble 1 b.1 && Nat.ble n b.2) (K nx lv (.inr (.inr r) :: st) σ' (b.1 - 1, b.2 - n)) False
        | none => False)
      | _ => False
    | .invokestatic _ => match a with
      | 0 => match k with
        | 5 => match st with
          | .inl n :: .inl dp :: .inr (.inr r1) :: .inl sp :: .inr (.inr r0) :: st => match O.ai σ r0, O.ai σ r1 with
            | some (n0, f0), some (n1, f1) => ∃ n' dp' sp' : Nat, n = nI n' ∧ dp = nI dp' ∧ sp = nI sp' ∧ sp' + n' ≤ n0 ∧ dp' + n' ≤ n1 ∧ Nat.ble (mwt st) 8 = true ∧ (match O.wi σ r1 (va_cpy f0 f1 sp' dp' n') with
              | some σ' => K nx lv st σ' b
              | none => False)
            | _, _ => False
          | _ => False
        | k => match mmath k st with
          | some st' => cond (Nat.ble (mwt st) 12) (K nx lv st' σ b) False
          | none => False
      | a + 1 => mcall0 call (fun st σ b => K nx lv st σ b) a k sw st σ b
    | .invokevirtual _ => mcall1 O call (fun st σ b => K nx lv st σ b) a k sw st σ b
    | .invokespecial _ => match a with
      | 0 => match st with
        | .inr (.inr r) :: st => cond (Nat.ble (mwt st) 8 && Nat.ble 2 r.1) (K nx lv st σ b) False
        | _ => False
      | a + 1 => mcall2 O call (fun st σ b => K nx lv st σ b) a k sw st σ b
    | .ireturn => match rt, st with
      | 1, [.inl x] => cond (Nat.beq b.1 0) (Post σ (some (.inl x))) False
      | 2, [.inl x] => cond (Nat.beq b.1 0) ((x = 0 ∨ x = 1) ∧ Post σ (some (.inl x))) False
      | 3, [.inl x] => cond (Nat.beq b.1 0) ((∃ j : Nat, j < 65536 ∧ x = nI j) ∧ Post σ (some (.inl x))) False
      | _, _ => False
    | .lreturn => match rt, st with
      | 4, [.inr (.inl x)] => cond (Nat.beq b.1 0) (Post σ (some (.inr (.inl x)))) False
      | _, _ => False
    | .return_ => match rt, st with
      | 0, [] => cond (Nat.beq b.1 0) (Post σ none) False
      | _, _ => False
    | _ => False
def mat {S : Type} (O : MOps S) (call : MCall S) (cd : MC) (rt : Nat) (Post : S → Option MV → Prop) (K : MK S) : MK S := fun pc lv st σ b => match mfetch cd pc with
  | some e => mstep O call rt Post K e lv st σ b
  | none => False
/-- closed under one step backwards -/
abbrev MClosed {S : Type} (O : MOps S) (call : MCall S) (cd : MC) (rt : Nat) (Post : S → Option MV → Prop) (P : MK S) : Prop := ∀ pc lv st σ b, mat O call cd rt Post P pc lv st σ b → P pc lv st σ b
def mrun {S : Type} (O : MOps S) (call : MCall S) (cd : MC) (rt : Nat) (Post : S → Option MV → Prop) : MK S := fun pc lv st σ b => ∀ P : MK S, MClosed O call cd rt Post P → P pc lv st σ b
def mcut : List Nat → Nat → Bool
  | [], _ => false
  | c :: r, pc => cond (Nat.beq c pc) true (mcut r pc)
/-- up to n steps, but none at a pc of the list -/
def mgo {S : Type} (O : MOps S) (call : MCall S) (cd : MC) (rt : Nat) (Post : S → Option MV → Prop) (P : MK S) (cut : List Nat) : Nat → MK S
  | 0 => P
  | n + 1 => fun pc lv st σ b => cond (mcut cut pc) (P pc lv st σ b) (mat O call cd rt Post (mgo O call cd rt Post P cut n) pc lv st σ b)
theorem mload_mono {K1 K2 : List MV → Prop} (h : ∀ st, K1 st → K2 st) {st : List MV} {lv : ML} {n ty : Nat} : mload K1 st lv n ty → mload K2 st lv n ty := by
  unfold mload
  split <;> intro hh
  · exact h _ hh
  · exact h _ hh
  · exact h _ hh
  · exact hh
theorem mcond_mono {b : Bool} {A B : Prop} (h : A → B) : cond b A False → cond b B False := by
  cases b
  · exact id
  · exact h
theorem mstore_mono {K1 K2 : ML → List MV → Prop} (h : ∀ lv st, K1 lv st → K2 lv st) {lv : ML} {n ty : Nat} {st : List MV} : mstore K1 lv n ty st → mstore K2 lv n ty st := by
  unfold mstore
  split
  · exact mcond_mono (h _ _)
  · exact mcond_mono (h _ _)
  · exact mcond_mono (h _ _)
  · exact id
theorem msw_mono {K1 K2 : Nat → Prop} (h : ∀ t, K1 t → K2 t) {x : Int32} {d : Nat} : ∀ sw : List (Int × Nat), msw x K1 d sw → msw x K2 d sw
  | [] => h _
  | _ :: r => fun hh => ⟨fun q => h _ (hh.1 q), fun q => msw_mono h r (hh.2 q)⟩
theorem mcall0_mono {S : Type} {call : MCall S} {K1 K2 : List MV → S → Nat × Nat → Prop} (h : ∀ st σ b, K1 st σ b → K2 st σ b) {a n : Nat} {sw : List (Int × Nat)} {st : List MV} {σ : S} {b : Nat × Nat} : mcall0 call K1 a n sw st σ b → mcall0 call K2 a n sw st σ b := by
  unfold mcall0
  split
  · exact id
  · refine mcond_mono ?_
    split
    · exact fun ⟨Q, h1, h2⟩ => ⟨Q, h1, fun σ' r q => h _ _ _ (h2 σ' r q)⟩
    · exact id
theorem mcall1_mono {S : Type} {O : MOps S} {call : MCall S} {K1 K2 : List MV → S → Nat × Nat → Prop} (h : ∀ st σ b, K1 st σ b → K2 st σ b) {a n : Nat} {sw : List (Int × Nat)} {st : List MV} {σ : S} {b : Nat × Nat} : mcall1 O call K1 a n sw st σ b → mcall1 O call K2 a n sw st σ b := by
  unfold mcall1
  split
  · exact id
  · refine mcond_mono ?_
    split
    · split
      · exact mcond_mono fun ⟨Q, h1, h2⟩ => ⟨Q, h1, fun σ' r q => h _ _ _ (h2 σ' r q)⟩
      · exact id
    · exact id
theorem mcall2_mono {S : Type} {O : MOps S} {call : MCall S} {K1 K2 : List MV → S → Nat × Nat → Prop} (h : ∀ st σ b, K1 st σ b → K2 st σ b) {a n : Nat} {sw : List (Int × Nat)} {st : List MV} {σ : S} {b : Nat × Nat} : mcall2 O call K1 a n sw st σ b → mcall2 O call K2 a n sw st σ b := by
  unfold mcall2
  split
  · exact id
  · refine mcond_mono ?_
    split
    · split
      · exact mcond_mono fun ⟨Q, h1, h2⟩ => ⟨Q, h1, fun σ' r q => h _ _ _ (h2 σ' r q)⟩
      · exact id
    · exact id
theorem mcond2_mono {b c : Bool} {A B A' B' : Prop} (h : A → B) (h' : A' → B') : cond b A (cond c A' False) → cond b B (cond c B' False) := by
  cases b
  · exact mcond_mono h'
  · exact h
set_option maxHeartbeats 4000000 in
theorem mstep_mono {S : Type} {O : MOps S} {call : MCall S} {rt : Nat} {Post : S → Option MV → Prop} {K1 K2 : MK S} (h : ∀ pc lv st σ b, K1 pc lv st σ b → K2 pc lv st σ b) {e : ME} {lv : ML} {st : List MV} {σ : S} {b : Nat × Nat} : mstep O call rt Post K1 e lv st σ b → mstep O call rt Post K2 e lv st σ b := by
  obtain ⟨ins, nx, a, k, sw⟩ := e
  cases ins
  all_goals first
    | exact id
    | exact h _ _ _ _ _
    | exact mload_mono (fun _ => h _ _ _ _ _)
    | exact mstore_mono (fun _ _ => h _ _ _ _ _)
    | (dsimp only [mstep]
       repeat' split
       all_goals first
         | exact id
         | exact h _ _ _ _ _
         | exact mcond_mono (h _ _ _ _ _)
         | exact mcond2_mono (h _ _ _ _ _) (h _ _ _ _ _)
         | exact msw_mono (fun _ => h _ _ _ _ _) _
         | exact mcall0_mono (fun _ _ _ => h _ _ _ _ _)
         | exact mcall1_mono (fun _ _ _ => h _ _ _ _ _)
         | exact mcall2_mono (fun _ _ _ => h _ _ _ _ _)
         | exact mload_mono (fun _ => h _ _ _ _ _)
         | exact mstore_mono (fun _ _ => h _ _ _ _ _)
         | exact fun hh => ⟨hh.1, h _ _ _ _ _ hh.2⟩
         | exact fun hh => ⟨fun q => h _ _ _ _ _ (hh.1 q), fun q => h _ _ _ _ _ (hh.2 q)⟩
         | exact fun hh => ⟨hh.1, fun q => h _ _ _ _ _ (hh.2.1 q), fun q => h _ _ _ _ _ (hh.2.2 q)⟩
         | exact fun ⟨j, h1, h2, h3⟩ => ⟨j, h1, h2, h _ _ _ _ _ h3⟩
         | (rintro ⟨j, h1, h2, h3⟩
            refine ⟨j, h1, h2, ?_⟩
            revert h3
            split
            · exact h _ _ _ _ _
            · exact id)
         | (rintro ⟨j, h1, h2, h3⟩
            refine ⟨j, h1, h2, ?_⟩
            revert h3
            split
            · exact mcond_mono (h _ _ _ _ _)
            · exact id)
         | (rintro ⟨n', d', s', h1, h2, h3, h4, h5, h6, h7⟩
            refine ⟨n', d', s', h1, h2, h3, h4, h5, h6, ?_⟩
            revert h7
            split
            · exact h _ _ _ _ _
            · exact id)
         | skip)
theorem mat_mono {S : Type} {O : MOps S} {call : MCall S} {cd : MC} {rt : Nat} {Post : S → Option MV → Prop} {K1 K2 : MK S} (h : ∀ pc lv st σ b, K1 pc lv st σ b → K2 pc lv st σ b) (pc : Nat) (lv : ML) (st : List MV) (σ : S) (b : Nat × Nat) : mat O call cd rt Post K1 pc lv st σ b → mat O call cd rt Post K2 pc lv st σ b := by
  unfold mat
  split
  · exact mstep_mono h
  · exact id
theorem mgo_sound {S : Type} {O : MOps S} {call : MCall S} {cd : MC} {rt : Nat} {Post : S → Option MV → Prop} {P : MK S} (hP : MClosed O call cd rt Post P) (cut : List Nat) : ∀ (n : Nat) pc lv st σ b, mgo O call cd rt Post P cut n pc lv st σ b → P pc lv st σ b
  | 0, _, _, _, _, _ => id
  | n + 1, pc, lv, st, σ, b => by
    unfold mgo
    cases mcut cut pc
    · exact fun hh => hP _ _ _ _ _ (mat_mono (mgo_sound hP cut n) _ _ _ _ _ hh)
    · exact id
/-- from a cut point on: one step, then on -/
theorem mgo_from {S : Type} {O : MOps S} {call : MCall S} {cd : MC} {rt : Nat} {Post : S → Option MV → Prop} {P : MK S} (hP : MClosed O call cd rt Post P) (cut : List Nat) (n : Nat) {pc : Nat} {lv : ML} {st : List MV} {σ : S} {b : Nat × Nat} (h : mat O call cd rt Post (mgo O call cd rt Post P cut n) pc lv st σ b) : P pc lv st σ b := hP _ _ _ _ _ (mat_mono (mgo_sound hP cut n) _ _ _ _ _ h)
theorem mrun_closed {S : Type} {O : MOps S} {call : MCall S} {cd : MC} {rt : Nat} {Post : S → Option MV → Prop} : MClosed O call cd rt Post (mrun O call cd rt Post) := by
  intro pc lv st σ b h P hP
  exact hP _ _ _ _ _ (mat_mono (fun _ _ _ _ _ q => q P hP) _ _ _ _ _ h)
