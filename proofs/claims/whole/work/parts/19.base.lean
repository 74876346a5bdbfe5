/-! ===== methods as Lean functions: the words, and one step each ===== -/
def pkS (s : S2) (c i k : Nat) (x : Int32) : S2 := (u3 s.1 c i (upd (s.1 c i) k x), s.2)
def cpS (s : S2) (c i : Nat) (f : Nat → Int32) (sp dp n : Nat) : S2 := (u3 s.1 c i (va_cpy f (s.1 c i) sp dp n), s.2)
def ix (n : Nat) (j : Int32) : Option Nat := if j < 0 then none else if j.toNatClampNeg < n then some j.toNatClampNeg else none
def nx (j : Int32) : Option Nat := if j < 0 then none else some j.toNatClampNeg
def bI (b : Bool) : Int32 := cond b (Int32.ofInt 1) (Int32.ofInt 0)
def rb (x : Int32) : Option Bool := if x = 0 then some false else if x = 1 then some true else none
def rc (x : Int32) : Option Int32 := if x < 0 then none else if x.toNatClampNeg < 65536 then some x else none
def oI : Option Int32 → Option MV
  | none => none
  | some x => some (mI x)
def oL : Option Int64 → Option MV
  | none => none
  | some x => some (mL x)
/-- more rounds than any loop has -/
def FU : Nat := 100000
theorem ix_lt {n : Nat} {j : Int32} {k : Nat} (h : ix n j = some k) : k < n := by
  unfold ix at h
  split at h
  · cases h
  · split at h
    · cases h; assumption
    · cases h
theorem ix_eq {n : Nat} {j : Int32} {k : Nat} (h : ix n j = some k) : j = nI k := by
  unfold ix at h
  split at h
  · cases h
  · rename_i h0
    split at h
    · cases h
      obtain ⟨m, hm, rfl⟩ := nI_of h0
      rw [nI_clamp hm]
    · cases h
theorem nx_eq {j : Int32} {k : Nat} (h : nx j = some k) : j = nI k := by
  unfold nx at h
  split at h
  · cases h
  · rename_i h0
    cases h
    obtain ⟨m, hm, rfl⟩ := nI_of h0
    rw [nI_clamp hm]
theorem ix_nI {n k : Nat} (h : k < n) (hn : n < 2 ^ 31) : ix n (nI k) = some k := by
  unfold ix
  rw [if_neg (nI_pos (by omega)), nI_clamp (by omega), if_pos h]
theorem ix_of {n k : Nat} {j : Int32} (hj : j = nI k) (h : k < n) (hn : n < 2 ^ 31) : ix n j = some k := by
  rw [hj]; exact ix_nI h hn
theorem nx_nI {k : Nat} (h : k < 2 ^ 31) : nx (nI k) = some k := by
  unfold nx
  rw [if_neg (nI_pos h), nI_clamp h]
theorem rb_eq {x : Int32} {b : Bool} (h : rb x = some b) : x = bI b := by
  unfold rb at h
  split at h
  · rename_i h0; cases h; rw [h0]; rfl
  · split at h
    · rename_i h0; cases h; rw [h0]; rfl
    · cases h
theorem rb_bI (b : Bool) : rb (bI b) = some b := by cases b <;> rfl
theorem bI_01 (b : Bool) : bI b = 0 ∨ bI b = 1 := by
  cases b
  · exact Or.inl rfl
  · exact Or.inr rfl
theorem bI_0 (b : Bool) : (bI b = 0) = (b = false) := by cases b <;> simp [bI] <;> decide
theorem bnd {α β : Type} {o : Option α} {f : α → Option β} {r : β} (h : o.bind f = some r) : ∃ a, o = some a ∧ f a = some r := by
  cases o with
  | none => cases h
  | some a => exact ⟨a, rfl, h⟩
theorem bnds {α β : Type} {a : α} {f : α → Option β} {r : Option β} (h : (some a).bind f = r) : f a = r := h
theorem nif {c : Prop} [d : Decidable c] {β : Type} {e : Option β} {r : β} (h : (if c then none else e) = some r) : ¬ c ∧ e = some r := by
  split at h
  · cases h
  · exact ⟨by assumption, h⟩
theorem pif {c : Prop} [d : Decidable c] {β : Type} {e : Option β} {r : β} (h : (if c then e else none) = some r) : c ∧ e = some r := by
  split at h
  · exact ⟨by assumption, h⟩
  · cases h
theorem go_ix {n : Nat} {i : Int32} {K : Nat → Prop} (j : Nat) (h1 : j < n) (h2 : i = nI j) (h3 : K j) : ∃ j, j < n ∧ i = nI j ∧ K j := ⟨j, h1, h2, h3⟩
theorem go_br {c A B : Prop} (h1 : c → A) (h2 : ¬ c → B) : (c → A) ∧ (¬ c → B) := ⟨h1, h2⟩
theorem go_brn {c A B : Prop} (h1 : ¬ c → A) (h2 : c → B) : (¬ c → A) ∧ (c → B) := ⟨h1, h2⟩
theorem go_and {A B : Prop} (h1 : A) (h2 : B) : A ∧ B := ⟨h1, h2⟩
theorem go_cpy {n dp sp : Int32} {n0 n1 : Nat} {B : Prop} {K : Nat → Nat → Nat → Prop} (n' d' s' : Nat) (h1 : n = nI n') (h2 : dp = nI d') (h3 : sp = nI s') (h4 : s' + n' ≤ n0) (h5 : d' + n' ≤ n1) (h6 : B) (h7 : K n' d' s') : ∃ n' d' s' : Nat, n = nI n' ∧ dp = nI d' ∧ sp = nI s' ∧ s' + n' ≤ n0 ∧ d' + n' ≤ n1 ∧ B ∧ K n' d' s' := ⟨n', d', s', h1, h2, h3, h4, h5, h6, h7⟩
theorem go_call {C : (S2 → Option MV → Prop) → Prop} {K : S2 → Option MV → Prop} {s : S2} {v : Option MV} (h : ∀ Q : S2 → Option MV → Prop, Q s v → C Q) (hk : K s v) : ∃ Q, C Q ∧ ∀ s' r, Q s' r → K s' r :=
  ⟨fun s' r => s' = s ∧ r = v, h _ ⟨rfl, rfl⟩, fun s' r hh => by rw [hh.1, hh.2]; exact hk⟩
theorem ret_z {x : Int32} {b : Bool} {s : S2} {Q : S2 → Option MV → Prop} (hb : rb x = some b) (hQ : Q s (some (mI (bI b)))) : (x = 0 ∨ x = 1) ∧ Q s (some (mI x)) := by
  rw [rb_eq hb]
  exact ⟨bI_01 b, hQ⟩
theorem ret_c {x b : Int32} {s : S2} {Q : S2 → Option MV → Prop} (hb : rc x = some b) (hQ : Q s (some (mI b))) : (∃ j : Nat, j < 65536 ∧ x = nI j) ∧ Q s (some (mI x)) := by
  unfold rc at hb
  split at hb
  · cases hb
  · rename_i h0
    split at hb
    · cases hb
      obtain ⟨m, hm, rfl⟩ := nI_of h0
      rename_i h1
      rw [nI_clamp hm] at h1
      exact ⟨⟨m, h1, rfl⟩, hQ⟩
    · cases hb
theorem kc_of {S : Type} {O : MOps S} {d m : Nat} {as : List MV} {s : S} {Q : S → Option MV → Prop} {cd : MC} {mx rt : Nat} (hp : kprog m = some (cd, mx, rt)) (hw : Nat.ble (mwt as) mx = true) (h : mrun O (kcall O d) cd rt Q 0 (minit as mx) [] s (kcost m)) : kcall O (d + 1) m as s Q := by
  show (match kprog m with
    | some (cd, mx, rt) => cond (Nat.ble (mwt as) mx) (mrun O (kcall O d) cd rt Q 0 (minit as mx) [] s (kcost m)) False
    | none => False)
  rw [hp]
  show cond (Nat.ble (mwt as) mx) (mrun O (kcall O d) cd rt Q 0 (minit as mx) [] s (kcost m)) False
  rw [hw]
  exact h
def jabs (x : Int32) : Int32 := if 0 ≤ x then x else 0 - x
def jmax (x y : Int32) : Int32 := if x < y then y else x
def jmin (x y : Int32) : Int32 := if y < x then y else x
def jmaxL (x y : Int64) : Int64 := if y < x then x else y
def jminL (x y : Int64) : Int64 := if y < x then y else x
