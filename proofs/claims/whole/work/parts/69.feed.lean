/-! ===== feed ===== -/
def apB (z : Nat × (Nat → Int32)) (b : Int32) : Nat × (Nat → Int32) := if b = 0 then z else (z.1 + 1, upd z.2 z.1 b)
def apW (x : Int32) : Nat → Nat → Nat × (Nat → Int32) → Nat × (Nat → Int32)
  | 0, _, z => z
  | m + 1, k, z => apW x m (k + 1) (apB z (byW x k))
def apT (a b c d e : Int32) : Nat → Nat → Nat × (Nat → Int32) → Nat × (Nat → Int32)
  | 0, _, z => z
  | m + 1, k, z => apT a b c d e m (k + 1) (apB z (byW (woS a b c d e k) (k % 4)))
def ntT (a b c d e : Int32) : Nat → Nat → Nat
  | 0, _ => 0
  | m + 1, k => (if byW (woS a b c d e k) (k % 4) = 0 then 0 else 1) + ntT a b c d e m (k + 1)
theorem apB_1 (z : Nat × (Nat → Int32)) (b : Int32) : (apB z b).1 = z.1 + (if b = 0 then 0 else 1) := by
  unfold apB
  by_cases c : b = 0
  · rw [if_pos c, if_pos c]; rfl
  · rw [if_neg c, if_neg c]
theorem apW_1 (x : Int32) : ∀ m k z, (apW x m k z).1 = z.1 + nbW x m k := by
  intro m
  induction m with
  | zero => intro k z; rfl
  | succ m ih =>
    intro k z
    show (apW x m (k + 1) (apB z (byW x k))).1 = z.1 + ((if byW x k = 0 then 0 else 1) + nbW x m (k + 1))
    rw [ih, apB_1, Nat.add_assoc]
section
variable {a b c d e : Int32}
theorem ntT_blk (x : Int32) : ∀ m k r q, (∀ i, i < m → woS a b c d e (k + i) = x ∧ (k + i) % 4 = q + i) → ntT a b c d e (m + r) k = nbW x m q + ntT a b c d e r (k + m) := by
  intro m
  induction m with
  | zero => intro k r q _; rw [Nat.zero_add]; exact (Nat.zero_add _).symm
  | succ m ih =>
    intro k r q h
    obtain ⟨h1, h2⟩ := h 0 (by omega)
    rw [show m + 1 + r = (m + r) + 1 by omega]
    show (if byW (woS a b c d e k) (k % 4) = 0 then 0 else 1) + ntT a b c d e (m + r) (k + 1) = ((if byW x q = 0 then 0 else 1) + nbW x m (q + 1)) + ntT a b c d e r (k + (m + 1))
    rw [ih (k + 1) r (q + 1) (fun i hi => by
      have := h (i + 1) (by omega)
      rw [show k + 1 + i = k + (i + 1) by omega, show q + 1 + i = q + (i + 1) by omega]
      exact this), show woS a b c d e k = x from h1, show k % 4 = q from h2, show k + 1 + m = k + (m + 1) by omega, Nat.add_assoc]
theorem apT_blk (x : Int32) : ∀ m k r q z, (∀ i, i < m → woS a b c d e (k + i) = x ∧ (k + i) % 4 = q + i) → apT a b c d e (m + r) k z = apT a b c d e r (k + m) (apW x m q z) := by
  intro m
  induction m with
  | zero => intro k r q z _; rw [Nat.zero_add]; rfl
  | succ m ih =>
    intro k r q z h
    obtain ⟨h1, h2⟩ := h 0 (by omega)
    rw [show m + 1 + r = (m + r) + 1 by omega]
    show apT a b c d e (m + r) (k + 1) (apB z (byW (woS a b c d e k) (k % 4))) = apT a b c d e r (k + (m + 1)) (apW x m (q + 1) (apB z (byW x q)))
    rw [ih (k + 1) r (q + 1) _ (fun i hi => by
      have := h (i + 1) (by omega)
      rw [show k + 1 + i = k + (i + 1) by omega, show q + 1 + i = q + (i + 1) by omega]
      exact this), show woS a b c d e k = x from h1, show k % 4 = q from h2, show k + 1 + m = k + (m + 1) by omega]
theorem woS_b : (∀ i, i < 4 → woS a b c d e (0 + i) = a ∧ (0 + i) % 4 = 0 + i) ∧ (∀ i, i < 4 → woS a b c d e (4 + i) = b ∧ (4 + i) % 4 = 0 + i) ∧ (∀ i, i < 4 → woS a b c d e (8 + i) = c ∧ (8 + i) % 4 = 0 + i) ∧ (∀ i, i < 4 → woS a b c d e (12 + i) = d ∧ (12 + i) % 4 = 0 + i) ∧ ∀ i, i < 4 → woS a b c d e (16 + i) = e ∧ (16 + i) % 4 = 0 + i := by
  unfold woS
  refine ⟨fun i hi => ⟨?_, by omega⟩, fun i hi => ⟨?_, by omega⟩, fun i hi => ⟨?_, by omega⟩, fun i hi => ⟨?_, by omega⟩, fun i hi => ⟨?_, by omega⟩⟩
  · rw [if_pos (by omega)]
  · rw [if_neg (by omega), if_pos (by omega)]
  · rw [if_neg (by omega), if_neg (by omega), if_pos (by omega)]
  · rw [if_neg (by omega), if_neg (by omega), if_neg (by omega), if_pos (by omega)]
  · rw [if_neg (by omega), if_neg (by omega), if_neg (by omega), if_neg (by omega)]
theorem ntT_20 : ntT a b c d e 20 0 = nbW a 4 0 + (nbW b 4 0 + (nbW c 4 0 + (nbW d 4 0 + nbW e 4 0))) := by
  obtain ⟨h1, h2, h3, h4, h5⟩ := woS_b (a := a) (b := b) (c := c) (d := d) (e := e)
  rw [show (20 : Nat) = 4 + 16 from rfl, ntT_blk a 4 0 16 0 h1, show (16 : Nat) = 4 + 12 from rfl, ntT_blk b 4 (0 + 4) 12 0 h2, show (12 : Nat) = 4 + 8 from rfl, ntT_blk c 4 (0 + 4 + 4) 8 0 h3, show (8 : Nat) = 4 + 4 from rfl, ntT_blk d 4 (0 + 4 + 4 + 4) 4 0 h4]
  have := ntT_blk (a := a) (b := b) (c := c) (d := d) (e := e) e 4 (0 + 4 + 4 + 4 + 4) 0 0 h5
  rw [show ntT a b c d e 4 (0 + 4 + 4 + 4 + 4) = nbW e 4 0 from this]
theorem apT_20 (z : Nat × (Nat → Int32)) : apT a b c d e 20 0 z = apW e 4 0 (apW d 4 0 (apW c 4 0 (apW b 4 0 (apW a 4 0 z)))) := by
  obtain ⟨h1, h2, h3, h4, h5⟩ := woS_b (a := a) (b := b) (c := c) (d := d) (e := e)
  have k1 := apT_blk (a := a) (b := b) (c := c) (d := d) (e := e) a 4 0 16 0 z h1
  have k2 := apT_blk (a := a) (b := b) (c := c) (d := d) (e := e) b 4 4 12 0 (apW a 4 0 z) h2
  have k3 := apT_blk (a := a) (b := b) (c := c) (d := d) (e := e) c 4 8 8 0 (apW b 4 0 (apW a 4 0 z)) h3
  have k4 := apT_blk (a := a) (b := b) (c := c) (d := d) (e := e) d 4 12 4 0 (apW c 4 0 (apW b 4 0 (apW a 4 0 z))) h4
  have k5 := apT_blk (a := a) (b := b) (c := c) (d := d) (e := e) e 4 16 0 0 (apW d 4 0 (apW c 4 0 (apW b 4 0 (apW a 4 0 z)))) h5
  exact k1.trans (k2.trans (k3.trans (k4.trans k5)))
end
def tpC (z : Nat × (Nat → Int32)) (s : S2) : Prop := s.1 11 0 1 = nI z.1 ∧ ∀ j, j < z.1 → s.1 12 0 j = z.2 j
def tpM (z : Nat × (Nat → Int32)) (s : S2) : Prop := s.1 60 0 2 = nI z.1 ∧ ∀ j, j < z.1 → s.1 61 0 j = z.2 j
def Kta (c _ k : Nat) : Bool := c == 12 || (c == 11 && k == 1)
def Kfm (c _ k : Nat) : Bool := c == 61 || (c == 60 && k == 2)
theorem fc_addL (x : Int32) : ∀ (m k fu : Nat) (s : S2) (z : Nat × (Nat → Int32)), k + m = 4 → m < fu → tpC z s → z.1 + nbW x m k ≤ 240 → ∃ s', f_Tape_add_L3 fu x (pzW k) s = some s' ∧ tpC (apW x m k z) s' ∧ Fr Kta s s' := by
  intro m
  induction m with
  | zero =>
    intro k fu s z hk hf hz hn
    obtain ⟨f, rfl, hf'⟩ := suc_of hf
    refine ⟨s, ?_, hz, Fr.refl _ s⟩
    rw [show k = 4 by omega]
    show b_Tape_add_L3 _ _ _ _ = _
    unfold b_Tape_add_L3
    rw [if_pos (show pzW 4 < 0 by decide)]
  | succ m ih =>
    intro k fu s z hk hf hz hn
    obtain ⟨f, rfl, hf'⟩ := suc_lt hf
    obtain ⟨p1, p2⟩ := pzW_s k (by omega)
    obtain ⟨z1, z2⟩ := hz
    have hn' : z.1 + ((if byW x k = 0 then 0 else 1) + nbW x m (k + 1)) ≤ 240 := hn
    show ∃ s', b_Tape_add_L3 _ _ _ _ = _ ∧ tpC (apW x m (k + 1) (apB z (byW x k))) s' ∧ _
    unfold b_Tape_add_L3 f_Tape_add_L49
    rw [if_neg p2, p1, of_255, show jushr x (pzW k) &&& nI 255 = byW x k from by
      unfold pzW byW
      rw [if_pos (show k < 4 by omega)]]
    unfold apB
    by_cases c1 : byW x k = 0
    · rw [if_pos c1] at hn'
      rw [if_pos c1, if_pos c1]
      exact ih (k + 1) f s z (by omega) hf' ⟨z1, z2⟩ (by omega)
    · rw [if_neg c1] at hn'
      rw [if_neg c1, if_neg c1, z1, of_240, if_neg (nI_ge (by omega) (by omega)), ix_nI (n := 240) (k := z.1) (by omega) (by omega), Option.bind_some, Option.bind_some, show (pkS s 12 0 z.1 (byW x k)).1 11 0 1 = nI z.1 by rw [pkS_v, if_neg (by omega), z1], of_1, nI_add, Option.bind_some]
      obtain ⟨s', g1, g2, g3⟩ := ih (k + 1) f (pkS (pkS s 12 0 z.1 (byW x k)) 11 0 1 (nI (z.1 + 1))) (z.1 + 1, upd z.2 z.1 (byW x k)) (by omega) hf' ⟨by rw [pkS_v, if_pos ⟨rfl, rfl, rfl⟩], fun j hj => by
        rw [pkS_v, if_neg (by omega)]
        show _ = upd z.2 z.1 (byW x k) j
        by_cases cj : j = z.1
        · rw [cj, upd_eq, pkS_v, if_pos ⟨rfl, rfl, rfl⟩]
        · rw [upd_ne _ _ cj, pkS_v, if_neg (by omega)]
          exact z2 j (by have : j < z.1 + 1 := hj; omega)⟩ (by
        show z.1 + 1 + nbW x m (k + 1) ≤ 240
        omega)
      exact ⟨s', g1, g2, (((Fr.refl _ s).pk' _ rfl).pk' _ rfl).trans g3⟩
theorem fc_add (x : Int32) {s : S2} {z : Nat × (Nat → Int32)} (h : tpC z s) (hn : z.1 + nbW x 4 0 ≤ 240) : ∃ s', f_Tape_add x s = some s' ∧ tpC (apW x 4 0 z) s' ∧ Fr Kta s s' := by
  obtain ⟨s', a1, a2, a3⟩ := fc_addL x 4 0 FU s z (by omega) (lt_FU (by omega)) h hn
  refine ⟨s', ?_, a2, a3⟩
  unfold f_Tape_add
  rw [of_24, a1.symm]
  rfl
