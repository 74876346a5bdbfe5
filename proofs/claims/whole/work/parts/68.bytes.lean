/-! ===== the bytes of a word, both ways ===== -/
theorem bv_byte (b : BitVec 32) (n : Nat) (hn : n ≤ 24) : b.sshiftRight n &&& 255#32 = b >>> n &&& 255#32 := by
  apply BitVec.eq_of_getLsbD_eq
  intro i hi
  rw [BitVec.getLsbD_and, BitVec.getLsbD_and, BitVec.getLsbD_sshiftRight, BitVec.getLsbD_ushiftRight]
  by_cases c : i < 8
  · rw [if_pos (show n + i < 32 by omega), decide_eq_false (show ¬ 32 ≤ i by omega)]
    rfl
  · have : (255#32).getLsbD i = false := by
      rw [BitVec.getLsbD_ofNat]
      rw [Nat.testBit_lt_two_pow (Nat.lt_of_lt_of_le (show 255 < 2 ^ 8 by decide) (Nat.pow_le_pow_right (by omega) (by omega)))]
      exact Bool.and_false _
    rw [this, Bool.and_false, Bool.and_false]
/-- byte k of a word, from the left -/
def byW (x : Int32) (k : Nat) : Int32 := jushr x (nI (24 - 8 * k)) &&& nI 255
theorem byW_ar (x : Int32) : ∀ k, k < 4 → (x >>> (nI (24 - 8 * k) &&& 31)) &&& nI 255 = byW x k := by
  intro k hk
  unfold byW
  rcases (show k = 0 ∨ k = 1 ∨ k = 2 ∨ k = 3 by omega) with rfl | rfl | rfl | rfl
  · exact Int32.toBitVec_inj.mp (bv_byte x.toBitVec 24 (by omega))
  · exact Int32.toBitVec_inj.mp (bv_byte x.toBitVec 16 (by omega))
  · exact Int32.toBitVec_inj.mp (bv_byte x.toBitVec 8 (by omega))
  · exact Int32.toBitVec_inj.mp (bv_byte x.toBitVec 0 (by omega))
theorem byW_lt (x : Int32) (k : Nat) : ∃ b : Nat, b < 256 ∧ byW x k = nI b := by
  unfold byW
  generalize jushr x (nI (24 - 8 * k)) = y
  refine ⟨(y.toBitVec &&& 255#32).toNat, ?_, Int32.toBitVec_inj.mp ?_⟩
  · rw [BitVec.toNat_and]
    exact Nat.lt_of_le_of_lt Nat.and_le_right (by decide)
  · show y.toBitVec &&& 255#32 = (nI (y.toBitVec &&& 255#32).toNat).toBitVec
    show y.toBitVec &&& 255#32 = BitVec.ofNat 32 (y.toBitVec &&& 255#32).toNat
    rw [BitVec.ofNat_toNat, BitVec.setWidth_eq]
def woS (a b c d e : Int32) (k : Nat) : Int32 := if k < 4 then a else if k < 8 then b else if k < 12 then c else if k < 16 then d else e
theorem m_byteOf {s : S2} (a b c d e : Int32) {k : Nat} (hk : k < 20) : g_M_byteOf a b c d e (nI k) s = byW (woS a b c d e k) (k % 4) := by
  have key : ∀ y : Int32, f_M_byteOf_L45 (nI k) y s = byW y (k % 4) := fun y => by
    unfold f_M_byteOf_L45
    rw [of_4, of_8, of_24, of_255, jrem_nI (by omega) (by omega) (by omega), mul_nI, sub_nI (by omega), byW_ar y _ (by omega)]
  unfold g_M_byteOf woS
  rw [key, key, key, key, key, of_4, of_8, of_12, of_16]
  by_cases c1 : k < 4
  · rw [if_neg (nI_ge c1 (by omega)), if_pos c1]
  · rw [if_pos (nI_le (by omega) (by omega)), if_neg c1]
    by_cases c2 : k < 8
    · rw [if_neg (nI_ge c2 (by omega)), if_pos c2]
    · rw [if_pos (nI_le (by omega) (by omega)), if_neg c2]
      by_cases c3 : k < 12
      · rw [if_neg (nI_ge c3 (by omega)), if_pos c3]
      · rw [if_pos (nI_le (by omega) (by omega)), if_neg c3]
        by_cases c4 : k < 16
        · rw [if_neg (nI_ge c4 (by omega)), if_pos c4]
        · rw [if_pos (nI_le (by omega) (by omega)), if_neg c4]
/-- how many bytes from k on are not 0 -/
def nbW (x : Int32) : Nat → Nat → Nat
  | 0, _ => 0
  | m + 1, k => (if byW x k = 0 then 0 else 1) + nbW x m (k + 1)
def pzW (k : Nat) : Int32 := if k < 4 then nI (24 - 8 * k) else -8
theorem pzW_s : ∀ k, k < 4 → pzW k + Int32.ofInt (-8) = pzW (k + 1) ∧ ¬ pzW k < 0 := by decide
theorem fc_bytesInL {s : S2} (x : Int32) : ∀ (m k fu c : Nat), k + m = 4 → m < fu → f_D_bytesIn_L5 fu x (nI c) (pzW k) s = some (nI (c + nbW x m k)) := by
  intro m
  induction m with
  | zero =>
    intro k fu c hk hf
    obtain ⟨f, rfl, hf'⟩ := suc_of hf
    rw [show k = 4 by omega]
    show b_D_bytesIn_L5 _ _ _ _ _ = _
    unfold b_D_bytesIn_L5
    rw [if_pos (show pzW 4 < 0 by decide)]
    rfl
  | succ m ih =>
    intro k fu c hk hf
    obtain ⟨f, rfl, hf'⟩ := suc_lt hf
    obtain ⟨p1, p2⟩ := pzW_s k (by omega)
    show b_D_bytesIn_L5 _ _ _ _ _ = some (nI (c + ((if byW x k = 0 then 0 else 1) + nbW x m (k + 1))))
    unfold b_D_bytesIn_L5 f_D_bytesIn_L22
    rw [if_neg p2, p1, of_255, of_1, nI_add, show jushr x (pzW k) &&& nI 255 = byW x k from by
      unfold pzW byW
      rw [if_pos (show k < 4 by omega)]]
    by_cases c1 : byW x k = 0
    · rw [if_pos c1, if_pos c1, ih (k + 1) f c (by omega) hf', Nat.zero_add]
    · rw [if_neg c1, if_neg c1, ih (k + 1) f (c + 1) (by omega) hf', Nat.add_assoc]
theorem fc_bytesIn {s : S2} (x : Int32) : f_D_bytesIn x s = some (nI (nbW x 4 0)) := by
  unfold f_D_bytesIn
  rw [of_0, of_24]
  have := fc_bytesInL (s := s) x 4 0 FU 0 (by omega) (lt_FU (by omega))
  rw [Nat.zero_add] at this
  exact this
