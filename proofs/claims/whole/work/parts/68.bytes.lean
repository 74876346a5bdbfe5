/-! ===== the bytes of a word, both ways ===== -/
theorem bv_byte (b : BitVec 32) (n : Nat) (hn : n ≤ 24) : b.sshiftRight n &&& 255#32 = b >>> n &&& 255#32 := by
  apply BitVec.eq_of_getLsbD_eq
  intro i hi
  rw [BitVec.getLsbD_and, BitVec.getLsbD_and, BitVec.getLsbD_sshiftRight, BitVec.getLsbD_ushiftRight]
  by_cases c : i < 8
  · rw [if_pos (show n + i < 32 by omega), decide_eq_false (show ¬ 32 ≤ i by omega)]
    rfl
  · have : (255#32).getLsbD i = false := by
      rw [BitVec.getLsbD_ofNat]
      rw [Nat.testBit_lt_two_pow (Nat.lt_of_lt_of_le (show 255 < 2 ^ 8 by decide) (Nat.pow_le_pow_right (by omega) (by omega)))]
      exact Bool.and_false _
    rw [this, Bool.and_false, Bool.and_false]
/-- byte k of a word, from the left -/
def byW (x : Int32) (k : Nat) : Int32 := jushr x (nI (24 - 8 * k)) &&& nI 255
theorem byW_ar (x : Int32) : ∀ k, k < 4 → (x >>> (nI (24 - 8 * k) &&& 31)) &&& nI 255 = byW x k := by
  intro k hk
  unfold byW
  rcases (show k = 0 ∨ k = 1 ∨ k = 2 ∨ k = 3 by omega) with rfl | rfl | rfl | rfl
  · exact Int32.toBitVec_inj.mp (bv_byte x.toBitVec 24 (by omega))
  · exact Int32.toBitVec_inj.mp (bv_byte x.toBitVec 16 (by omega))
  · exact Int32.toBitVec_inj.mp (bv_byte x.toBitVec 8 (by omega))
  · exact Int32.toBitVec_inj.mp (bv_byte x.toBitVec 0 (by omega))
theorem byW_lt (x : Int32) (k : Nat) : ∃ b : Nat, b < 256 ∧ byW x k = nI b := by
  unfold byW
  generalize jushr x (nI (24 - 8 * k)) = y
  refine ⟨(y.toBitVec &&& 255#32).toNat, ?_, Int32.toBitVec_inj.mp ?_⟩
  · rw [BitVec.toNat_and]
    exact Nat.lt_of_le_of_lt Nat.and_le_right (by decide)
  · show y.toBitVec &&& 255#32 = (nI (y.toBitVec &&& 255#32).toNat).toBitVec
    show y.toBitVec &&& 255#32 = BitVec.ofNat 32 (y.toBitVec &&& 255#32).toNat
    rw [BitVec.ofNat_toNat, BitVec.setWidth_eq]
