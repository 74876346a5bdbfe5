/-! ===== a rule's codes are worked out alike ===== -/
section
variable {s s' t : S2}
def bndL (q : Int64) : Int32 := Int64.toInt32 (jmaxL (Int64.ofInt (-1000000)) (jminL (Int64.ofInt 1000000) q))
theorem bnd_01 : bndL (Int64.ofNat 0) = 0 ∧ bndL (Int64.ofNat 1) = nI 1 := by decide +kernel
def tvI (x : Int32) : Prop := x = 0 ∨ x = nI 1
def opS (c : Nat) (a b : Int32) : Int32 :=
  if c = 43 then bndL (Int32.toInt64 a + Int32.toInt64 b) else if c = 45 then bndL (Int32.toInt64 a - Int32.toInt64 b) else if c = 42 then bndL (Int32.toInt64 a * Int32.toInt64 b) else if c = 47 then (if lg_cmp (Int32.toInt64 b) (Int64.ofNat 0) = 0 then 0 else bndL (Int32.toInt64 a / Int32.toInt64 b)) else if c = 61 then (if lg_cmp (Int32.toInt64 a) (Int32.toInt64 b) = 0 then nI 1 else 0) else if c = 60 then (if 0 ≤ lg_cmp (Int32.toInt64 a) (Int32.toInt64 b) then 0 else nI 1) else if c = 62 then (if lg_cmp (Int32.toInt64 a) (Int32.toInt64 b) ≤ 0 then 0 else nI 1) else if c = 38 then (if a = 0 then 0 else if b = 0 then 0 else nI 1) else (if a = 0 then (if b = 0 then 0 else nI 1) else nI 1)
theorem lgc_0 {x : Int64} (h : x = 0) : lg_cmp x (Int64.ofNat 0) = 0 := by subst h; rfl
theorem jo_43 {a b : Int64} : f_Rule_join (nI 43) a b s = some (a + b) := rfl
theorem jo_45 {a b : Int64} : f_Rule_join (nI 45) a b s = some (a - b) := rfl
theorem jo_42 {a b : Int64} : f_Rule_join (nI 42) a b s = some (a * b) := rfl
theorem jo_47 {a b : Int64} : f_Rule_join (nI 47) a b s = (if (lg_cmp b (Int64.ofNat 0)) = 0 then some (Int64.ofNat 0) else (if b = 0 then none else some (a / b))) := rfl
theorem jo_60 {a b : Int64} : f_Rule_join (nI 60) a b s = (if 0 ≤ (lg_cmp a b) then some (Int64.ofNat 0) else some (Int64.ofNat 1)) := rfl
theorem jo_61 {a b : Int64} : f_Rule_join (nI 61) a b s = (if (lg_cmp a b) = 0 then some (Int64.ofNat 1) else some (Int64.ofNat 0)) := rfl
theorem jo_62 {a b : Int64} : f_Rule_join (nI 62) a b s = (if (lg_cmp a b) ≤ 0 then some (Int64.ofNat 0) else some (Int64.ofNat 1)) := rfl
theorem jo_38 {a b : Int64} : f_Rule_join (nI 38) a b s = some (a &&& b) := rfl
theorem jo_124 {a b : Int64} : f_Rule_join (nI 124) a b s = some (a ||| b) := rfl
theorem wo_2 {a b : Int64} : f_M_worked (nI 2) a b s = some (bndL (a + b)) := rfl
theorem wo_3 {a b : Int64} : f_M_worked (nI 3) a b s = some (bndL (a - b)) := rfl
theorem wo_4 {a b : Int64} : f_M_worked (nI 4) a b s = some (bndL (a * b)) := rfl
theorem wo_5 {a b : Int64} : f_M_worked (nI 5) a b s = (if (lg_cmp b (Int64.ofNat 0)) = 0 then some (Int32.ofInt 0) else (if b = 0 then none else some (bndL (a / b)))) := rfl
theorem wo_6 {a b : Int64} : f_M_worked (nI 6) a b s = (if (lg_cmp a b) = 0 then some (Int32.ofInt 1) else some (Int32.ofInt 0)) := rfl
theorem wo_7 {a b : Int64} : f_M_worked (nI 7) a b s = (if 0 ≤ (lg_cmp a b) then some (Int32.ofInt 0) else some (Int32.ofInt 1)) := rfl
theorem wo_8 {a b : Int64} : f_M_worked (nI 8) a b s = (if (lg_cmp a b) ≤ 0 then some (Int32.ofInt 0) else some (Int32.ofInt 1)) := rfl
theorem wo_10 {a b : Int64} : f_M_worked (nI 10) a b s = (if (lg_cmp a (Int64.ofNat 0)) = 0 then some (Int32.ofInt 0) else (if (lg_cmp b (Int64.ofNat 0)) = 0 then some (Int32.ofInt 0) else some (Int32.ofInt 1))) := by
  unfold f_M_worked
  rw [if_neg (show ¬ nI 10 = Int32.ofInt 2 by decide), if_neg (show ¬ nI 10 = Int32.ofInt 3 by decide), if_neg (show ¬ nI 10 = Int32.ofInt 4 by decide), if_neg (show ¬ nI 10 = Int32.ofInt 5 by decide), if_neg (show ¬ nI 10 = Int32.ofInt 6 by decide), if_neg (show ¬ nI 10 = Int32.ofInt 7 by decide), if_neg (show ¬ nI 10 = Int32.ofInt 8 by decide), if_neg (show ¬ nI 10 = Int32.ofInt 9 by decide), if_pos (show nI 10 = Int32.ofInt 10 by decide)]
theorem wo_11 {a b : Int64} : f_M_worked (nI 11) a b s = f_M_worked_L144 a b s := rfl
theorem tv_lg : (lg_cmp (Int32.toInt64 0) (Int64.ofNat 0) = 0 ∧ ¬ lg_cmp (Int32.toInt64 (nI 1)) (Int64.ofNat 0) = 0) ∧ ¬ nI 1 = 0 := by decide +kernel
theorem tv_an : bndL (Int32.toInt64 0 &&& Int32.toInt64 0) = 0 ∧ bndL (Int32.toInt64 0 &&& Int32.toInt64 (nI 1)) = 0 ∧ bndL (Int32.toInt64 (nI 1) &&& Int32.toInt64 0) = 0 ∧ bndL (Int32.toInt64 (nI 1) &&& Int32.toInt64 (nI 1)) = nI 1 ∧ bndL (Int32.toInt64 0 ||| Int32.toInt64 0) = 0 ∧ bndL (Int32.toInt64 0 ||| Int32.toInt64 (nI 1)) = nI 1 ∧ bndL (Int32.toInt64 (nI 1) ||| Int32.toInt64 0) = nI 1 ∧ bndL (Int32.toInt64 (nI 1) ||| Int32.toInt64 (nI 1)) = nI 1 := by decide +kernel
def arC (c : Nat) : Prop := c = 42 ∨ c = 47 ∨ c = 43 ∨ c = 45
theorem op_43 {a b : Int32} : opS 43 a b = bndL (Int32.toInt64 a + Int32.toInt64 b) := if_pos rfl
theorem op_45 {a b : Int32} : opS 45 a b = bndL (Int32.toInt64 a - Int32.toInt64 b) := by unfold opS; rw [if_neg (by decide), if_pos rfl]
theorem op_42 {a b : Int32} : opS 42 a b = bndL (Int32.toInt64 a * Int32.toInt64 b) := by unfold opS; rw [if_neg (by decide), if_neg (by decide), if_pos rfl]
theorem op_47 {a b : Int32} : opS 47 a b = (if lg_cmp (Int32.toInt64 b) (Int64.ofNat 0) = 0 then 0 else bndL (Int32.toInt64 a / Int32.toInt64 b)) := by unfold opS; rw [if_neg (by decide), if_neg (by decide), if_neg (by decide), if_pos rfl]
theorem op_61 {a b : Int32} : opS 61 a b = (if lg_cmp (Int32.toInt64 a) (Int32.toInt64 b) = 0 then nI 1 else 0) := by unfold opS; rw [if_neg (by decide), if_neg (by decide), if_neg (by decide), if_neg (by decide), if_pos rfl]
theorem op_60 {a b : Int32} : opS 60 a b = (if 0 ≤ lg_cmp (Int32.toInt64 a) (Int32.toInt64 b) then 0 else nI 1) := by unfold opS; rw [if_neg (by decide), if_neg (by decide), if_neg (by decide), if_neg (by decide), if_neg (by decide), if_pos rfl]
theorem op_62 {a b : Int32} : opS 62 a b = (if lg_cmp (Int32.toInt64 a) (Int32.toInt64 b) ≤ 0 then 0 else nI 1) := by unfold opS; rw [if_neg (by decide), if_neg (by decide), if_neg (by decide), if_neg (by decide), if_neg (by decide), if_neg (by decide), if_pos rfl]
theorem op_38 {a b : Int32} : opS 38 a b = (if a = 0 then 0 else if b = 0 then 0 else nI 1) := by unfold opS; rw [if_neg (by decide), if_neg (by decide), if_neg (by decide), if_neg (by decide), if_neg (by decide), if_neg (by decide), if_neg (by decide), if_pos rfl]
theorem op_124 {a b : Int32} : opS 124 a b = (if a = 0 then (if b = 0 then 0 else nI 1) else nI 1) := by unfold opS; rw [if_neg (by decide), if_neg (by decide), if_neg (by decide), if_neg (by decide), if_neg (by decide), if_neg (by decide), if_neg (by decide), if_neg (by decide)]
theorem fc_join {c : Nat} {a b : Int32} (hc : arC c ∨ isC c = true) : ∃ q, f_Rule_join (nI c) (Int32.toInt64 a) (Int32.toInt64 b) s = some q ∧ bndL q = opS c a b := by
  rcases hc with hc | hc
  · rcases hc with rfl | rfl | rfl | rfl
    · exact ⟨_, jo_42, op_42.symm⟩
    · rw [jo_47, op_47]
      by_cases e : lg_cmp (Int32.toInt64 b) (Int64.ofNat 0) = 0
      · rw [if_pos e, if_pos e]; exact ⟨_, rfl, bnd_01.1⟩
      · rw [if_neg e, if_neg (fun z => e (lgc_0 z)), if_neg e]; exact ⟨_, rfl, rfl⟩
    · exact ⟨_, jo_43, op_43.symm⟩
    · exact ⟨_, jo_45, op_45.symm⟩
  · rcases isC_pos hc with rfl | rfl | rfl
    · rw [jo_61, op_61]
      by_cases e : lg_cmp (Int32.toInt64 a) (Int32.toInt64 b) = 0
      · rw [if_pos e, if_pos e]; exact ⟨_, rfl, bnd_01.2⟩
      · rw [if_neg e, if_neg e]; exact ⟨_, rfl, bnd_01.1⟩
    · rw [jo_60, op_60]
      by_cases e : 0 ≤ lg_cmp (Int32.toInt64 a) (Int32.toInt64 b)
      · rw [if_pos e, if_pos e]; exact ⟨_, rfl, bnd_01.1⟩
      · rw [if_neg e, if_neg e]; exact ⟨_, rfl, bnd_01.2⟩
    · rw [jo_62, op_62]
      by_cases e : lg_cmp (Int32.toInt64 a) (Int32.toInt64 b) ≤ 0
      · rw [if_pos e, if_pos e]; exact ⟨_, rfl, bnd_01.1⟩
      · rw [if_neg e, if_neg e]; exact ⟨_, rfl, bnd_01.2⟩
theorem fc_jnL {c : Nat} {a b : Int32} (hc : c = 38 ∨ c = 124) (ha : tvI a) (hb : tvI b) : ∃ q, f_Rule_join (nI c) (Int32.toInt64 a) (Int32.toInt64 b) s = some q ∧ bndL q = opS c a b := by
  obtain ⟨t1, t2, t3, t4, t5, t6, t7, t8⟩ := tv_an
  have h10 := tv_lg.2
  rcases hc with rfl | rfl
  · refine ⟨_, jo_38, ?_⟩
    rw [op_38]
    rcases ha with rfl | rfl <;> rcases hb with rfl | rfl
    · rw [t1, if_pos rfl]
    · rw [t2, if_pos rfl]
    · rw [t3, if_neg h10, if_pos rfl]
    · rw [t4, if_neg h10, if_neg h10]
  · refine ⟨_, jo_124, ?_⟩
    rw [op_124]
    rcases ha with rfl | rfl <;> rcases hb with rfl | rfl
    · rw [t5, if_pos rfl, if_pos rfl]
    · rw [t6, if_pos rfl, if_neg h10]
    · rw [t7, if_neg h10]
    · rw [t8, if_neg h10]
theorem i32_0 : Int32.ofInt 0 = 0 := of_0
theorem fm_worked {c : Nat} {a b : Int32} (hc : arC c ∨ isC c = true) : f_M_worked (nI (kd c).1) (Int32.toInt64 a) (Int32.toInt64 b) s = some (opS c a b) := by
  obtain ⟨k1, k2, k3, k4, k5, k6, k7, k8, k9, k10⟩ := kd_op
  rcases hc with hc | hc
  · rcases hc with rfl | rfl | rfl | rfl
    · rw [k3, wo_4, op_42]
    · rw [k4, wo_5, op_47]
      by_cases e : lg_cmp (Int32.toInt64 b) (Int64.ofNat 0) = 0
      · rw [if_pos e, if_pos e, i32_0]
      · rw [if_neg e, if_neg (fun z => e (lgc_0 z)), if_neg e]
    · rw [k1, wo_2, op_43]
    · rw [k2, wo_3, op_45]
  · rcases isC_pos hc with rfl | rfl | rfl
    · rw [k5, wo_6, op_61, i32_0, of_1]
      split <;> rfl
    · rw [k6, wo_7, op_60, i32_0, of_1]
      split <;> rfl
    · rw [k7, wo_8, op_62, i32_0, of_1]
      split <;> rfl
theorem fm_workedL {c : Nat} {a b : Int32} (hc : c = 38 ∨ c = 124) (ha : tvI a) (hb : tvI b) : f_M_worked (nI (kd c).1) (Int32.toInt64 a) (Int32.toInt64 b) s = some (opS c a b) := by
  obtain ⟨k1, k2, k3, k4, k5, k6, k7, k8, k9, k10⟩ := kd_op
  obtain ⟨⟨l0, l1⟩, h10⟩ := tv_lg
  rcases hc with rfl | rfl
  · rw [k9, wo_10, op_38, i32_0, of_1]
    rcases ha with rfl | rfl <;> rcases hb with rfl | rfl
    · rw [if_pos l0, if_pos rfl]
    · rw [if_pos l0, if_pos rfl]
    · rw [if_neg l1, if_pos l0, if_neg h10, if_pos rfl]
    · rw [if_neg l1, if_neg l1, if_neg h10, if_neg h10]
  · rw [k10, wo_11, op_124]
    unfold f_M_worked_L144
    rw [i32_0, of_1]
    rcases ha with rfl | rfl <;> rcases hb with rfl | rfl
    · rw [if_pos l0, if_pos l0, if_pos rfl, if_pos rfl]
    · rw [if_pos l0, if_neg l1, if_pos rfl, if_neg h10]
    · rw [if_neg l1, if_neg h10]
    · rw [if_neg l1, if_neg h10]
theorem op_tv {c : Nat} {a b : Int32} (hc : isC c = true ∨ (c = 38 ∨ c = 124)) : tvI (opS c a b) := by
  rcases hc with hc | rfl | rfl
  · rcases isC_pos hc with rfl | rfl | rfl
    · rw [op_61]; split; exact Or.inr rfl; exact Or.inl rfl
    · rw [op_60]; split; exact Or.inl rfl; exact Or.inr rfl
    · rw [op_62]; split; exact Or.inl rfl; exact Or.inr rfl
  · rw [op_38]; split; exact Or.inl rfl; split; exact Or.inl rfl; exact Or.inr rfl
  · rw [op_124]; split; split; exact Or.inl rfl; exact Or.inr rfl; exact Or.inr rfl
end
