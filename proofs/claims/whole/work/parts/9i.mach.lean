/-! ===== a rule's codes, run by both sides ===== -/
section
variable {s s' t : S2}
def e6 (a b c d e g : Int32) (k : Nat) : Int32 := if k = 0 then a else if k = 1 then b else if k = 2 then c else if k = 3 then d else if k = 4 then e else g
def E6 (X : Nat → Int32) : Nat → Int32 := e6 (X 0) (X 1) (X 2) (X 3) (X 4) (X 5)
theorem E6_at (X : Nat → Int32) {k : Nat} (h : k < 6) : E6 X k = X k := by
  unfold E6 e6
  rcases (show k = 0 ∨ k = 1 ∨ k = 2 ∨ k = 3 ∨ k = 4 ∨ k = 5 by omega) with rfl | rfl | rfl | rfl | rfl | rfl <;> rfl
abbrev ENF : Type := (Nat → Int32) → Int32
def COD (N p : Nat) (L : List Nat) (t : S2) : Prop := ∀ k, k < L.length → t.1 18 N (p + k) = nI (L[k]?.getD 0)
def MCO (N p : Nat) (L : List Nat) (t : S2) : Prop := ∀ k, k < L.length → t.1 62 0 (520 * N + (p + k)) = nI (kd (L[k]?.getD 0)).1 ∧ t.1 63 0 (520 * N + (p + k)) = nI (kd (L[k]?.getD 0)).2
theorem cod_l {N p : Nat} {L L' : List Nat} (h : COD N p (L ++ L') t) : COD N p L t := fun k hk => by
  have := h k (by rw [List.length_append]; omega)
  rw [List.getElem?_append_left hk] at this
  exact this
theorem cod_r {N p : Nat} {L L' : List Nat} (h : COD N p (L ++ L') t) : COD N (p + L.length) L' t := fun k hk => by
  have := h (L.length + k) (by rw [List.length_append]; omega)
  rw [List.getElem?_append_right (by omega), show L.length + k - L.length = k by omega, show p + (L.length + k) = p + L.length + k by omega] at this
  exact this
theorem mco_l {N p : Nat} {L L' : List Nat} (h : MCO N p (L ++ L') t) : MCO N p L t := fun k hk => by
  have := h k (by rw [List.length_append]; omega)
  rw [List.getElem?_append_left hk] at this
  exact this
theorem mco_r {N p : Nat} {L L' : List Nat} (h : MCO N p (L ++ L') t) : MCO N (p + L.length) L' t := fun k hk => by
  have := h (L.length + k) (by rw [List.length_append]; omega)
  rw [List.getElem?_append_right (by omega), show L.length + k - L.length = k by omega, show p + (L.length + k) = p + L.length + k by omega] at this
  exact this
theorem cod_fr {N p : Nat} {L : List Nat} (h : COD N p L t) (hF : Fr K19 t s) : COD N p L s := fun k hk => (hF.1 18 N _ rfl).trans (h k hk)
theorem mco_fr {N p : Nat} {L : List Nat} (h : MCO N p L t) (hF : Fr M70 t s) : MCO N p L s := fun k hk => ⟨(hF.1 62 0 _ rfl).trans (h k hk).1, (hF.1 63 0 _ rfl).trans (h k hk).2⟩
def CMX (need : Nat) (L : List Nat) (f : ENF) : Prop := ∀ (N p h fu len : Nat) (t : S2), h + need ≤ 32 → t.1 17 N 2 = nI len → len ≤ 241 → p + L.length ≤ len → COD N p L t → ∃ t', f_Rule_worth_L7 N 32 0 6 (fu + L.length) (nI h) (nI 0) (nI p) t = f_Rule_worth_L7 N 32 0 6 fu (nI (h + 1)) (nI 0) (nI (p + L.length)) t' ∧ Fr K19 t t' ∧ (∀ j, j < h → t'.1 19 N j = t.1 19 N j) ∧ t'.1 19 N h = f (E6 (t.1 32 0))
def MMX (need : Nat) (L : List Nat) (f : ENF) : Prop := ∀ (N p h fu e : Nat) (t : S2), N < 5 → h + need ≤ 32 → p + L.length ≤ e → e ≤ 520 → MCO N p L t → ∃ t', f_M_workOut_L12 (fu + L.length) (nI N) (nI e) (nI h) (nI (520 * N + p)) t = f_M_workOut_L12 fu (nI N) (nI e) (nI (h + 1)) (nI (520 * N + (p + L.length))) t' ∧ Fr M70 t t' ∧ (∀ j, j < h → t'.1 70 0 j = t.1 70 0 j) ∧ t'.1 70 0 h = f (E6 (t.1 69 0))
def QX (tr : Bool) (need : Nat) (L : List Nat) : Prop := 1 ≤ need ∧ 0 < L.length ∧ (∀ k, k < L.length → ¬ L[k]?.getD 0 = 59 ∧ L[k]?.getD 0 < 20000) ∧ ∃ f : ENF, (tr = true → ∀ E, tvI (f E)) ∧ CMX need L f ∧ MMX need L f
theorem addm1 : ∀ h, h < 100 → nI (h + 1) + Int32.ofInt (-1) = nI h := by decide +kernel
theorem wl_s {N fu : Nat} : f_Rule_worth_L7 N 32 0 6 (fu + 1) = b_Rule_worth_L7 N 32 0 6 (f_Rule_worth_L7 N 32 0 6 fu) := rfl
theorem wm_s {fu : Nat} : f_M_workOut_L12 (fu + 1) = b_M_workOut_L12 (f_M_workOut_L12 fu) := rfl
theorem l1 {c : Nat} : [c].length = 1 := rfl
theorem cm_let {c need : Nat} (hn : 1 ≤ need) (c6 : c < 6) : CMX need [c] (fun E => E c) := by
  intro N p h fu len t hh hlen h241 hp hcod
  rw [l1] at hp ⊢
  have e0 : t.1 18 N p = nI c := hcod 0 (Nat.zero_lt_one)
  refine ⟨pkS t 19 N h (t.1 32 0 c), ?_, Fr.pk rfl t _, fun j hj => by rw [pkS_v, if_neg (by omega)], by rw [pkS_v, if_pos ⟨rfl, rfl, rfl⟩]; exact (E6_at _ c6).symm⟩
  rw [wl_s]
  unfold b_Rule_worth_L7 f_Rule_worth_L60 f_Rule_worth_L94 f_Rule_worth_L236
  rw [hlen, if_neg (nI_ge (by omega) (by omega)), ix_nI (n := 241) (k := p) (by omega) (by omega), Option.bind_some, if_pos nI_0, e0, of_256, of_6, of_32, if_neg (nI_ge (by omega) (by omega)), if_neg (nI_ge (by omega) (by omega)), if_pos (nI_lt (by omega) (by omega)), if_pos (nI_lt (by omega) (by omega)), ix_nI (n := 6) (k := c) c6 (by omega), Option.bind_some, ix_nI (n := 32) (k := h) (by omega) (by omega), Option.bind_some, Option.bind_some, of_1, nI_add, nI_add]
theorem cm_num {v need : Nat} (hn : 1 ≤ need) (hv : v < 10000) : CMX need [256 + v] (fun _ => nI v) := by
  intro N p h fu len t hh hlen h241 hp hcod
  rw [l1] at hp ⊢
  have e0 : t.1 18 N p = nI (256 + v) := hcod 0 (Nat.zero_lt_one)
  refine ⟨pkS t 19 N h (nI v), ?_, Fr.pk rfl t _, fun j hj => by rw [pkS_v, if_neg (by omega)], by rw [pkS_v, if_pos ⟨rfl, rfl, rfl⟩]⟩
  rw [wl_s]
  unfold b_Rule_worth_L7 f_Rule_worth_L60 f_Rule_worth_L94 f_Rule_worth_L236
  rw [hlen, if_neg (nI_ge (by omega) (by omega)), ix_nI (n := 241) (k := p) (by omega) (by omega), Option.bind_some, if_pos nI_0, e0, of_256, of_6, of_32, if_pos (nI_le (by omega) (by omega)), if_pos (nI_lt (by omega) (by omega)), if_neg (nI_nlt (by omega) (by omega)), ix_nI (n := 32) (k := h) (by omega) (by omega), Option.bind_some, Option.bind_some, of_1, nI_add, nI_add, sub_nI (by omega), show 256 + v - 256 = v by omega]
theorem mm_let {c need : Nat} (hn : 1 ≤ need) (c6 : c < 6) : MMX need [c] (fun E => E c) := by
  intro N p h fu e t hN hh hp he hcod
  rw [l1] at hp ⊢
  have e0 : t.1 62 0 (520 * N + p) = nI (kd c).1 ∧ t.1 63 0 (520 * N + p) = nI (kd c).2 := hcod 0 (Nat.zero_lt_one)
  rw [kd_let c6] at e0
  obtain ⟨e1, e2⟩ := e0
  have e1 : t.1 62 0 (520 * N + p) = nI 1 := e1
  have e2 : t.1 63 0 (520 * N + p) = nI c := e2
  refine ⟨pkS t 70 0 h (t.1 69 0 c), ?_, Fr.pk rfl t _, fun j hj => by rw [pkS_v, if_neg (by omega)], by rw [pkS_v, if_pos ⟨rfl, rfl, rfl⟩]; exact (E6_at _ c6).symm⟩
  rw [wm_s]
  unfold b_M_workOut_L12 f_M_workOut_L45 f_M_workOut_L83 f_M_workOut_L165
  generalize hP : 520 * N + p = P at e1 e2 ⊢
  have hP2 : P < 2600 := by omega
  rw [of_520, mul_nI, nI_add, if_neg (nI_ge (by omega) (by omega)), ix_nI (n := 2600) (k := P) hP2 (by omega), Option.bind_some, e1, if_neg (show ¬ nI 1 = 0 by decide), Option.bind_some, e1, if_pos (show nI 1 = Int32.ofInt 1 from of_1.symm), Option.bind_some, e1, if_neg (show ¬ nI 1 = 0 by decide), Option.bind_some, e2, ix_nI (n := 6) (k := c) c6 (by omega), Option.bind_some, ix_nI (n := 80) (k := h) (by omega) (by omega), Option.bind_some, Option.bind_some, of_1, nI_add, nI_add, show P + 1 = 520 * N + (p + 1) by omega]
theorem mm_num {v need : Nat} (hn : 1 ≤ need) (hv : v < 10000) : MMX need [256 + v] (fun _ => nI v) := by
  intro N p h fu e t hN hh hp he hcod
  rw [l1] at hp ⊢
  have e0 : t.1 62 0 (520 * N + p) = nI (kd (256 + v)).1 ∧ t.1 63 0 (520 * N + p) = nI (kd (256 + v)).2 := hcod 0 (Nat.zero_lt_one)
  rw [kd_num] at e0
  obtain ⟨e1, e2⟩ := e0
  have e1 : t.1 62 0 (520 * N + p) = 0 := e1.trans nI_0
  have e2 : t.1 63 0 (520 * N + p) = nI v := e2
  refine ⟨pkS t 70 0 h (nI v), ?_, Fr.pk rfl t _, fun j hj => by rw [pkS_v, if_neg (by omega)], by rw [pkS_v, if_pos ⟨rfl, rfl, rfl⟩]⟩
  rw [wm_s]
  unfold b_M_workOut_L12 f_M_workOut_L45 f_M_workOut_L83 f_M_workOut_L165
  generalize hP : 520 * N + p = P at e1 e2 ⊢
  have hP2 : P < 2600 := by omega
  rw [of_520, mul_nI, nI_add, if_neg (nI_ge (by omega) (by omega)), ix_nI (n := 2600) (k := P) hP2 (by omega), Option.bind_some, e1, if_pos rfl, Option.bind_some, e1, if_pos rfl, Option.bind_some, e2, ix_nI (n := 80) (k := h) (by omega) (by omega), Option.bind_some, Option.bind_some, of_1, nI_add, nI_add, show P + 1 = 520 * N + (p + 1) by omega]
end
