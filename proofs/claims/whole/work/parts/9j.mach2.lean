/-! ===== a rule's codes, run by both sides: the signs ===== -/
section
variable {s s' t : S2}
theorem cs_not {N h p len : Nat} {k : Int32 → Int32 → Int32 → S2 → Option (S2 × Int32)} (hh : h < 32) (hlen : t.1 17 N 2 = nI len) (h241 : len ≤ 241) (hp : p < len) (e0 : t.1 18 N p = nI 33) : b_Rule_worth_L7 N 32 0 6 k (nI (h + 1)) (nI 0) (nI p) t = k (nI (h + 1)) (nI 0) (nI (p + 1)) (pkS t 19 N h (nI 1 - t.1 19 N h)) := by
  unfold b_Rule_worth_L7 f_Rule_worth_L236
  rw [hlen, if_neg (nI_ge (by omega) (by omega)), ix_nI (n := 241) (k := p) (by omega) (by omega), Option.bind_some, if_pos nI_0, e0, of_256, if_neg (nI_ge (by omega) (by omega)), of_6, if_pos (nI_le (by omega) (by omega)), of_1, if_pos (nI_le (by omega) (by omega)), of_59, if_neg (show ¬ nI 33 = nI 59 by decide), of_63, if_neg (show ¬ nI 33 = nI 63 by decide), of_33, if_pos rfl, sub_nI (by omega), show h + 1 - 1 = h by omega, ix_nI (n := 32) (k := h) hh (by omega), Option.bind_some, Option.bind_some, Option.bind_some, nI_add]
theorem cs_bin {N h p len c : Nat} {q : Int64} {k : Int32 → Int32 → Int32 → S2 → Option (S2 × Int32)} (hh : h + 1 < 32) (hlen : t.1 17 N 2 = nI len) (h241 : len ≤ 241) (hp : p < len) (e0 : t.1 18 N p = nI c) (hc : 6 ≤ c ∧ c < 256 ∧ ¬ c = 59 ∧ ¬ c = 63 ∧ ¬ c = 33) (hq : f_Rule_join (nI c) (Int32.toInt64 (t.1 19 N h)) (Int32.toInt64 (t.1 19 N (h + 1))) t = some q) : b_Rule_worth_L7 N 32 0 6 k (nI (h + 2)) (nI 0) (nI p) t = k (nI (h + 1)) (nI 0) (nI (p + 1)) (pkS t 19 N h (bndL q)) := by
  obtain ⟨c1, c2, c3, c4, c5⟩ := hc
  have hm := addm1 (h + 1) (by omega)
  unfold b_Rule_worth_L7 f_Rule_worth_L236
  rw [hlen, if_neg (nI_ge (by omega) (by omega)), ix_nI (n := 241) (k := p) (by omega) (by omega), Option.bind_some, if_pos nI_0, e0, of_256, if_neg (nI_ge (by omega) (by omega)), of_6, if_pos (nI_le (by omega) (by omega)), of_1, if_pos (nI_le (by omega) (by omega)), of_59, if_neg (fun z => c3 ((nI_eq (by omega) (by omega)).mp z)), of_63, if_neg (fun z => c4 ((nI_eq (by omega) (by omega)).mp z)), of_33, if_neg (fun z => c5 ((nI_eq (by omega) (by omega)).mp z)), of_2, if_pos (nI_le (by omega) (by omega)), show nI (h + 2) = nI (h + 1 + 1) from rfl, hm, sub_nI (by omega), show h + 1 - 1 = h by omega, ix_nI (n := 32) (k := h) (by omega) (by omega), Option.bind_some, ix_nI (n := 32) (k := h + 1) hh (by omega), Option.bind_some, hq, Option.bind_some, Option.bind_some, Option.bind_some, nI_add]
  rfl
theorem ms_not {N h P e : Nat} {k : Int32 → Int32 → Int32 → Int32 → S2 → Option (S2 × Int32)} (hN : N < 5) (hh : h < 32) (he : e ≤ 520) (hp : P < 520 * N + e) (e0 : t.1 62 0 P = nI 9) : b_M_workOut_L12 k (nI N) (nI e) (nI (h + 1)) (nI P) t = k (nI N) (nI e) (nI (h + 1)) (nI (P + 1)) (pkS t 70 0 h (nI 1 - t.1 70 0 h)) := by
  have hP2 : P < 2600 := by omega
  unfold b_M_workOut_L12 f_M_workOut_L165
  rw [of_520, mul_nI, nI_add, if_neg (nI_ge (by omega) (by omega)), ix_nI (n := 2600) (k := P) hP2 (by omega), Option.bind_some, e0, if_neg (show ¬ nI 9 = 0 by decide), Option.bind_some, e0, of_1, if_neg (show ¬ nI 9 = nI 1 by decide), Option.bind_some, e0, of_9, if_pos rfl, sub_nI (by omega), show h + 1 - 1 = h by omega, ix_nI (n := 80) (k := h) (by omega) (by omega), Option.bind_some, Option.bind_some, Option.bind_some, nI_add]
theorem ms_bin {N h P e c : Nat} {v : Int32} {k : Int32 → Int32 → Int32 → Int32 → S2 → Option (S2 × Int32)} (hN : N < 5) (hh : h + 1 < 32) (he : e ≤ 520) (hp : P < 520 * N + e) (e0 : t.1 62 0 P = nI c) (hc : 1 < c ∧ c < 100 ∧ ¬ c = 9) (hq : f_M_worked (nI c) (Int32.toInt64 (t.1 70 0 h)) (Int32.toInt64 (t.1 70 0 (h + 1))) t = some v) : b_M_workOut_L12 k (nI N) (nI e) (nI (h + 2)) (nI P) t = k (nI N) (nI e) (nI (h + 1)) (nI (P + 1)) (pkS t 70 0 h v) := by
  obtain ⟨c1, c2, c3⟩ := hc
  have hP2 : P < 2600 := by omega
  have hm := addm1 (h + 1) (by omega)
  have c0 : ¬ nI c = 0 := fun z => by have := (nI_eq (by omega) (by omega)).mp (z.trans nI_0.symm); omega
  unfold b_M_workOut_L12 f_M_workOut_L165
  rw [of_520, mul_nI, nI_add, if_neg (nI_ge (by omega) (by omega)), ix_nI (n := 2600) (k := P) hP2 (by omega), Option.bind_some, e0, if_neg c0, Option.bind_some, e0, of_1, if_neg (fun z => by have := (nI_eq (by omega) (by omega)).mp z; omega), Option.bind_some, e0, of_9, if_neg (fun z => c3 ((nI_eq (by omega) (by omega)).mp z)), Option.bind_some, show nI (h + 2) = nI (h + 1 + 1) from rfl, hm, sub_nI (by omega), show h + 1 - 1 = h by omega, ix_nI (n := 80) (k := h) (by omega) (by omega), Option.bind_some, ix_nI (n := 80) (k := h + 1) (by omega) (by omega), Option.bind_some, e0, hq, Option.bind_some, Option.bind_some, Option.bind_some, nI_add]
theorem cm_mono {m m' : Nat} {L : List Nat} {f : ENF} (h : m ≤ m') (hc : CMX m L f) : CMX m' L f := fun N p h' fu len t h1 h2 h3 h4 h5 => hc N p h' fu len t (by omega) h2 h3 h4 h5
theorem mm_mono {m m' : Nat} {L : List Nat} {f : ENF} (h : m ≤ m') (hc : MMX m L f) : MMX m' L f := fun N p h' fu e t h1 h2 h3 h4 h5 => hc N p h' fu e t h1 (by omega) h3 h4 h5
theorem cm_not {m : Nat} {L : List Nat} {f : ENF} (h1 : 1 ≤ m) (hf : CMX m L f) : CMX m (L ++ [33]) (fun E => nI 1 - f E) := by
  intro N p h fu len t hh hlen h241 hp hcod
  rw [List.length_append, l1] at hp ⊢
  obtain ⟨t1, a1, a2, a3, a4⟩ := hf N p h (fu + 1) len t hh hlen h241 (by omega) (cod_l hcod)
  have e0 : t1.1 18 N (p + L.length) = nI 33 := cod_fr (cod_r hcod) a2 0 (Nat.zero_lt_one)
  refine ⟨pkS t1 19 N h (nI 1 - t1.1 19 N h), ?_, a2.pk' _ rfl, fun j hj => by rw [pkS_v, if_neg (by omega)]; exact a3 j hj, by rw [pkS_v, if_pos ⟨rfl, rfl, rfl⟩, a4]⟩
  rw [show fu + (L.length + 1) = fu + 1 + L.length by omega, a1, wl_s, cs_not (len := len) (by omega) ((a2.1 17 N 2 rfl).trans hlen) h241 (by omega) e0, show p + L.length + 1 = p + (L.length + 1) by omega]
theorem mm_not {m : Nat} {L : List Nat} {f : ENF} (h1 : 1 ≤ m) (hf : MMX m L f) : MMX m (L ++ [33]) (fun E => nI 1 - f E) := by
  intro N p h fu e t hN hh hp he hcod
  rw [List.length_append, l1] at hp ⊢
  obtain ⟨t1, a1, a2, a3, a4⟩ := hf N p h (fu + 1) e t hN hh (by omega) he (mco_l hcod)
  have e0 : t1.1 62 0 (520 * N + (p + L.length)) = nI (kd 33).1 := (mco_fr (mco_r hcod) a2 0 (Nat.zero_lt_one)).1
  rw [kd_op.2.2.2.2.2.2.2.1] at e0
  refine ⟨pkS t1 70 0 h (nI 1 - t1.1 70 0 h), ?_, a2.pk' _ rfl, fun j hj => by rw [pkS_v, if_neg (by omega)]; exact a3 j hj, by rw [pkS_v, if_pos ⟨rfl, rfl, rfl⟩, a4]⟩
  rw [show fu + (L.length + 1) = fu + 1 + L.length by omega, a1, wm_s, ms_not hN (by omega) he (by omega) e0, show 520 * N + (p + L.length) + 1 = 520 * N + (p + (L.length + 1)) by omega]
theorem cm_bin {m c : Nat} {L L' : List Nat} {f g : ENF} (hc : 6 ≤ c ∧ c < 256 ∧ ¬ c = 59 ∧ ¬ c = 63 ∧ ¬ c = 33) (hm : 1 ≤ m) (hj : ∀ E s, ∃ q, f_Rule_join (nI c) (Int32.toInt64 (f E)) (Int32.toInt64 (g E)) s = some q ∧ bndL q = opS c (f E) (g E)) (hf : CMX (m + 1) L f) (hg : CMX m L' g) : CMX (m + 1) (L ++ L' ++ [c]) (fun E => opS c (f E) (g E)) := by
  intro N p h fu len t hh hlen h241 hp hcod
  rw [List.length_append, List.length_append, l1] at hp ⊢
  obtain ⟨t1, a1, a2, a3, a4⟩ := hf N p h (fu + 1 + L'.length) len t hh hlen h241 (by omega) (cod_l (cod_l hcod))
  obtain ⟨t2, b1, b2, b3, b4⟩ := hg N (p + L.length) (h + 1) (fu + 1) len t1 (by omega) ((a2.1 17 N 2 rfl).trans hlen) h241 (by omega) (cod_fr (cod_r (cod_l hcod)) a2)
  have a12 := a2.trans b2
  have e0 : t2.1 18 N (p + (L ++ L').length) = nI c := cod_fr (cod_r hcod) a12 0 (Nat.zero_lt_one)
  rw [List.length_append, ← Nat.add_assoc] at e0
  have v1 : t2.1 19 N h = f (E6 (t.1 32 0)) := (b3 h (by omega)).trans a4
  have v2 : t2.1 19 N (h + 1) = g (E6 (t.1 32 0)) := by rw [b4, a2.arr (c := 32) (i := 0) fun _ => rfl]
  obtain ⟨q, q1, q2⟩ := hj (E6 (t.1 32 0)) t2
  rw [← v1, ← v2] at q1
  refine ⟨pkS t2 19 N h (bndL q), ?_, a12.pk' _ rfl, fun j hj => by rw [pkS_v, if_neg (by omega), b3 j (by omega)]; exact a3 j hj, by rw [pkS_v, if_pos ⟨rfl, rfl, rfl⟩, q2]⟩
  rw [show fu + (L.length + L'.length + 1) = fu + 1 + L'.length + L.length by omega, a1, b1, wl_s, show h + 1 + 1 = h + 2 from rfl, cs_bin (len := len) (by omega) ((a12.1 17 N 2 rfl).trans hlen) h241 (by omega) e0 hc q1, show p + L.length + L'.length + 1 = p + (L.length + L'.length + 1) by omega]
theorem mm_bin {m c : Nat} {L L' : List Nat} {f g : ENF} (hc : 1 < (kd c).1 ∧ (kd c).1 < 100 ∧ ¬ (kd c).1 = 9) (hm : 1 ≤ m) (hj : ∀ E s, f_M_worked (nI (kd c).1) (Int32.toInt64 (f E)) (Int32.toInt64 (g E)) s = some (opS c (f E) (g E))) (hf : MMX (m + 1) L f) (hg : MMX m L' g) : MMX (m + 1) (L ++ L' ++ [c]) (fun E => opS c (f E) (g E)) := by
  intro N p h fu e t hN hh hp he hcod
  rw [List.length_append, List.length_append, l1] at hp ⊢
  obtain ⟨t1, a1, a2, a3, a4⟩ := hf N p h (fu + 1 + L'.length) e t hN hh (by omega) he (mco_l (mco_l hcod))
  obtain ⟨t2, b1, b2, b3, b4⟩ := hg N (p + L.length) (h + 1) (fu + 1) e t1 hN (by omega) (by omega) he (mco_fr (mco_r (mco_l hcod)) a2)
  have a12 := a2.trans b2
  have e0 : t2.1 62 0 (520 * N + (p + (L ++ L').length)) = nI (kd c).1 := (mco_fr (mco_r hcod) a12 0 (Nat.zero_lt_one)).1
  rw [List.length_append, ← Nat.add_assoc p] at e0
  have v1 : t2.1 70 0 h = f (E6 (t.1 69 0)) := (b3 h (by omega)).trans a4
  have v2 : t2.1 70 0 (h + 1) = g (E6 (t.1 69 0)) := by rw [b4, a2.arr (c := 69) (i := 0) fun _ => rfl]
  have q1 := hj (E6 (t.1 69 0)) t2
  rw [← v1, ← v2] at q1
  refine ⟨pkS t2 70 0 h (opS c (t2.1 70 0 h) (t2.1 70 0 (h + 1))), ?_, a12.pk' _ rfl, fun j hj => by rw [pkS_v, if_neg (by omega), b3 j (by omega)]; exact a3 j hj, by rw [pkS_v, if_pos ⟨rfl, rfl, rfl⟩, v1, v2]⟩
  rw [show fu + (L.length + L'.length + 1) = fu + 1 + L'.length + L.length by omega, a1, b1, wm_s, show h + 1 + 1 = h + 2 from rfl, ms_bin hN (by omega) he (by omega) e0 hc q1, show 520 * N + (p + L.length + L'.length) + 1 = 520 * N + (p + (L.length + L'.length + 1)) by omega]
end
