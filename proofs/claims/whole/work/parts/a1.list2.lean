/-! ===== the laws of the list of cells ===== -/
section
variable {cT : Nat → ClassId} {base : Nat} {sa : Nat × Nat → Nat} {xv : Value} {tys : List (ClassId × FieldType)} {D : va_G} {xs : Nat → Int32} {L : Nat}
theorem l_ai (σ : KL) (r : Nat × Nat) (n : Nat) (f : Nat → Int32) (h : lai σ r = some (n, f)) : 2 ≤ r.1 ∧ n < 2 ^ 31 ∧ cellAt (lrp cT (kad base sa) xv base) σ (kix kcx r) (kad base sa r) (.inl (cT 0, n, .inl f)) := by
  unfold lai at h
  split at h
  · rename_i q hq
    obtain ⟨h1, h2⟩ := lrp_at (cT := cT) (base := base) (sa := sa) (xv := xv) hq
    cases hc : Nat.blt q.1 100000 with
    | false => rw [hc] at h; cases h
    | true =>
      rw [hc] at h
      have h : some q = some (n, f) := h
      cases h
      have hc : n < 100000 := Nat.le_of_ble_eq_true hc
      exact ⟨by omega, by omega, h2⟩
  · cases h
theorem l_wi (σ : KL) (r : Nat × Nat) (n : Nat) (f f' : Nat → Int32) (σ' : KL) (h : lai σ r = some (n, f)) (h' : lwi σ r f' = some σ') : 2 ≤ r.1 ∧ n < 2 ^ 31 ∧ (∀ n, szL base σ n → szL base σ' n) ∧ ∃ q0 : Nat, cellAt (lrp cT (kad base sa) xv base) σ q0 (kad base sa r) (.inl (cT 0, n, .inl f)) ∧ lrp cT (kad base sa) xv base σ' = (lrp cT (kad base sa) xv base σ).set q0 (kad base sa r, .inl (cT 0, n, .inl f')) := by
  obtain ⟨a1, a2, a3⟩ := l_ai (cT := cT) (base := base) (sa := sa) (xv := xv) σ r n f h
  unfold lwi at h'
  unfold lai at h
  split at h'
  · rename_i q hq
    rw [hq] at h
    have h : cond (Nat.blt q.1 100000) (some q) none = some (n, f) := h
    cases hc : Nat.blt q.1 100000 with
    | false => rw [hc] at h; cases h
    | true =>
      rw [hc] at h
      have h : some q = some (n, f) := h
      cases h
      rw [frc_eq] at h'
      cases h'
      refine ⟨a1, a2, fun n hn => ⟨by rw [List.length_set]; exact hn.1, by rw [List.length_set]; exact hn.2⟩, _, a3, ?_⟩
      rw [lrp_st (klc_ge hq).1]
      rfl
  · cases h'
theorem l_ar (σ : KL) (r : Nat × Nat) (n : Nat) (f : Nat → Nat × Nat) (h : lar σ r = some (n, f)) : 2 ≤ r.1 ∧ n < 2 ^ 31 ∧ ∃ (t0 : Nat) (rs : List (Nat × Nat)), klc σ r = some (.inr (.inr (.inr (t0, n, rs)))) ∧ (t0 = 2 ∨ t0 = 3) ∧ rs.length = n ∧ f = lgr rs ∧ ∀ j, j < n → kob (f j) = true := by
  unfold lar at h
  split at h
  · rename_i q hq
    have h1 := (klc_ge hq).1
    cases hc : ((Nat.blt q.2.1 100000 && (Nat.beq q.1 2 || Nat.beq q.1 3)) && (Nat.beq q.2.2.length q.2.1 && q.2.2.all kob)) with
    | false => rw [hc] at h; cases h
    | true =>
      rw [hc] at h
      have h : some (q.2.1, lgr q.2.2) = some (n, f) := h
      obtain ⟨t0, m, rs⟩ := q
      cases h
      obtain ⟨g1, g2⟩ := Bool.and_eq_true_iff.mp hc
      obtain ⟨g1, g3⟩ := Bool.and_eq_true_iff.mp g1
      obtain ⟨g2, g4⟩ := Bool.and_eq_true_iff.mp g2
      have g1 : m < 100000 := Nat.le_of_ble_eq_true g1
      have g2 : rs.length = m := Nat.eq_of_beq_eq_true g2
      refine ⟨by omega, by show m < 2 ^ 31; omega, t0, rs, hq, ?_, g2, rfl, fun j hj => ?_⟩
      · rcases Bool.or_eq_true_iff.mp g3 with w | w
        · exact Or.inl (Nat.eq_of_beq_eq_true w)
        · exact Or.inr (Nat.eq_of_beq_eq_true w)
      · have hj : j < m := hj
        have hj' : j < rs.length := by omega
        show kob (rs.getD j (0, 0)) = true
        rw [List.getD_eq_getElem?_getD, List.getElem?_eq_getElem hj']
        exact List.all_eq_true.mp g4 _ (List.getElem_mem hj')
  · cases h
theorem l_co (σ : KL) (r : Nat × Nat) (ci : Nat) (h : lco σ r = some ci) : 2 ≤ r.1 ∧ ∃ (q0 : Nat) (fs : List Value), cellAt (lrp cT (kad base sa) xv base) σ q0 (kad base sa r) (.inr (ci, fs)) := by
  unfold lco at h
  split at h
  · rename_i q hq
    obtain ⟨h1, h2⟩ := lrp_at (cT := cT) (base := base) (sa := sa) (xv := xv) hq
    cases h
    exact ⟨by omega, _, _, h2⟩
  · cases h
theorem l_wr (h2 : tys[2]? = some (cT 2, .object "DriftSea$Rule")) (h3 : tys[3]? = some (cT 3, .object "DriftSea$State")) (σ : KL) (r : Nat × Nat) (n : Nat) (f : Nat → Nat × Nat) (j : Nat) (x : Nat × Nat) (σ' : KL) (h : lar σ r = some (n, f)) (hj : j < n) (h' : lwr σ r j x = some σ') : 2 ≤ r.1 ∧ 2 ≤ x.1 ∧ n < 2 ^ 31 ∧ (∀ n, szL base σ n → szL base σ' n) ∧ ∃ (q0 t0 qk ci : Nat) (r0 : vw_C) (vs : List Value) (g : Nat → Option Nat), cellAt (lrp cT (kad base sa) xv base) σ q0 (kad base sa r) (.inl (cT t0, n, .inr (.inr (.inr (.inr g))))) ∧ tys[t0]? = some (cT t0, .object r0.1) ∧ cellAt (lrp cT (kad base sa) xv base) σ qk (kad base sa x) (.inr (ci, vs)) ∧ vwCl[ci]? = some r0 ∧ lrp cT (kad base sa) xv base σ' = (lrp cT (kad base sa) xv base σ).set q0 (kad base sa r, .inl (cT t0, n, .inr (.inr (.inr (.inr (va_up g j (some (kad base sa x)))))))) := by
  obtain ⟨a1, a2, t0, rs, a3, a4, a5, a6, a7⟩ := l_ar σ r n f h
  obtain ⟨b1, b2⟩ := lrp_at (cT := cT) (base := base) (sa := sa) (xv := xv) a3
  unfold lwr at h'
  rw [a3] at h'
  cases hx : klc σ x with
  | none => rw [hx] at h'; cases h'
  | some w =>
    rw [hx] at h'
    rcases w with o | w
    · obtain ⟨c1, c2⟩ := lrp_at (cT := cT) (base := base) (sa := sa) (xv := xv) hx
      have h' : cond ((Nat.beq t0 2 && Nat.beq o.1 5) || (Nat.beq t0 3 && Nat.beq o.1 7)) (frc (σ.set (kix kcx r) (.inr (.inr (.inr (t0, n, rs.set j x))))) some) none = some σ' := h'
      cases hc : ((Nat.beq t0 2 && Nat.beq o.1 5) || (Nat.beq t0 3 && Nat.beq o.1 7)) with
      | false => rw [hc] at h'; cases h'
      | true =>
        rw [hc, frc_eq] at h'
        cases h'
        have hset : lrp cT (kad base sa) xv base (σ.set (kix kcx r) (.inr (.inr (.inr (t0, n, rs.set j x))))) = (lrp cT (kad base sa) xv base σ).set (kix kcx r) (kad base sa r, .inl (cT t0, n, .inr (.inr (.inr (.inr (va_up (fun j => rfo (kad base sa) (lgr rs j)) j (some (kad base sa x)))))))) := by
          rw [lrp_st b1]
          have e : (fun k => rfo (kad base sa) (lgr (rs.set j x) k)) = va_up (fun j => rfo (kad base sa) (lgr rs j)) j (some (kad base sa x)) := by
            funext k
            unfold va_up lgr
            show rfo (kad base sa) ((rs.set j x).getD k (0, 0)) = if k = j then some (kad base sa x) else rfo (kad base sa) (rs.getD k (0, 0))
            rw [List.getD_eq_getElem?_getD, List.getD_eq_getElem?_getD, List.getElem?_set]
            by_cases hk : j = k
            · subst hk
              rw [if_pos rfl, if_pos rfl, if_pos (by omega)]
              show cond (Nat.ble 10 x.1) _ _ = _
              rw [Nat.ble_eq_true_of_le c1]
              rfl
            · rw [if_neg hk, if_neg (fun z => hk z.symm)]
          show (lrp cT (kad base sa) xv base σ).set (kix kcx r) (kad base sa r, .inl (cT t0, n, .inr (.inr (.inr (.inr (fun k => rfo (kad base sa) (lgr (rs.set j x) k))))))) = _
          rw [e]
        refine ⟨a1, by omega, a2, fun n hn => ⟨by rw [List.length_set]; exact hn.1, by rw [List.length_set]; exact hn.2⟩, ?_⟩
        rcases Bool.or_eq_true_iff.mp hc with w | w
        · obtain ⟨w1, w2⟩ := Bool.and_eq_true_iff.mp w
          have w1 := Nat.eq_of_beq_eq_true w1
          have w2 := Nat.eq_of_beq_eq_true w2
          exact ⟨kix kcx r, t0, kix kcx x, o.1, (RX5, TX5, 3), _, _, b2, by rw [w1]; exact h2, c2, by rw [w2]; rfl, hset⟩
        · obtain ⟨w1, w2⟩ := Bool.and_eq_true_iff.mp w
          have w1 := Nat.eq_of_beq_eq_true w1
          have w2 := Nat.eq_of_beq_eq_true w2
          exact ⟨kix kcx r, t0, kix kcx x, o.1, (RX7, TX7, 1), _, _, b2, by rw [w1]; exact h3, c2, by rw [w2]; rfl, hset⟩
    · rcases w with w | w
      · cases h'
      · rcases w with w | w <;> cases h'
theorem l_next {A : Nat → Prop} (hA : ∀ q, A q → base ≤ q) {σ : KL} {c : LCe} {r : Nat × Nat} (hr : kcx[σ.length]? = some r) : nextA D A (lrp cT (kad base sa) xv base) (szL base) σ (σ ++ [c]) (kad base sa r) := by
  intro n hn
  refine ⟨⟨by rw [List.length_append, hn.1]; rfl, by rw [List.length_append]; show 0 < _ + 1; omega⟩, fun q E H1 hP hD hs => ?_⟩
  have hlen := lrp_len (cT := cT) (ad := kad base sa) (xv := xv) base σ
  have hl : (lrp cT (kad base sa) xv base σ ++ [(q, E)])[σ.length]? = some (q, E) := by
    rw [List.getElem?_append_right (by rw [hlen]; exact Nat.le_refl _), hlen, Nat.sub_self]
    rfl
  have h1 : q < H1.size := (hP _ _ hl).lt
  have h2 : base ≤ q := hA _ (hD.2 _ _ hl)
  have h3 := hn.1
  obtain ⟨k1, k2, k3⟩ := kcx_at hr
  rw [kad_of k2, k1]
  by_cases hq : q < base + σ.length
  · have hi : q - base < σ.length := by omega
    have h4 : (lrp cT (kad base sa) xv base σ ++ [(q, E)])[q - base]? = some (base + (q - base), kec cT (kad base sa) xv σ[q - base]) := by
      rw [List.getElem?_append_left (by rw [hlen]; exact hi), lrp_get, List.getElem?_eq_getElem hi]
      rfl
    have h5 := hD.1 _ _ _ _ h4 hl (by show base + (q - base) = q; omega)
    omega
  · omega
theorem l_nw {A : Nat → Prop} (hA : ∀ q, A q → base ≤ q) (a : Nat) (C : String) (T : u_T) (N : Nat) (ty0 : Nat → FieldType) (σ : KL) (r : Nat × Nat) (n : Nat) (σ' : KL) (hC : vwCl[a]? = some (C, T, N)) (hty : ∀ k, k < N → parseFieldDescriptor (T k).2.2.1 = some (ty0 k)) (h : lnw σ a = some (r, n, σ')) : kvok (.inr (.inr r)) ∧ 2 ≤ r.1 ∧ n = N ∧ ∃ fs : List Value, (∀ j, j < N → defaultValue (ty0 j) = vp_V fs j) ∧ lrp cT (kad base sa) xv base σ' = lrp cT (kad base sa) xv base σ ++ [(kad base sa r, .inr (a, fs))] ∧ nextA D A (lrp cT (kad base sa) xv base) (szL base) σ σ' (kad base sa r) := by
  unfold lnw at h
  split at h
  · rename_i r' hr
    split at h
    · rename_i o ho
      cases hc : Nat.beq o.1 a with
      | false => rw [hc] at h; cases h
      | true =>
        rw [hc, frc_eq] at h
        cases h
        have hc := Nat.eq_of_beq_eq_true hc
        obtain ⟨k1, k2, k3⟩ := kcx_at hr
        subst hc
        have hN := pfR_len ho hC
        refine ⟨k3, by omega, hN.symm, (o.2.map kdf).map (em (kad base sa) xv), fun j hj => ?_, ?_, l_next hA hr⟩
        · have hj' : j < o.2.length := by omega
          have hfd : o.2[j]? = some o.2[j] := List.getElem?_eq_getElem hj'
          obtain ⟨ty, e1, e2⟩ := pfR_at ho hC hfd
          have e3 := hty j hj
          rw [e1] at e3
          cases e3
          unfold vp_V
          rw [List.getD_eq_getElem?_getD, List.getElem?_map, List.getElem?_map, hfd]
          show _ = em (kad base sa) xv (kdf o.2[j])
          generalize o.2[j] = fd at e2
          obtain ⟨x, y, z⟩ := fd
          rcases e2 with ⟨w, e2⟩ | ⟨w, e2⟩ | ⟨w, e2⟩ | ⟨w, e2⟩
          · have w : x = 0 := w
            subst w; rw [e2]; rfl
          · have w : x = 1 := w
            subst w; rw [e2]; rfl
          · have w : x = 2 := w
            subst w; rw [e2]; rfl
          · rcases w with w | w | w <;> (have w : x = _ := w; subst w; rcases e2 with ⟨X, e2⟩ | ⟨X, e2⟩ <;> (rw [e2]; rfl))
        · rw [lrp_app, kad_of k2, k1]
          rfl
    · cases h
  · cases h
theorem l_na {A : Nat → Prop} (hA : ∀ q, A q → base ≤ q) (a : Nat) (σ : KL) (n : Nat) (r : Nat × Nat) (σ' : KL) (h : lna σ a n = some (r, σ')) : kvok (.inr (.inr r)) ∧ 2 ≤ r.1 ∧ lrp cT (kad base sa) xv base σ' = lrp cT (kad base sa) xv base σ ++ [(kad base sa r, kec cT (kad base sa) xv (lnc a n))] ∧ nextA D A (lrp cT (kad base sa) xv base) (szL base) σ σ' (kad base sa r) := by
  unfold lna at h
  split at h
  · rename_i r' hr
    rw [frc_eq] at h
    cases h
    obtain ⟨k1, k2, k3⟩ := kcx_at hr
    refine ⟨k3, by omega, ?_, l_next hA hr⟩
    rw [lrp_app, kad_of k2, k1]
  · cases h
theorem l_rep (a n : Nat) : (fun j => rfo (kad base sa) (lgr (List.replicate n (0, 0)) j)) = fun _ => none := by
  funext j
  unfold lgr
  rw [List.getD_eq_getElem?_getD, List.getElem?_replicate]
  by_cases h : j < n
  · rw [if_pos h]; rfl
  · rw [if_neg h]; rfl
theorem ol_law {A : Nat → Prop} (hA : ∀ q, A q → base ≤ q) (h0 : tys[0]? = some (cT 0, .int)) (h2 : tys[2]? = some (cT 2, .object "DriftSea$Rule")) (h3 : tys[3]? = some (cT 3, .object "DriftSea$State")) : OLaw OL D A (lrp cT (kad base sa) xv base) (szL base) (kad base sa) xv kvok cT tys xs L := by
  refine ⟨fun a k σ r v _ h => l_gf a k σ r v h, fun a k C T N σ r v σ' hC _ _ h => l_pf a k (C, T, N) σ r v σ' hC h, fun σ r n f _ h => ?_, fun σ r n f f' σ' _ h h' => l_wi σ r n f f' σ' h h', fun σ r n f _ h => (by cases h), fun σ r n f f' σ' _ h => (by cases h), fun σ r n f _ h => ?_, fun σ r n f j x σ' _ _ h hj h' => l_wr h2 h3 σ r n f j x σ' h hj h', fun σ r n _ h => ?_, fun σ r n f _ h => (by cases h), fun i v h => (by cases h), fun σ r ci _ h => ?_, fun a C T N ty0 σ r n σ' hC hty h => l_nw hA a C T N ty0 σ r n σ' hC hty h, fun σ n r σ' h => l_na hA 0 σ n r σ' h, fun σ n r σ' h => l_na hA 1 σ n r σ' h, fun a σ n r σ' ha h => ?_, fun _ => trivial, fun _ => trivial, ?_, fun i hi => ?_⟩
  · obtain ⟨a1, a2, a3⟩ := l_ai (cT := cT) (base := base) (sa := sa) (xv := xv) σ r n f h
    exact ⟨a1, a2, Or.inl ⟨_, a3⟩⟩
  · obtain ⟨a1, a2, t0, rs, a3, a4, a5, a6, a7⟩ := l_ar σ r n f h
    obtain ⟨b1, b2⟩ := lrp_at (cT := cT) (base := base) (sa := sa) (xv := xv) a3
    refine ⟨a1, a2, fun j hj => kob_ok (a7 j hj), kix kcx r, t0, cond (Nat.beq t0 2) "DriftSea$Rule" "DriftSea$State", _, b2, ?_, fun j hj => ?_⟩
    · rcases a4 with rfl | rfl
      · exact h2
      · exact h3
    · rw [a6]
      have := a7 j hj
      rw [a6] at this
      exact (em_kob this).symm
  · have h : lln σ r = some n := h
    unfold lln at h
    split at h
    · rename_i q hq
      obtain ⟨b1, b2⟩ := lrp_at (cT := cT) (base := base) (sa := sa) (xv := xv) hq
      cases h
      exact ⟨by omega, Or.inl ⟨_, 0, _, _, _, b2, rfl, h0⟩⟩
    · cases h
  · obtain ⟨a1, a2⟩ := l_co (cT := cT) (base := base) (sa := sa) (xv := xv) σ r ci h
    exact ⟨a1, Or.inl a2⟩
  · obtain ⟨a1, a2, a3, a4⟩ := l_na (cT := cT) (base := base) (sa := sa) (xv := xv) (D := D) hA a σ n r σ' h
    refine ⟨a1, a2, ?_, a4⟩
    rw [a3]
    rcases ha with rfl | rfl
    · show _ ++ [(kad base sa r, (Sum.inl (cT 2, n, .inr (.inr (.inr (.inr (fun j => rfo (kad base sa) (lgr (List.replicate n (0, 0)) j)))))) : va_E))] = _
      rw [l_rep 2 n]
    · show _ ++ [(kad base sa r, (Sum.inl (cT 3, n, .inr (.inr (.inr (.inr (fun j => rfo (kad base sa) (lgr (List.replicate n (0, 0)) j)))))) : va_E))] = _
      rw [l_rep 3 n]
  · show 0 < kcn 0
    decide
  · exact hi
theorem szL_law {A : Nat → Prop} : SzLaw D A (lrp cT (kad base sa) xv base) (szL base) := by
  intro σ n H hn hH hs
  have h1 : (lrp cT (kad base sa) xv base σ)[σ.length - 1]? = some (base + (σ.length - 1), kec cT (kad base sa) xv (σ[σ.length - 1]'(by have := hn.2; omega))) := by
    rw [lrp_get, List.getElem?_eq_getElem (by have := hn.2; omega)]
    rfl
  have h2 : base + (σ.length - 1) < H.size := (hH.1 _ _ h1).lt
  have h3 := hn.1
  have h4 := hn.2
  have e : H.size = n := by omega
  rw [e]
  exact ⟨hn, fun _ _ h => h⟩
end
