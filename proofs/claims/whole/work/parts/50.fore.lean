/-! ===== forecasts: their frame ===== -/
def seS (I T B : Nat) (W : Option WF6) (w v : Nat → Int32) : Nat → (Nat → Int32)
  | 0 => v
  | k + 1 => (psS I T B W (seS I T B W w v k) w onA xN 0).1
theorem VS_se {I T B : Nat} {W : Option WF6} {w v : Nat → Int32} (hv : VS I v) : ∀ k, VS I (seS I T B W w v k)
  | 0 => hv
  | k + 1 => VS_ps (VS_se hv k)
theorem jlS_o {I : Nat} {w u : Nat → Int32} (h6 : I ≤ 6) {j : Nat} (hj : 30 ≤ j) : ∀ (n : Nat) (q : (Nat → Int32) × Int32), (jlS I w u n q).1 j = q.1 j := by
  intro n
  induction n with
  | zero => intro q; rfl
  | succ n ih =>
    intro q
    show (match npS I w q.1 with
      | none => q
      | some ab => jlS I w u n (jnS w u q.1 ab.1 ab.2, q.2 + nI 1)).1 j = q.1 j
    cases c : npS I w q.1 with
    | none => rfl
    | some ab =>
      obtain ⟨a, b⟩ := ab
      have := npS_some c
      show (jlS I w u n (jnS w u q.1 a b, q.2 + nI 1)).1 j = q.1 j
      rw [ih]
      show jnS w u q.1 a b j = q.1 j
      unfold jnS
      rw [h1S_o (Or.inr (by omega)) 6 (by omega), upd_ne _ _ (by omega), upd_ne _ _ (by omega)]
theorem psS_o {I T B : Nat} {W : Option WF6} {v w : Nat → Int32} {on : Nat → Bool} {x : XT} {e : Nat} (h6 : I ≤ 6) (h4 : B ≤ 4) {j : Nat} (hj : 43 ≤ j) : (psS I T B W v w on x e).1 j = v j := by
  show upd _ 42 _ j = v j
  rw [upd_ne _ _ (by omega), snS_o (Or.inr (by omega)), jlS_o h6 (by omega)]
  exact mvS_hi (by omega) 6 (by omega)
theorem PR_se {I T B : Nat} {W : Option WF6} {w v : Nat → Int32} (h6 : I ≤ 6) (h4 : B ≤ 4) (hp : PR I v) : ∀ k, PR I (seS I T B W w v k)
  | 0 => hp
  | k + 1 => fun a ha => by
    rw [show seS I T B W w v (k + 1) = (psS I T B W (seS I T B W w v k) w onA xN 0).1 from rfl, psS_o h6 h4 (by omega)]
    exact PR_se h6 h4 hp k a ha
def AG (v v' : Nat → Int32) : Prop := ∀ k, k < 49 → v' k = v k
theorem VS_ag {I : Nat} {v v' : Nat → Int32} (hv : VS I v) (h : AG v v') : VS I v' := VS_of hv fun j _ h2 => h j (by omega)
theorem RS_ag {I T B : Nat} {v v' : Nat → Int32} {s : S2} (h6 : I ≤ 6) (h8 : T ≤ 8) (h4 : B ≤ 4) (hr : RS I T B v s) (h : AG v v') : RS I T B v' s := by
  obtain ⟨r1, r2, ⟨m, m1, m2, m3⟩, r4⟩ := hr
  refine ⟨fun a ha => ?_, fun t ht => ?_, ⟨m, m1, m2, fun b hb => ?_⟩, ?_⟩
  · rw [h a (by omega), h (6 + a) (by omega), h (12 + a) (by omega), h (18 + a) (by omega), h (24 + a) (by omega), h (43 + a) (by omega)]
    exact r1 a ha
  · rw [h (30 + t) (by omega)]; exact r2 t ht
  · rw [h (38 + b) (by omega)]; exact m3 b hb
  · rw [h 42 (by omega)]; exact r4
theorem AG_symm {v v' : Nat → Int32} (h : AG v v') : AG v' v := fun k hk => (h k hk).symm
theorem cpS_1 (s : S2) (c i : Nat) (f : Nat → Int32) (sp dp n : Nat) (c' i' : Nat) : (cpS s c i f sp dp n).1 c' i' = if c' = c ∧ i' = i then va_cpy f (s.1 c i) sp dp n else s.1 c' i' := by
  show u3 s.1 c i _ c' i' = _
  unfold u3
  by_cases h : c' = c ∧ i' = i
  · rw [if_pos h, h.1, h.2, show (Nat.beq c c && Nat.beq i i) = true by simp]
    rfl
  · rw [if_neg h]
    cases hb : (Nat.beq c' c && Nat.beq i' i) with
    | false => rfl
    | true =>
      obtain ⟨h1, h2⟩ := Bool.and_eq_true_iff.mp hb
      exact absurd ⟨Nat.eq_of_beq_eq_true h1, Nat.eq_of_beq_eq_true h2⟩ h
theorem fc_copy {s : S2} {i j : Nat} : f_State_copy i j s = some (cpS s 21 i (s.1 21 j) 0 0 49) := by
  unfold f_State_copy
  rw [of_49, of_0, ← nI_0, nx_nI (by omega), Option.bind_some, nx_nI (by omega), Option.bind_some, Option.bind_some, if_pos (by omega), Option.bind_some]
theorem cpS_ag (s : S2) (i j : Nat) : AG (s.1 21 j) ((cpS s 21 i (s.1 21 j) 0 0 49).1 21 i) := fun k hk => by
  rw [cpS_1, if_pos ⟨rfl, rfl⟩]
  unfold va_cpy
  rw [if_pos (by omega), Nat.sub_zero, Nat.zero_add]
theorem Fr_cp {K : Nat → Nat → Nat → Bool} {c i : Nat} (h : ∀ k, K c i k = true) (s : S2) (f : Nat → Int32) (a b n : Nat) : Fr K s (cpS s c i f a b n) := by
  refine ⟨fun c' i' k' hk => ?_, rfl⟩
  rw [cpS_1, if_neg]
  rintro ⟨rfl, rfl⟩
  rw [h] at hk
  cases hk
theorem tst255 : ∀ t, t < 8 → Nat.testBit 255 t = true := by decide
theorem CX_told {I T B R : Nat} {W : Option WF6} {s s1 : S2} (h : INV I T B R W s) (hF : Fr KS s s1) (h12 : s1.1 31 0 12 = nI 255) (h13 : s1.1 31 0 13 = 0) : CX I T B W onA xN 0 (s.1 14 0) s1 := by
  have h1 := INV_KS h hF
  have e14 : s1.1 14 0 = s.1 14 0 := hF.arr fun _ => rfl
  refine ⟨h.1.2.2.1, e14, h1.1.2.2.2.1, ⟨⟨255, by omega, h12, fun t ht => ?_⟩, by rw [h13, nI_0], by omega, fun j hj => by omega⟩, HLD_HC h1.2.1⟩
  have := h.1.2.2.1.1.2.1
  exact tst255 t (by omega)
theorem fc_begin {I T B R : Nat} {W : Option WF6} {s : S2} (h : INV I T B R W s) : ∃ s1, f_Forecast_begin s = some s1 ∧ CX I T B W onA xN 0 (s.1 14 0) s1 ∧ VS I (s1.1 21 2) ∧ AG (s.1 21 0) (s1.1 21 2) ∧ Fr KS s s1 := by
  have F1 : Fr KS s (cpS s 21 2 (s.1 21 0) 0 0 49) := Fr_cp (fun _ => rfl) s _ _ _ _
  have F3 : Fr KS s (pkS (pkS (cpS s 21 2 (s.1 21 0) 0 0 49) 31 0 12 (nI 255)) 31 0 13 0) := (F1.pk' _ rfl).pk' _ rfl
  have e2 : (pkS (pkS (cpS s 21 2 (s.1 21 0) 0 0 49) 31 0 12 (nI 255)) 31 0 13 0).1 21 2 = (cpS s 21 2 (s.1 21 0) 0 0 49).1 21 2 := by rw [pkS_1, if_neg (by omega), pkS_1, if_neg (by omega)]
  refine ⟨_, ?_, CX_told h F3 ?_ ?_, ?_, ?_, F3⟩
  · unfold f_Forecast_begin f_Course_drawByTold
    rw [fc_copy, Option.bind_some, of_255, of_0, Option.bind_some, Option.bind_some, Option.bind_some]
  · rw [pkS_v, if_neg (by omega), pkS_v, if_pos ⟨rfl, rfl, rfl⟩]
  · rw [pkS_v, if_pos ⟨rfl, rfl, rfl⟩]
  · rw [e2]; exact VS_ag h.1.2.2.2.2.1 (cpS_ag s 2 0)
  · rw [e2]; exact cpS_ag s 2 0
theorem KP2_KS {c i k : Nat} (h : KS c i k = false) : KP 2 c i k = false := by
  unfold KS at h
  unfold KP KD
  have key : ∀ x : Nat, 32 ≤ x → x ≤ 48 → (c == x) = false := fun x h1 h2 => by
    cases hq : c == x with
    | false => rfl
    | true =>
      have e := eq_of_beq hq
      rw [e, show Nat.ble 32 x = true from Nat.ble_eq_true_of_le h1, show Nat.ble x 48 = true from Nat.ble_eq_true_of_le h2] at h
      simp at h
  simp only [Bool.or_eq_false_iff] at h
  obtain ⟨g1, g2, g3, g4, g5⟩ := h
  rw [key 32 (by omega) (by omega), key 33 (by omega) (by omega), key 34 (by omega) (by omega), key 35 (by omega) (by omega), key 36 (by omega) (by omega), g1, g2.1, g2.2.1, g2.2.2.1, g2.2.2.2.1, g2.2.2.2.2]
  have g3' : (c == 31 && (k == 14 || (k == 15 || k == 16))) = false := by
    cases hq : c == 31 with
    | false => rfl
    | true =>
      rw [hq] at g3
      have : k = 11 := by simpa using g3
      rw [this]; rfl
  have g5' : (c == 21 && i == 2) = false := by
    cases hq : c == 21 with
    | false => rfl
    | true =>
      rw [hq] at g5
      simp only [Bool.true_and, Bool.or_eq_false_iff] at g5
      rw [g5.1]; rfl
  rw [g3', g5']
  rfl
theorem fcs_step {I T B : Nat} {W : Option WF6} {w v : Nat → Int32} {s : S2} {k : Nat} (hv : VS I v) (hX : CX I T B W onA xN 0 w s) (hs : s.1 21 2 = seS I T B W w v k) : ∃ s', f_Course_pass 2 s = some s' ∧ CX I T B W onA xN 0 w s' ∧ s'.1 21 2 = seS I T B W w v (k + 1) ∧ s'.1 31 0 14 = (psS I T B W (seS I T B W w v k) w onA xN 0).2.1 ∧ s'.1 31 0 16 = (psS I T B W (seS I T B W w v k) w onA xN 0).2.2.2 ∧ Fr KS s s' := by
  obtain ⟨s', a1, a2, a3, a4, a5, a6⟩ := fc_pass (i := 2) (by rw [hs]; exact VS_se hv k) hX
  rw [hs] at a2 a3 a5
  exact ⟨s', a1, CX_KP hX a6, a2, a3, a5, a6.mono fun _ _ _ => KP2_KS⟩
theorem MP_MS {T c i k : Nat} (h : MS T c i k = false) : MP c i k = false := by
  unfold MS KR at h
  unfold MP MD
  have key : ∀ x : Nat, 84 ≤ x → x ≤ 91 → (c == x) = false := fun x h1 h2 => by
    cases hq : c == x with
    | false => rfl
    | true =>
      have e := eq_of_beq hq
      rw [e, show Nat.ble 84 x = true from Nat.ble_eq_true_of_le h1, show Nat.ble x 91 = true from Nat.ble_eq_true_of_le h2] at h
      simp at h
  simp only [Bool.or_eq_false_iff] at h
  obtain ⟨⟨g1, g2, g3, g4, g5, -, -, g8⟩, ⟨g9, g10, -⟩, -, g12⟩ := h
  have g60 : (c == 60 && (k == 36 || (k == 37 || (k == 50 || (k == 51 || k == 52))))) = false := by
    cases hq : c == 60 with
    | false => rfl
    | true =>
      rw [hq] at g8 g12
      simp only [Bool.true_and, Bool.or_eq_false_iff] at g8 g12 ⊢
      exact ⟨g8.1, g8.2, g12.2.2.2.1, g12.2.2.2.2.1, g12.2.2.2.2.2.1⟩
  rw [key 84 (by omega) (by omega), key 85 (by omega) (by omega), key 86 (by omega) (by omega), key 87 (by omega) (by omega), key 88 (by omega) (by omega), key 89 (by omega) (by omega), key 90 (by omega) (by omega), g1, g2, g3, g4, g5, g9, g10, g60]
  rfl
theorem SV_fr {I T B : Nat} {v : Nat → Int32} {c off : Nat} {s s' : S2} (h : SV I T B v c off s) (e : s'.1 c 0 = s.1 c 0) : SV I T B v c off s' := by
  unfold SV
  rw [e]
  exact h
/-- the reference within a forecast: k seasons from a state that is put aside -/
def MK5 (I T B : Nat) (W : Option WF6) (w v : Nat → Int32) (k : Nat) (s : S2) : Prop := MX I T B W onA xN 0 w s ∧ RS I T B (seS I T B W w v k) s ∧ SV I T B v 91 0 s
theorem fm_begin {I T B R : Nat} {W : Option WF6} {s : S2} {v : Nat → Int32} (h : INV I T B R W s) (hA : AG (s.1 21 0) v) : ∃ s', f_M_putAside s = some s' ∧ MK5 I T B W (s.1 14 0) v 0 s' ∧ Fr (MS T) s s' := by
  obtain ⟨h6, h8, h4⟩ := h.1.2.2.1.1
  have hr := RS_ag h6 h8 h4 h.1.2.2.2.2.2.2.2.2 hA
  obtain ⟨s', a1, a2, a3⟩ := fm_write (s := s) (c := 91) (n := 46) (off := 0) (Or.inl rfl) (by omega) (by omega) h8 h6 hr
  have e : ∀ c', ¬ c' = 91 → s'.1 c' 0 = s.1 c' 0 := fun c' hc => a3.arr fun _ => Ksv_f hc
  refine ⟨s', ?_, ⟨?_, ?_, a2⟩, a3.mono fun c i k hk => Ksv_f fun z => ?_⟩
  · unfold f_M_putAside
    rw [of_0, ← nI_0, a1]
    rfl
  · exact MX_fr (INV_MX h) a3 (fun k => ⟨Ksv_f (by omega), Ksv_f (by omega), Ksv_f (by omega), Ksv_f (by omega), Ksv_f (by omega), Ksv_f (by omega), Ksv_f (by omega), Ksv_f (by omega), Ksv_f (by omega), Ksv_f (by omega)⟩) ⟨Ksv_f (by omega), Ksv_f (by omega), Ksv_f (by omega), Ksv_f (by omega), Ksv_f (by omega), Ksv_f (by omega)⟩
  · exact RS_fr hr (e 79 (by omega)) (e 80 (by omega)) (e 81 (by omega)) (e 82 (by omega)) (e 83 (by omega)) (e 76 (by omega)) (e 77 (by omega)) (congrFun (e 60 (by omega)) 36) (congrFun (e 60 (by omega)) 37)
  · subst z
    unfold MS at hk
    simp at hk
theorem fms_step {I T B : Nat} {W : Option WF6} {w v : Nat → Int32} {s : S2} {k : Nat} (hv : VS I v) (h : MK5 I T B W w v k s) : ∃ s', f_M_pass s = some s' ∧ MK5 I T B W w v (k + 1) s' ∧ s'.1 60 0 50 = (psS I T B W (seS I T B W w v k) w onA xN 0).2.1 ∧ s'.1 60 0 52 = (psS I T B W (seS I T B W w v k) w onA xN 0).2.2.2 ∧ Fr (MS T) s s' := by
  obtain ⟨h1, h2, h3⟩ := h
  obtain ⟨s', a1, a2, a3, a4, a5, a6⟩ := fm_pass (VS_se hv k) h1 h2
  exact ⟨s', a1, ⟨MX_MP h1 a6, a2, SV_fr h3 (a6.arr fun _ => rfl)⟩, a3, a5, a6.mono fun _ _ _ => MP_MS⟩
theorem KR_MS {T c i k : Nat} (h : MS T c i k = false) : KR c i k = false := (Bool.or_eq_false_iff.mp h).1
theorem fm_end {I T B R : Nat} {W : Option WF6} {s1 s : S2} {v : Nat → Int32} (h : INV I T B R W s1) (hA : AG (s1.1 21 0) v) (hF : Fr (MS T) s1 s) (hS : SV I T B v 91 0 s) : ∃ s', f_M_takeBack s = some s' ∧ INV I T B R W s' := by
  obtain ⟨h6, h8, h4⟩ := h.1.2.2.1.1
  obtain ⟨s2, a1, a2, a3⟩ := fm_read (s := s) (c := 91) (n := 46) (off := 0) (u := fun j => s.1 76 0 (8 * (j - 43) + 7)) (fl := true) (Or.inl rfl) (by omega) (by omega) h6 h8 h4 hS (fun a ha => by rw [show 43 + a - 43 = a by omega])
  rw [mxS_true] at a2
  have F2 : Fr (MS T) s1 (pkS (pkS s2 60 0 41 0) 60 0 42 0) := ((hF.trans (a3.mono fun _ _ _ => KR_MS)).pk' _ (by unfold MS; simp)).pk' _ (by unfold MS; simp)
  refine ⟨pkS (pkS s2 60 0 41 0) 60 0 42 0, ?_, INV_MS h F2 (RS_52 (RS_52 (RS_ag h6 h8 h4 a2 (AG_symm hA)) (by omega) (by omega) _) (by omega) (by omega) _) ?_ ?_⟩
  · unfold f_M_takeBack
    rw [of_0, of_1, show nI 1 = bI true from rfl]
    rw [nI_0] at a1
    rw [a1]
    rfl
  · rw [pkS_v, if_neg (by omega), pkS_v, if_pos ⟨rfl, rfl, rfl⟩]
  · rw [pkS_v, if_pos ⟨rfl, rfl, rfl⟩]
