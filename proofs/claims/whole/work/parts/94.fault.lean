/-! ===== a sea's text: the fault of both sides ===== -/
section
variable {I T B R : Nat} {W : Option WF6} {s s0 s' t : S2} {tp : Nat → Nat} {n : Nat}
def cZ : CNT := fun _ => 0
theorem fm_r27 {D : Nat → Int32} : ∀ (m k fu : Nat) (t : S2), k + m = 4 → m < fu → FJ s cZ D 0 0 k t → ∃ t', MST s cZ cZ (fiD 0 0 D) 0 t' ∧ f_M_readSea_L27 fu (nI k) t = f_M_readSea_L54 FU (nI 0) (nI 1) t' := by
  have hc : cOK cZ := fun so _ => Nat.zero_le _
  intro m
  induction m with
  | zero =>
    intro k fu t hk hf h
    obtain ⟨g, rfl, -⟩ := suc_of hf
    have he := fj_end (so := 0) (by omega) hc (by rw [mx_v.1]; decide) (by rw [szn_v.1, ← hk]; exact h)
    refine ⟨t, ⟨he.1, he.2.1, he.2.2.1, he.2.2.2.1, fun so a k x1 x2 x3 => ?_⟩, ?_⟩
    · rcases x2 with x2 | x2
      · exact absurd x2 (Nat.not_lt_zero _)
      · exact he.2.2.2.2 so a k x1 (Or.inr x2) x3
    · show b_M_readSea_L27 _ _ _ = _
      unfold b_M_readSea_L27
      rw [of_4, if_pos (nI_le (by omega) (by omega)), of_1, show Int32.ofInt 0 = nI 0 from of_0]
  | succ m ih =>
    intro k fu t hk hf h
    obtain ⟨g, rfl, hg⟩ := suc_lt hf
    obtain ⟨h1, h2, h3, h4, h5, h6⟩ := h
    have hkz : k < szN 0 := by rw [szn_v.1]; omega
    obtain ⟨t', a1, a2⟩ := ih (k + 1) g (pkS t 71 0 k (lgD (kstat 0) k)) (by omega) hg ⟨h1.pk' _ rfl, by rw [pkS_v, if_neg (by omega)]; exact h2, by rw [pkS_v, if_neg (by omega)]; exact h3, ⟨by rw [pkS_v, if_neg (by omega)]; exact h4.1, by rw [pkS_v, if_neg (by omega)]; exact h4.2.1, by rw [pkS_v, if_neg (by omega)]; exact h4.2.2⟩, fun so' a' k' x1 x2 x3 x4 => by
        have : a' < 0 ∨ (so' = 0 ∧ a' = 0) := x3
        exact absurd (show so' = 0 ∧ a' = 0 by omega) x2, fun j hj => by
        show (pkS t 71 0 k (lgD (kstat 0) k)).1 71 0 (szN 0 * 0 + j) = lgD (kstat 0) (0 * 8 + j)
        rw [Nat.mul_zero, Nat.zero_mul, Nat.zero_add, pkS_v]
        by_cases e : j = k
        · rw [if_pos ⟨rfl, rfl, e⟩, e]
        · rw [if_neg (by omega)]
          have := h6 j (by omega)
          rw [show szN 0 * cZ 0 + j = j by show szN 0 * 0 + j = j; omega, Nat.zero_mul, Nat.zero_add] at this
          exact this⟩
    refine ⟨t', a1, ?_⟩
    have hu := us_at (so := 0) (s := t) (by omega) hkz
    rw [Nat.zero_mul, Nat.zero_add] at hu
    show b_M_readSea_L27 _ _ _ = _
    unfold b_M_readSea_L27
    rw [of_4, if_neg (nI_ge (by omega) (by omega)), ix_nI (n := 4) (k := k) (by omega) (by omega), Option.bind_some, Option.bind_some, of_119, show nI 119 = nI (ltrN 0) from rfl, hu, of_1, nI_add]
    exact a2
theorem fm_readSea (ht : TOK n tp) (hp : TPm n tp s) (D : Nat → Int32) : ∃ t' r, f_M_readSea s = some (t', r) ∧ SEm s t' r n (seaS tp n 20 cZ (sea0 D) 0) := by
  have hs : FJ s cZ D 0 0 0 (pkS (pkS (pkS (pkS (pkS s 60 0 3 (nI 0)) 60 0 4 (-1)) 60 0 21 (nI 0)) 60 0 22 (nI 0)) 60 0 23 (nI 0)) := by
    refine ⟨(((((Fr.pk rfl s (nI 0)).pk' _ rfl).pk' _ rfl).pk' _ rfl).pk' _ rfl), ?_, ?_, ⟨?_, ?_, ?_⟩, fun so' a' k' x1 x2 x3 x4 => ?_, fun j hj => absurd hj (by omega)⟩
    · simp [pkS_v]
    · simp [pkS_v]
    · simp [pkS_v, cZ]
    · simp [pkS_v, cZ]
    · simp [pkS_v, cZ]
    · have : a' < 0 ∨ (so' = 0 ∧ a' = 0) := x3
      exact absurd (show so' = 0 ∧ a' = 0 by omega) x2
  obtain ⟨t1, a1, a2⟩ := fm_r27 4 0 FU _ (by omega) (lt_FU (by omega)) hs
  obtain ⟨t', r, b1, b2⟩ := fm_seaL ht hp 20 FU 0 cZ (sea0 D) t1 (lt_FU (by omega)) (by omega) (by omega) (fun so _ => Nat.zero_le _) a1
  refine ⟨t', r, ?_, b2⟩
  unfold f_M_readSea
  rw [Option.bind_some, Option.bind_some, Option.bind_some, Option.bind_some, Option.bind_some, show Int32.ofInt 0 = nI 0 from of_0, of_m1, a2]
  exact b1
/-- what a reading may write, both sides -/
def Krd (c i k : Nat) : Bool := Kst c i k || Kmr c i k
theorem INV_rd (h : INV I T B R W s) (hF : Fr Krd s s') : INV I T B R W s' := by
  obtain ⟨h1, h2, h3, h4, h5, h6, h7, h8⟩ := h
  refine ⟨?_, ?_, ?_, ?_, ?_, ?_, ?_, ?_⟩
  · exact iSea_fr h1 hF (fun _ => ⟨rfl, rfl, rfl, rfl, rfl, rfl, rfl, rfl, rfl, rfl, rfl, rfl⟩) ⟨rfl, rfl, rfl, rfl, rfl, rfl, rfl⟩
  · exact HLD_fk h2 hF (fun _ => ⟨rfl, rfl, rfl, rfl, rfl, rfl⟩) (fun _ _ => ⟨rfl, rfl⟩) ⟨rfl, rfl⟩
  · exact iTape_fk h3 hF (fun _ => ⟨rfl, rfl⟩) ⟨rfl, rfl⟩
  · exact iRule_fk h4 hF (fun _ => ⟨rfl, rfl, rfl, rfl, rfl, rfl⟩) (fun _ _ => ⟨rfl, rfl⟩) ⟨rfl, rfl, rfl, rfl⟩
  · exact iPast_fk h5 hF (fun _ => ⟨rfl, rfl, rfl, rfl⟩) (fun _ _ => rfl) ⟨rfl, rfl⟩
  · exact iWea_fk h6 hF ⟨rfl, rfl, rfl, rfl⟩
  · exact iImg_fk h7 hF (fun _ => ⟨rfl, rfl⟩) ⟨rfl, rfl⟩
  · exact iCha_fk h8 hF (fun _ => ⟨rfl, rfl, rfl, rfl, rfl, rfl, rfl, rfl⟩) ⟨rfl, rfl⟩
theorem Krd_c {c i k : Nat} (h : Krd c i k = false) : Kst c i k = false ∧ Kmr c i k = false := by
  unfold Krd at h
  exact Bool.or_eq_false_iff.mp h
theorem fr_cst (h : Fr Kst s s') : Fr Krd s s' := h.mono fun _ _ _ hk => (Krd_c hk).1
theorem fr_mr (h : Fr Kmr s s') : Fr Krd s s' := h.mono fun _ _ _ hk => (Krd_c hk).2
theorem tpm_cst (h : Fr Kst s s') (hp : TPm n tp s) : TPm n tp s' := by
  unfold TPm at hp ⊢
  rw [h.1 60 0 2 rfl, h.arr (c := 61) (i := 0) fun _ => rfl]
  exact hp
/-- the fault in a sea's text -/
theorem q_fault0 (h : INV I T B R W s) : ∃ s1 r s2, f_D_fault 0 s = some (s1, r) ∧ f_M_fault 0 s1 = some (s2, r) ∧ INV I T B R W s2 := by
  obtain ⟨n, tp, ht, hpc, hpm⟩ := tape_of h.2.2.1
  have h240 := ht.1
  obtain ⟨t1, a1, a2⟩ := fc_seaRead ht hpc
  have hk : Fr Kst s t1 := by
    cases e : seaS tp n 20 (fun _ => 0) (sea0 (s.1 14 1)) 0 with
    | inl q => rw [e] at a2; obtain ⟨⟨c', D', g⟩, -⟩ := a2; exact g.1
    | inr q => rw [e] at a2; obtain ⟨j, g⟩ := a2; exact g.1
  obtain ⟨t2, r, b1, b2⟩ := fm_readSea ht (tpm_cst hk hpm) (s.1 14 1)
  have eM : f_M_fault 0 t1 = some (t2, r) := by
    unfold f_M_fault
    rw [if_pos rfl, b1, Option.bind_some]
  refine ⟨t1, r, t2, ?_, eM, ?_⟩
  · unfold f_D_fault
    rw [if_pos rfl, a1, Option.bind_some]
    cases e : seaS tp n 20 (fun _ => 0) (sea0 (s.1 14 1)) 0 with
    | inl q =>
      rw [show seaS tp n 20 cZ (sea0 (s.1 14 1)) 0 = Sum.inl q from e] at b2
      rw [e] at a2
      obtain ⟨⟨c', D', g⟩, -⟩ := a2
      rw [b2.2.1]
      show (if bI false = 0 then some (t1, g_Tape_place t1) else _) = _
      rw [ifF]
      unfold g_Tape_place
      rw [g.2.2.2]
    | inr q =>
      rw [show seaS tp n 20 cZ (sea0 (s.1 14 1)) 0 = Sum.inr q from e] at b2
      rw [b2.1]
      show (if bI true = 0 then _ else some (t1, Int32.ofInt (-1))) = _
      rw [ifT, of_m1]
  · refine INV_rd h ((fr_cst hk).trans (fr_mr ?_))
    cases e : seaS tp n 20 cZ (sea0 (s.1 14 1)) 0 with
    | inl q => rw [e] at b2; exact b2.2.2
    | inr q => rw [e] at b2; exact b2.2.1
end
