/-! ===== further ties: their order, those within one head ===== -/
section
variable {I T B R : Nat} {W : Option WF6} {s s0 : S2} {w v : Nat → Int32} {on : Nat → Bool}
def deS (v : Nat → Int32) (a b : Nat) (X : Int32) (k : Nat) : Int32 := (if k = hdS v a then X else 0) + (if k = hdS v b then -X else 0)
theorem upd_de {f : Nat → Int32} {a b : Nat} (h : ¬ a = b) (X : Int32) : upd (upd f a (f a + X)) b (upd f a (f a + X) b - X) = fun k => f k + ((if k = a then X else 0) + (if k = b then -X else 0)) := by
  funext k
  unfold upd
  by_cases c1 : k = b
  · rw [if_pos c1, if_neg (fun z => h z.symm), c1, if_neg (fun z => h z.symm), if_pos rfl, Int32.zero_add, Int32.sub_eq_add_neg]
  · rw [if_neg c1, if_neg c1, Int32.add_zero]
    by_cases c2 : k = a
    · rw [if_pos c2, if_pos c2, c2]
    · rw [if_neg c2, if_neg c2, Int32.add_zero]
theorem adS_add (v : Nat → Int32) (a b : Nat) (p : Int32) : ∃ f g : Nat → Int32, ∀ d : D2, adS v a b p d = (fun k => d.1 k + f k, fun k => d.2 k + g k) := by
  by_cases c : apS v a b = 0
  · refine ⟨fun _ => 0, fun _ => 0, fun d => ?_⟩
    unfold adS
    rw [if_pos c]
    simp only [Int32.add_zero]
  · have hn : ¬ hdS v a = hdS v b := fun z => c (apS_comm v a b z)
    refine ⟨?_, ?_, fun d => ?_⟩
    · exact fun k => (if k = hdS v a then p * (v (hdS v b) - v (hdS v a)) / apS v a b else 0) + (if k = hdS v b then -(p * (v (hdS v b) - v (hdS v a)) / apS v a b) else 0)
    · exact fun k => (if k = hdS v a then p * (v (6 + hdS v b) - v (6 + hdS v a)) / apS v a b else 0) + (if k = hdS v b then -(p * (v (6 + hdS v b) - v (6 + hdS v a)) / apS v a b) else 0)
    · unfold adS
      rw [if_neg c, upd_de hn, upd_de hn]
/-- how a further bargain draws -/
def stL (W : Option WF6) (v : Nat → Int32) (st : Int32) (d : D2) (c : Nat) : D2 := adS v (c / 10) (c % 10) (plS W v (c / 10) (c % 10) 0 st) d
theorem stL_comm (v : Nat → Int32) (st : Int32) (d : D2) (a b : Nat) : stL W v st (stL W v st d a) b = stL W v st (stL W v st d b) a := by
  unfold stL
  obtain ⟨f, g, h1⟩ := adS_add v (a / 10) (a % 10) (plS W v (a / 10) (a % 10) 0 st)
  obtain ⟨f', g', h2⟩ := adS_add v (b / 10) (b % 10) (plS W v (b / 10) (b % 10) 0 st)
  rw [h1, h2, h2, h1]
  have key : ∀ x y z : Int32, x + y + z = x + z + y := fun x y z => by rw [Int32.add_assoc, Int32.add_comm y z, Int32.add_assoc]
  refine Prod.ext (funext fun k => ?_) (funext fun k => ?_)
  · exact key _ _ _
  · exact key _ _ _
theorem fold_in {f : D2 → Nat → D2} (hc : ∀ d a b, f (f d a) b = f (f d b) a) : ∀ (l : List Nat) (d : D2) (c : Nat), l.foldl f (f d c) = f (l.foldl f d) c := by
  intro l
  induction l with
  | nil => intro d c; rfl
  | cons a l ih =>
    intro d c
    show l.foldl f (f (f d c) a) = f (l.foldl f (f d a)) c
    rw [hc, ih]
theorem fold_rev {f : D2 → Nat → D2} (hc : ∀ d a b, f (f d a) b = f (f d b) a) : ∀ (l : List Nat) (d : D2), l.reverse.foldl f d = l.foldl f d := by
  intro l
  induction l with
  | nil => intro d; rfl
  | cons a l ih =>
    intro d
    rw [List.reverse_cons, List.foldl_append, ih]
    show f (l.foldl f d) a = l.foldl f (f d a)
    rw [fold_in hc]
theorem fold_er {f : D2 → Nat → D2} {c : Nat} (hc : ∀ d, f d c = d) : ∀ (l : List Nat) (d : D2), (l.erase c).foldl f d = l.foldl f d := by
  intro l
  induction l with
  | nil => intro d; rfl
  | cons a l ih =>
    intro d
    by_cases e : a = c
    · rw [e, List.erase_cons_head]
      show l.foldl f d = l.foldl f (f d c)
      rw [hc]
    · rw [List.erase_cons_tail (by simp [e])]
      show (l.erase c).foldl f (f d a) = l.foldl f (f d a)
      exact ih _
def xlS (st : Int32) (R : List Nat) : XT := fun j => (R.getD j 0 / 10, R.getD j 0 % 10, 0, st)
theorem exS_fold (v : Nat → Int32) (st : Int32) (R : List Nat) (d : D2) : ∀ k, k ≤ R.length → exS W v (xlS st R) d k = (R.take k).foldl (stL W v st) d := by
  intro k
  induction k with
  | zero => intro _; rfl
  | succ k ih =>
    intro hk
    have hk' : k < R.length := hk
    show adS v ((xlS st R) k).1 ((xlS st R) k).2.1 (plS W v ((xlS st R) k).1 ((xlS st R) k).2.1 ((xlS st R) k).2.2.1 ((xlS st R) k).2.2.2) (exS W v (xlS st R) d k) = _
    rw [ih (by omega), List.take_succ_eq_append_getElem hk', List.foldl_append]
    show adS v (R.getD k 0 / 10) (R.getD k 0 % 10) (plS W v (R.getD k 0 / 10) (R.getD k 0 % 10) 0 st) _ = stL W v st _ (R[k])
    rw [show R.getD k 0 = R[k] by rw [List.getD_eq_getElem?_getD, List.getElem?_eq_getElem hk', Option.getD_some]]
    rfl
theorem exS_all (v : Nat → Int32) (st : Int32) (R : List Nat) (d : D2) : exS W v (xlS st R) d R.length = R.foldl (stL W v st) d := by
  rw [exS_fold v st R d R.length (Nat.le_refl _), List.take_length]
theorem seX_cong {x x' : XT} {e e' : Nat} (h : ∀ k d, exS W (seX I T B W on x e w v k) x d e = exS W (seX I T B W on x e w v k) x' d e') : ∀ k, seX I T B W on x' e' w v k = seX I T B W on x e w v k := by
  intro k
  induction k with
  | zero => rfl
  | succ k ih =>
    show (psS I T B W (seX I T B W on x' e' w v k) w on x' e').1 = (psS I T B W (seX I T B W on x e w v k) w on x e).1
    rw [ih]
    unfold psS drS dtS
    rw [h k]
theorem hd_jl {u : Nat → Int32} {a b : Nat} (ha : a < I) (hb : b < I) : ∀ (n : Nat) (q : (Nat → Int32) × Int32), VS I q.1 → hdS q.1 a = hdS q.1 b → hdS (jlS I w u n q).1 a = hdS (jlS I w u n q).1 b := by
  intro n
  induction n with
  | zero => intro q _ h; exact h
  | succ n ih =>
    intro q hv h
    show hdS (match npS I w q.1 with
      | none => q
      | some ab => jlS I w u n (jnS w u q.1 ab.1 ab.2, q.2 + nI 1)).1 a = hdS (match npS I w q.1 with
      | none => q
      | some ab => jlS I w u n (jnS w u q.1 ab.1 ab.2, q.2 + nI 1)).1 b
    cases c : npS I w q.1 with
    | none => exact h
    | some ab =>
      obtain ⟨x, y⟩ := ab
      obtain ⟨g1, g2, g3, -⟩ := npS_some c
      refine ih _ (VS_jn hv g1 g2 g3) ?_
      show hdS (jnS w u q.1 x y) a = hdS (jnS w u q.1 x y) b
      rw [jnS_hd hv (by omega) g2 a ha, jnS_hd hv (by omega) g2 b hb, h]
theorem hd_ps {x : XT} {e a b : Nat} (hv : VS I v) (ha : a < I) (hb : b < I) (h : hdS v a = hdS v b) : hdS (psS I T B W v w on x e).1 a = hdS (psS I T B W v w on x e).1 b := by
  have h6 := hv.1
  have h1 := hd_jl (w := w) (u := v) ha hb 6 (mvS I v (drS I T W v w on x e) 6, 0) (VS_mv hv 6 (Nat.le_refl 6)) (by
    show hdS (mvS I v (drS I T W v w on x e) 6) a = hdS (mvS I v (drS I T W v w on x e) 6) b
    rw [hdS_of (fun j h1 _ => mvS_hi h1 6 (Nat.le_refl 6)) (show a < 6 by omega), hdS_of (fun j h1 _ => mvS_hi h1 6 (Nat.le_refl 6)) (show b < 6 by omega), h])
  have key : ∀ j, j < 6 → hdS (psS I T B W v w on x e).1 j = hdS (jlS I w v 6 (mvS I v (drS I T W v w on x e) 6, 0)).1 j := fun j hj => hdS_of (fun i h1 h2 => by
    show upd _ 42 _ i = _
    rw [upd_ne _ _ (by omega), snS_o (Or.inl (by omega))]) hj
  rw [key a (by omega), key b (by omega), h1]
theorem hd_sx {x : XT} {e a b : Nat} (hv : VS I v) (ha : a < I) (hb : b < I) (h : hdS v a = hdS v b) : ∀ k, hdS (seX I T B W on x e w v k) a = hdS (seX I T B W on x e w v k) b
  | 0 => h
  | k + 1 => hd_ps (VS_sx hv k) ha hb (hd_sx hv ha hb h k)
/-- seasons with bargains of a row -/
def seR (I T B : Nat) (W : Option WF6) (w v : Nat → Int32) (st : Int32) (R : List Nat) (k : Nat) : Nat → Int32 := seX I T B W onA (xlS st R) R.length w v k
theorem seR_rev (st : Int32) (L : List Nat) (k : Nat) : seX I T B W onA (xlS st L.reverse) L.reverse.length w v k = seR I T B W w v st L k := by
  refine seX_cong (fun j d => ?_) k
  rw [exS_all, exS_all, fold_rev (stL_comm _ st)]
theorem seR_er (st : Int32) (L : List Nat) (c k : Nat) (hv : VS I v) (ha : c / 10 < I) (hb : c % 10 < I) (h : hdS v (c / 10) = hdS v (c % 10)) : seR I T B W w v st (L.erase c) k = seR I T B W w v st L k := by
  refine seX_cong (fun j d => ?_) k
  rw [exS_all, exS_all, fold_er]
  intro d'
  unfold stL adS
  rw [if_pos (apS_comm _ _ _ (hd_sx hv ha hb h j))]
/-- rows of so many pairs -/
def cmb : Nat → List Nat → List (List Nat)
  | 0, _ => [[]]
  | _ + 1, [] => []
  | m + 1, c :: cs => (cmb m cs).map (c :: ·) ++ cmb (m + 1) cs
theorem cmb_0 (l : List Nat) : cmb 0 l = [[]] := by cases l <;> rfl
theorem cmb_mem : ∀ (l : List Nat) (m : Nat) (r : List Nat), r ∈ cmb m l ↔ r.Sublist l ∧ r.length = m := by
  intro l
  induction l with
  | nil =>
    intro m r
    cases m with
    | zero =>
      show r ∈ [[]] ↔ _
      rw [List.mem_singleton, List.sublist_nil]
      constructor
      · intro h; exact ⟨h, by rw [h]; rfl⟩
      · intro h; exact h.1
    | succ m =>
      show r ∈ [] ↔ _
      constructor
      · intro h; cases h
      · intro ⟨h1, h2⟩
        rw [List.sublist_nil.mp h1] at h2
        cases h2
  | cons c cs ih =>
    intro m r
    cases m with
    | zero =>
      show r ∈ [[]] ↔ _
      rw [List.mem_singleton]
      constructor
      · intro h; rw [h]; exact ⟨List.nil_sublist _, rfl⟩
      · intro h; exact List.eq_nil_of_length_eq_zero h.2
    | succ m =>
      show r ∈ (cmb m cs).map (c :: ·) ++ cmb (m + 1) cs ↔ _
      rw [List.mem_append, List.mem_map]
      constructor
      · rintro (⟨q, h1, rfl⟩ | h)
        · obtain ⟨g1, g2⟩ := (ih m q).mp h1
          exact ⟨g1.cons_cons c, by rw [List.length_cons, g2]⟩
        · obtain ⟨g1, g2⟩ := (ih (m + 1) r).mp h
          exact ⟨g1.cons c, g2⟩
      · intro ⟨h1, h2⟩
        cases h1 with
        | cons _ h => exact Or.inr ((ih (m + 1) r).mpr ⟨h, h2⟩)
        | cons_cons _ h =>
          rename_i q
          exact Or.inl ⟨q, (ih m q).mpr ⟨h, Nat.succ.inj h2⟩, rfl⟩
theorem cmb_filter (p : Nat → Bool) : ∀ (l : List Nat) (m : Nat), cmb m (l.filter p) = (cmb m l).filter (fun r => r.all p) := by
  intro l
  induction l with
  | nil =>
    intro m
    cases m with
    | zero => rfl
    | succ m => rfl
  | cons c cs ih =>
    intro m
    cases m with
    | zero =>
      rw [cmb_0, cmb_0]; rfl
    | succ m =>
      show _ = ((cmb m cs).map (c :: ·) ++ cmb (m + 1) cs).filter _
      rw [List.filter_append, List.filter_map]
      cases h : p c with
      | true =>
        rw [List.filter_cons_of_pos h]
        show (cmb m (cs.filter p)).map (c :: ·) ++ cmb (m + 1) (cs.filter p) = _
        rw [ih, ih]
        congr 2
        apply List.filter_congr
        intro r _
        show r.all p = (c :: r).all p
        rw [List.all_cons, h, Bool.true_and]
      | false =>
        rw [List.filter_cons_of_neg (by simp [h]), ih]
        have : (cmb m cs).filter ((fun r => r.all p) ∘ (c :: ·)) = [] := by
          rw [List.filter_eq_nil_iff]
          intro r _
          show ¬ (c :: r).all p = true
          rw [List.all_cons, h]
          simp
        rw [this]
        rfl
theorem find_filter {α : Type} (g f : α → Bool) : ∀ l : List α, (∀ x, x ∈ l → f x = false → g x = false) → l.find? g = (l.filter f).find? g := by
  intro l
  induction l with
  | nil => intro _; rfl
  | cons c cs ih =>
    intro h
    have ih' := ih fun x hx => h x (List.mem_cons_of_mem c hx)
    cases k : f c with
    | true =>
      rw [List.filter_cons_of_pos k, List.find?_cons, List.find?_cons, ih']
    | false =>
      have := h c List.mem_cons_self k
      rw [List.filter_cons_of_neg (by simp [k]), List.find?_cons, this, ih']
end
