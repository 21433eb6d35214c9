/-! more of the class's small methods -/
/-- the first place from a on, n places at most, where p holds; a + n if none -/
def ff (p : Nat → Bool) : Nat → Nat → Nat
  | a, 0 => a
  | a, n + 1 => if p a then a else ff p (a + 1) n
theorem ff_spec (p : Nat → Bool) : ∀ (n a : Nat), a ≤ ff p a n ∧ ff p a n ≤ a + n ∧ (∀ j, a ≤ j → j < ff p a n → p j = false) ∧ (ff p a n < a + n → p (ff p a n) = true)
  | 0, a => ⟨Nat.le_refl _, Nat.le_refl _, fun j h1 h2 => absurd h2 (by show ¬ j < a; omega), fun h => absurd h (by show ¬ a < a + 0; omega)⟩
  | n + 1, a => by
    by_cases hp : p a = true
    · have e : ff p a (n + 1) = a := if_pos hp
      rw [e]
      exact ⟨Nat.le_refl _, by omega, fun j h1 h2 => by omega, fun _ => hp⟩
    · have e : ff p a (n + 1) = ff p (a + 1) n := if_neg hp
      obtain ⟨h1, h2, h3, h4⟩ := ff_spec p n (a + 1)
      rw [e]
      refine ⟨by omega, by omega, fun j j1 j2 => ?_, fun h => h4 (by omega)⟩
      by_cases hj : j = a
      · subst hj; exact Bool.not_eq_true _ |>.mp hp
      · exact h3 j (by omega) j2
theorem ff_eq {p : Nat → Bool} {n a x : Nat} (h1 : a ≤ x) (h2 : x ≤ a + n) (h3 : ∀ j, a ≤ j → j < x → p j = false) (h4 : x < a + n → p x = true) : ff p a n = x := by
  obtain ⟨g1, g2, g3, g4⟩ := ff_spec p n a
  rcases Nat.lt_trichotomy (ff p a n) x with h | h | h
  · have := g4 (by omega); rw [h3 _ g1 h] at this; cases this
  · exact h
  · have := h4 (by omega); rw [g3 _ h1 h] at this; cases this
/-- a loop that ends where p first holds -/
theorem loop_find {α β : Type} (f : Nat → α → Option β) (B : (α → Option β) → α → Option β) (hf : ∀ n s, f (n + 1) s = B (f n) s) (s : Nat → α) (p : Nat → Bool) (b : Nat) (r : Nat → Option β) {c : Nat}
    (hstep : ∀ i, c ≤ i → i < b → ∀ k, B k (s i) = if p i then r i else k (s (i + 1))) (hend : ∀ k, B k (s b) = r b) : ∀ (m n a : Nat), c ≤ a → a + m = b → m < n → f n (s a) = r (ff p a m) := by
  intro m
  induction m with
  | zero =>
    intro n a hc h1 h2
    obtain ⟨n, rfl⟩ : ∃ n', n = n' + 1 := ⟨n - 1, by omega⟩
    have : a = b := by omega
    subst this
    rw [hf]
    exact hend _
  | succ m ih =>
    intro n a hc h1 h2
    obtain ⟨n, rfl⟩ : ∃ n', n = n' + 1 := ⟨n - 1, by omega⟩
    rw [hf, hstep a hc (by omega)]
    show _ = r (if p a then a else ff p (a + 1) m)
    by_cases hp : p a = true
    · rw [if_pos hp, if_pos hp]
    · rw [if_neg hp, if_neg hp]
      exact ih n (a + 1) (by omega) (by omega) (by omega)
section CLeaf2
variable {d : DB} {q : SS}
theorem c_roundedUp {a b : Nat} (hb : 1 ≤ b) (h : a + b < 2 ^ 31) : f5_roundedUp (nI a) (nI b) = some (nI ((a + b - 1) / b)) := by
  unfold f5_roundedUp
  simp (disch := omega) only [bd_s, bd2_s, bn_e, ck_nI, dz_nI, cz_0, cz_1, ix_nI, le_t, le_f, lt_t, lt_f, eq_t, eq_f, if_true, if_false, nI_add, pk_sub, pk_mul, pk_div, li0, li1, li2, li3, li4, li5, li6, li7, li8, li9, li10, li12, li15, li16, li20, li21, li24, li31, li32, li40, li41, li48, li53, li55, li56, li57, li63, li64, li100, li108, li112, li115, li126, li127, li255, li256, li576, li384]
theorem two_pow_T (hw : WF d) : 2 ^ dT d ≤ 64 := Nat.pow_le_pow_right (n := 2) (by decide) hw.1
theorem two_pow_T1 (hw : WF d) : 1 ≤ 2 ^ dT d := Nat.one_le_two_pow
theorem shl1_T (hw : WF d) : jshl 1 (nI (dT d)) = nI (2 ^ dT d) := by
  have h := two_pow_T hw
  have hT := hw.1
  rw [li1, shl_nI (by omega) (by omega), Nat.one_mul]
theorem c_isSet (hw : WF d) (h : RC d q) {s : Nat} (h1 : 1 ≤ s) (h2 : s < 2 ^ dT d) : f7_isSet q (nI s) = some 1 := by
  have h3 := two_pow_T hw
  unfold f7_isSet
  rw [h.2.1, shl1_T hw]
  simp (disch := omega) only [bd_s, bd2_s, bn_e, ck_nI, dz_nI, cz_0, cz_1, ix_nI, le_t, le_f, lt_t, lt_f, eq_t, eq_f, if_true, if_false, nI_add, pk_sub, pk_mul, pk_div, li0, li1, li2, li3, li4, li5, li6, li7, li8, li9, li10, li12, li15, li16, li20, li21, li24, li31, li32, li40, li41, li48, li53, li55, li56, li57, li63, li64, li100, li108, li112, li115, li126, li127, li255, li256, li576, li384]
theorem scase (x : Int32) {n : Nat} (hn : n < 2 ^ 31) : (∃ s, 1 ≤ s ∧ s < n ∧ x = nI s) ∨ (x < 1 ∨ (¬ x < 1 ∧ nI n ≤ x)) := by
  by_cases h0 : x < 1
  · exact Or.inr (Or.inl h0)
  · rcases pk_ix x hn with h | h | ⟨j, h1, h2⟩
    · rw [Int32.lt_iff_toInt_lt] at h h0
      have e1 : (1 : Int32).toInt = 1 := by decide
      have e0 : (0 : Int32).toInt = 0 := by decide
      omega
    · exact Or.inr (Or.inr ⟨h0, h⟩)
    · refine Or.inl ⟨j, ?_, h1, h2⟩
      rcases Nat.eq_zero_or_pos j with h3 | h3
      · subst h3; subst h2; exact absurd (show nI 0 < 1 by decide) h0
      · exact h3
theorem c_isSet_f (hw : WF d) (h : RC d q) {x : Int32} (hx : x < 1 ∨ (¬ x < 1 ∧ nI (2 ^ dT d) ≤ x)) : f7_isSet q x = some 0 := by
  unfold f7_isSet
  rw [h.2.1, shl1_T hw]
  rcases hx with hx | ⟨h1, h2⟩
  · rw [if_pos hx]
  · rw [if_neg h1, if_pos h2]
/-- the rows of t rise by l -/
def rise (d : DB) (t l : Nat) : Bool := decide (∀ i, i < dR d t → 1 ≤ i → dV d t (i - 1) l ≤ dV d t i l)
theorem c_rowsRise_s (hw : WF d) (h : RC d q) {N t l i : Nat} (ht : t < dT d) (hl : l < 8) (hb : (dL d t).testBit l = true) (hi1 : 1 ≤ i) (hi2 : i < dR d t) (k : Int32 → Int32 → Int32 → Option Int32) :
    f7_rowsRise_l2_B N q k (nI t) (nI l) (nI i) = if decide (dV d t i l < dV d t (i - 1) l) then some 0 else k (nI t) (nI l) (nI (i + 1)) := by
  have hT := hw.1
  have hR := (hw.2.1 t ht).2.2.2.2.2
  have hc : ∀ i, cdf d t i l = dV d t i l := fun i => if_pos hb
  have e1 := c_codeAt hw h ht hi2
  have e2 := c_codeAt hw h ht (show i - 1 < dR d t by omega)
  have e3 := c_rowsOf hw h (t := t) (by omega)
  have e4 := c_number hw (t := t) (i := i) hl
  have e5 := c_number hw (t := t) (i := i - 1) hl
  rw [hc] at e4 e5
  have v1 := hw.2.2.2.1 t i l
  have v2 := hw.2.2.2.1 t (i - 1) l
  unfold f7_rowsRise_l2_B
  by_cases hc1 : dV d t i l < dV d t (i - 1) l
  · rw [decide_eq_true hc1]
    simp (disch := omega) only [bd_s, bd2_s, bn_e, ck_nI, dz_nI, cz_0, cz_1, ix_nI, le_t, le_f, lt_t, lt_f, eq_t, eq_f, if_true, if_false, nI_add, pk_sub, pk_mul, pk_div, e1, e2, e3, e4, e5, li0, li1, li2, li3, li4, li5, li6, li7, li8, li9, li10, li12, li15, li16, li20, li21, li24, li31, li32, li40, li41, li48, li53, li55, li56, li57, li63, li64, li100, li108, li112, li115, li126, li127, li255, li256, li576, li384]
  · rw [decide_eq_false hc1]
    simp (disch := omega) only [bd_s, bd2_s, bn_e, ck_nI, dz_nI, cz_0, cz_1, ix_nI, le_t, le_f, lt_t, lt_f, eq_t, eq_f, if_true, if_false, nI_add, pk_sub, pk_mul, pk_div, e1, e2, e3, e4, e5, Bool.false_eq_true, li0, li1, li2, li3, li4, li5, li6, li7, li8, li9, li10, li12, li15, li16, li20, li21, li24, li31, li32, li40, li41, li48, li53, li55, li56, li57, li63, li64, li100, li108, li112, li115, li126, li127, li255, li256, li576, li384]
theorem c_rowsRise_e (hw : WF d) (h : RC d q) {N t l i : Nat} (ht : t < dT d) (hi : dR d t ≤ i) (hi2 : i < 2 ^ 31) (k : Int32 → Int32 → Int32 → Option Int32) :
    f7_rowsRise_l2_B N q k (nI t) (nI l) (nI i) = some 1 := by
  have hT := hw.1
  have e3 := c_rowsOf hw h (t := t) (by omega)
  unfold f7_rowsRise_l2_B
  simp (disch := omega) only [bd_s, bd2_s, bn_e, ck_nI, dz_nI, cz_0, cz_1, ix_nI, le_t, le_f, lt_t, lt_f, eq_t, eq_f, if_true, if_false, nI_add, pk_sub, pk_mul, pk_div, e3, li0, li1, li2, li3, li4, li5, li6, li7, li8, li9, li10, li12, li15, li16, li20, li21, li24, li31, li32, li40, li41, li48, li53, li55, li56, li57, li63, li64, li100, li108, li112, li115, li126, li127, li255, li256, li576, li384]
theorem c_rowsRise (hw : WF d) (h : RC d q) {N t l : Nat} (hN : 1000 ≤ N) (ht : t < dT d) (hl : l < 8) (hb : (dL d t).testBit l = true) : f7_rowsRise N q (nI t) (nI l) = some (nI (rise d t l).toNat) := by
  have hR := (hw.2.1 t ht).2.2.2.2.2
  have key := loop_find (fun n (p : Int32 × Int32 × Int32) => f7_rowsRise_l2 N q n p.1 p.2.1 p.2.2) (fun k p => f7_rowsRise_l2_B N q (fun a b c => k (a, b, c)) p.1 p.2.1 p.2.2) (fun n p => rfl) (fun i => (nI t, nI l, nI i)) (fun i => decide (dV d t i l < dV d t (i - 1) l)) (max 1 (dR d t)) (fun i => if i = max 1 (dR d t) then some 1 else some 0) (c := 1) (fun i hi1 hi k => by
    have hne : ¬ i = max 1 (dR d t) := by omega
    rw [if_neg hne]
    exact c_rowsRise_s hw h ht hl hb hi1 (by omega) _) (fun k => by
    rw [if_pos rfl]
    exact c_rowsRise_e hw h ht (by omega) (by omega) _) (max 1 (dR d t) - 1) N 1 (Nat.le_refl _) (by omega) (by omega)
  obtain ⟨g1, g2, g3, g4⟩ := ff_spec (fun i => decide (dV d t i l < dV d t (i - 1) l)) (max 1 (dR d t) - 1) 1
  generalize ff (fun i => decide (dV d t i l < dV d t (i - 1) l)) 1 (max 1 (dR d t) - 1) = x at g1 g2 g3 g4 key
  refine Eq.trans (key : f7_rowsRise N q (nI t) (nI l) = _) ?_
  by_cases hx : x = max 1 (dR d t)
  · have hr : rise d t l = true := decide_eq_true (fun i h1 h2 => by
      have := g3 i h2 (by omega)
      simp only [decide_eq_false_iff_not] at this
      omega)
    rw [if_pos hx, hr]
    rfl
  · have hr : rise d t l = false := decide_eq_false (fun e => by
      have h5 := g4 (by omega)
      simp only [decide_eq_true_eq] at h5
      have := e x (by omega) g1
      omega)
    rw [if_neg hx, hr]
    rfl
end CLeaf2
