/-! the class's small methods -/
section CLeaf
variable {d : DB} {q : SS}
theorem cdf_lt (hw : WF d) (t i l : Nat) : cdf d t i l < 16 := by
  unfold cdf
  have := hw.2.2.2.1 t i l
  split <;> omega
theorem cd_lt (hw : WF d) (t i : Nat) : cd d t i < 2 ^ 32 := nib_lt (cdf_lt hw t i) 8
theorem c_holds (hw : WF d) (h : RC d q) {t : Nat} (ht : t < dT d) : f7_holds q (nI t) = some 1 := by
  have hT := hw.1
  unfold f7_holds
  rw [h.2.1]
  simp (disch := omega) only [bd_s, bd2_s, bn_e, ck_nI, dz_nI, cz_0, cz_1, ix_nI, le_t, le_f, lt_t, lt_f, eq_t, eq_f, if_true, if_false, nI_add, pk_sub, pk_mul, pk_div, li0, li1, li2, li3, li4, li5, li6, li7, li8, li9, li10, li12, li15, li16, li20, li21, li24, li31, li32, li40, li41, li48, li53, li55, li56, li57, li63, li64, li100, li108, li112, li115, li126, li127, li255, li256, li576, li384]
theorem c_holds_f (h : RC d q) {x : Int32} (hx : x < 0 ∨ (¬ x < 0 ∧ nI (dT d) ≤ x)) : f7_holds q x = some 0 := by
  unfold f7_holds
  rw [h.2.1]
  rcases hx with hx | ⟨h1, h2⟩
  · rw [if_pos hx]
  · rw [if_neg h1, if_pos h2]
theorem c_lettersOf (hw : WF d) (h : RC d q) {t : Nat} (ht : t < dT d) : f7_lettersOf q (nI t) = some (nI (dL d t)) := by
  have hT := hw.1
  have h1 := (h.2.2.2.2.2.1 t ht).1
  unfold f7_lettersOf
  rw [h.2.1]
  simp (disch := omega) only [bd_s, bd2_s, bn_e, ck_nI, dz_nI, cz_0, cz_1, ix_nI, le_t, le_f, lt_t, lt_f, eq_t, eq_f, if_true, if_false, nI_add, pk_sub, pk_mul, pk_div, h1, li0, li1, li2, li3, li4, li5, li6, li7, li8, li9, li10, li12, li15, li16, li20, li21, li24, li31, li32, li40, li41, li48, li53, li55, li56, li57, li63, li64, li100, li108, li112, li115, li126, li127, li255, li256, li576, li384]
theorem c_perOf (hw : WF d) (h : RC d q) {t : Nat} (ht : t < dT d) : f7_perOf q (nI t) = some (nI (dP d t)) := by
  have hT := hw.1
  have h1 := (h.2.2.2.2.2.1 t ht).2
  unfold f7_perOf
  rw [h.2.1]
  simp (disch := omega) only [bd_s, bd2_s, bn_e, ck_nI, dz_nI, cz_0, cz_1, ix_nI, le_t, le_f, lt_t, lt_f, eq_t, eq_f, if_true, if_false, nI_add, pk_sub, pk_mul, pk_div, h1, li0, li1, li2, li3, li4, li5, li6, li7, li8, li9, li10, li12, li15, li16, li20, li21, li24, li31, li32, li40, li41, li48, li53, li55, li56, li57, li63, li64, li100, li108, li112, li115, li126, li127, li255, li256, li576, li384]
theorem c_rowsOf (hw : WF d) (h : RC d q) {t : Nat} (ht : t < 2 ^ 31) : f7_rowsOf q (nI t) = some (nI (dR d t)) := by
  have hT := hw.1
  unfold f7_rowsOf
  rw [h.2.1]
  by_cases htT : t < dT d
  · have h1 := h.2.2.2.2.2.2.1 t (by omega)
    simp (disch := omega) only [bd_s, bd2_s, bn_e, ck_nI, dz_nI, cz_0, cz_1, ix_nI, le_t, le_f, lt_t, lt_f, eq_t, eq_f, if_true, if_false, nI_add, pk_sub, pk_mul, pk_div, h1, li0, li1, li2, li3, li4, li5, li6, li7, li8, li9, li10, li12, li15, li16, li20, li21, li24, li31, li32, li40, li41, li48, li53, li55, li56, li57, li63, li64, li100, li108, li112, li115, li126, li127, li255, li256, li576, li384]
  · have h1 := hw.2.2.1 t (by omega)
    simp (disch := omega) only [bd_s, bd2_s, bn_e, ck_nI, dz_nI, cz_0, cz_1, ix_nI, le_t, le_f, lt_t, lt_f, eq_t, eq_f, if_true, if_false, nI_add, pk_sub, pk_mul, pk_div, h1, li0, li1, li2, li3, li4, li5, li6, li7, li8, li9, li10, li12, li15, li16, li20, li21, li24, li31, li32, li40, li41, li48, li53, li55, li56, li57, li63, li64, li100, li108, li112, li115, li126, li127, li255, li256, li576, li384]
theorem c_rowsOf_f (h : RC d q) {x : Int32} (hx : x < 0 ∨ (¬ x < 0 ∧ nI (dT d) ≤ x)) : f7_rowsOf q x = some 0 := by
  unfold f7_rowsOf
  rw [h.2.1]
  rcases hx with hx | ⟨h1, h2⟩
  · rw [if_pos hx]
  · rw [if_neg h1, if_pos h2]
theorem c_codeAt (hw : WF d) (h : RC d q) {t i : Nat} (ht : t < dT d) (hi : i < dR d t) : f7_codeAt q (nI t) (nI i) = some (nI (cd d t i)) := by
  have hT := hw.1
  have hR := (hw.2.1 t ht).2.2.2.2.2
  have h1 := h.2.2.2.2.2.2.1 t (by omega)
  have h2 := h.2.2.2.2.2.2.2.1 t i ht hi
  unfold f7_codeAt f7_codeAt_b30 f7_codeAt_b31
  rw [h.2.1]
  simp (disch := omega) only [bd_s, bd2_s, bn_e, ck_nI, dz_nI, cz_0, cz_1, ix_nI, le_t, le_f, lt_t, lt_f, eq_t, eq_f, if_true, if_false, nI_add, pk_sub, pk_mul, pk_div, h1, Nat.mul_comm t 8, h2, li0, li1, li2, li3, li4, li5, li6, li7, li8, li9, li10, li12, li15, li16, li20, li21, li24, li31, li32, li40, li41, li48, li53, li55, li56, li57, li63, li64, li100, li108, li112, li115, li126, li127, li255, li256, li576, li384]
theorem c_codeAt_f (hw : WF d) (h : RC d q) {t i : Nat} (ht : t < dT d) (hi : dR d t ≤ i) (hi2 : i < 2 ^ 31) : f7_codeAt q (nI t) (nI i) = some 0 := by
  have hT := hw.1
  have h1 := h.2.2.2.2.2.2.1 t (by omega)
  unfold f7_codeAt f7_codeAt_b30 f7_codeAt_b31
  rw [h.2.1]
  simp (disch := omega) only [bd_s, bd2_s, bn_e, ck_nI, dz_nI, cz_0, cz_1, ix_nI, le_t, le_f, lt_t, lt_f, eq_t, eq_f, if_true, if_false, nI_add, pk_sub, pk_mul, pk_div, h1, li0, li1, li2, li3, li4, li5, li6, li7, li8, li9, li10, li12, li15, li16, li20, li21, li24, li31, li32, li40, li41, li48, li53, li55, li56, li57, li63, li64, li100, li108, li112, li115, li126, li127, li255, li256, li576, li384]
theorem c_number (hw : WF d) {t i l : Nat} (hl : l < 8) : f4_numberIn (nI (cd d t i)) (nI l) = some (nI (cdf d t i l)) := by
  have h1 := cd_lt hw t i
  have h2 := nib_get (cdf_lt hw t i) (n := 8) hl
  unfold f4_numberIn
  have h3 : cd d t i / 2 ^ (4 * l) < 2 ^ 32 := Nat.lt_of_le_of_lt (Nat.div_le_self _ _) h1
  rw [li4, pk_mul, ushr_nI h1 (by omega), li15, and_nI h3 (by decide)]
  unfold cd
  rw [h2]
theorem has_nI {a l : Nat} (ha : a < 256) (hl : l < 32) : jshr (nI a) (nI l) &&& 1 = nI (a.testBit l).toNat := bit_nI (by omega) hl
theorem c_has (hw : WF d) (h : RC d q) {t l : Nat} (ht : t < dT d) (hl : l < 8) : f7_hasLetter q (nI t) (nI l) = some (nI ((dL d t).testBit l).toNat) := by
  have hT := hw.1
  have hL := (hw.2.1 t ht).2.1
  have h1 := (h.2.2.2.2.2.1 t ht).1
  unfold f7_hasLetter
  rw [h.2.1]
  have h2 := has_nI hL (l := l) (by omega)
  rw [li1] at h2
  simp (disch := omega) only [bd_s, bd2_s, bn_e, ck_nI, dz_nI, cz_0, cz_1, ix_nI, le_t, le_f, lt_t, lt_f, eq_t, eq_f, if_true, if_false, nI_add, pk_sub, pk_mul, pk_div, h1, h2, b1_eq, li0, li1, li2, li3, li4, li5, li6, li7, li8, li9, li10, li12, li15, li16, li20, li21, li24, li31, li32, li40, li41, li48, li53, li55, li56, li57, li63, li64, li100, li108, li112, li115, li126, li127, li255, li256, li576, li384]
  cases (dL d t).testBit l <;> rfl
theorem c_has_f (hw : WF d) (h : RC d q) {t : Nat} (ht : t < dT d) {x : Int32} (hx : x < 0 ∨ (¬ x < 0 ∧ nI 8 ≤ x)) : f7_hasLetter q (nI t) x = some 0 := by
  have hT := hw.1
  unfold f7_hasLetter
  rw [h.2.1, if_neg (nI_pos (by omega)), if_neg (nI_ge ht (by omega))]
  rcases hx with hx | ⟨h1, h2⟩
  · rw [if_pos hx]
  · rw [if_neg h1, if_pos (show (8 : Int32) ≤ x from h2)]
/-- letters of a set of tables -/
def lset (d : DB) (s : Nat) : Nat → Nat
  | 0 => 0
  | n + 1 => lset d s n ||| (if s.testBit n then dL d n else 0)
theorem lset_lt (hw : WF d) (s : Nat) : ∀ n, n ≤ dT d → lset d s n < 256
  | 0, _ => by show 0 < 256; decide
  | n + 1, hn => by
    have h1 := lset_lt hw s n (by omega)
    have h2 := (hw.2.1 n (by omega)).2.1
    show _ ||| (if s.testBit n then dL d n else 0) < 2 ^ 8
    apply Nat.or_lt_two_pow h1
    split
    · exact h2
    · decide
theorem lset_bit (s l : Nat) : ∀ n, (lset d s n).testBit l = true ↔ ∃ t, t < n ∧ s.testBit t = true ∧ (dL d t).testBit l = true
  | 0 => by simp [lset]
  | n + 1 => by
    show (lset d s n ||| (if s.testBit n then dL d n else 0)).testBit l = true ↔ _
    rw [Nat.testBit_or, Bool.or_eq_true, lset_bit s l n]
    constructor
    · rintro (⟨t, h1, h2⟩ | h1)
      · exact ⟨t, by omega, h2⟩
      · by_cases hs : s.testBit n = true
        · rw [if_pos hs] at h1
          exact ⟨n, by omega, hs, h1⟩
        · rw [if_neg hs, Nat.zero_testBit] at h1
          cases h1
    · rintro ⟨t, h1, h2, h3⟩
      by_cases ht : t = n
      · subst ht
        exact Or.inr (by rw [if_pos h2]; exact h3)
      · exact Or.inl ⟨t, by omega, h2, h3⟩
def lS (d : DB) (s : Nat) : Nat := lset d s (dT d)
theorem lS_lt (hw : WF d) (s : Nat) : lS d s < 256 := lset_lt hw s (dT d) (Nat.le_refl _)
theorem lS_bit (s l : Nat) : (lS d s).testBit l = true ↔ ∃ t, t < dT d ∧ s.testBit t = true ∧ (dL d t).testBit l = true := lset_bit s l (dT d)
theorem c_lettersOfSet (hw : WF d) (h : RC d q) {N s : Nat} (hN : 1000 ≤ N) (hs : s < 2 ^ 31) : f7_lettersOfSet N q (nI s) = some (nI (lS d s)) := by
  have hT := hw.1
  unfold f7_lettersOfSet
  refine loop_run (fun n (p : Int32 × Int32 × Int32) => f7_lettersOfSet_l4 N q n p.1 p.2.1 p.2.2) (fun k p => f7_lettersOfSet_l4_B N q (fun a b c => k (a, b, c)) p.1 p.2.1 p.2.2) (fun n p => rfl) (fun i => (nI s, nI (lset d s i), nI i)) (dT d) _ (c := 0) ?_ ?_ N 0 (Nat.le_refl _) (Nat.zero_le _) (by omega)
  · intro i _ hi k
    have h1 := (h.2.2.2.2.2.1 i hi).1
    have h2 := bit_nI hs (b := i) (by omega)
    have h3 := lset_lt hw s i (by omega)
    have h4 := (hw.2.1 i hi).2.1
    have h5 := or_nI (a := lset d s i) (b := dL d i) (by omega) (by omega)
    dsimp only
    unfold f7_lettersOfSet_l4_B f7_lettersOfSet_b30
    rw [h.2.1, h2]
    simp (disch := omega) only [bd_s, bd2_s, bn_e, ck_nI, dz_nI, cz_0, cz_1, ix_nI, le_t, le_f, lt_t, lt_f, eq_t, eq_f, if_true, if_false, nI_add, pk_sub, pk_mul, pk_div, h1, b1_eq, h5, li0, li1, li2, li3, li4, li5, li6, li7, li8, li9, li10, li12, li15, li16, li20, li21, li24, li31, li32, li40, li41, li48, li53, li55, li56, li57, li63, li64, li100, li108, li112, li115, li126, li127, li255, li256, li576, li384]
    show _ = k (nI s, nI (lset d s i ||| (if s.testBit i then dL d i else 0)), nI (i + 1))
    cases s.testBit i
    · simp only [Nat.or_zero, if_false, Bool.false_eq_true]
    · simp only [if_true]
  · intro k
    dsimp only
    unfold f7_lettersOfSet_l4_B
    rw [h.2.1]
    simp (disch := omega) only [bd_s, bd2_s, bn_e, ck_nI, dz_nI, cz_0, cz_1, ix_nI, le_t, le_f, lt_t, lt_f, eq_t, eq_f, if_true, if_false, nI_add, pk_sub, pk_mul, pk_div, li0, li1, li2, li3, li4, li5, li6, li7, li8, li9, li10, li12, li15, li16, li20, li21, li24, li31, li32, li40, li41, li48, li53, li55, li56, li57, li63, li64, li100, li108, li112, li115, li126, li127, li255, li256, li576, li384]
    rfl
end CLeaf
