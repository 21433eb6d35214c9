/-! get, unlike, about, table -/
section Ops2
variable {N : Nat} {d : DB} {q : SS}
theorem c_holdsRow (hw : WF d) (h : RC d q) {t i : Nat} (ht : t < dT d) (hi : i < dR d t) : f7_holdsRow q (nI t) (nI i) = some 1 := by
  have hT := hw.1
  have hR := (hw.2.1 t ht).2.2.2.2.2
  have h1 := h.2.2.2.2.2.2.1 t (by omega)
  unfold f7_holdsRow
  rw [h.2.1]
  simp (disch := omega) only [bd_s, bd2_s, bn_e, ck_nI, dz_nI, cz_0, cz_1, ix_nI, le_t, le_f, lt_t, lt_f, eq_t, eq_f, if_true, if_false, nI_add, pk_sub, pk_mul, pk_div, h1, li0, li1, li2, li3, li4, li5, li6, li7, li8, li9, li10, li12, li15, li16, li20, li21, li24, li31, li32, li40, li41, li48, li53, li55, li56, li57, li63, li64, li100, li108, li112, li115, li126, li127, li255, li256, li576, li384]
theorem c_holdsRow_f (hw : WF d) (h : RC d q) {t : Nat} (ht : t < dT d) {x : Int32} (hx : x < 0 ∨ (¬ x < 0 ∧ nI (dR d t) ≤ x)) : f7_holdsRow q (nI t) x = some 0 := by
  have hT := hw.1
  have h1 := h.2.2.2.2.2.2.1 t (by omega)
  unfold f7_holdsRow
  rw [h.2.1, if_neg (nI_pos (by omega)), if_neg (nI_ge ht (by omega)), ck_nI (by omega) (by decide), ix_nI (by omega), h1]
  rcases hx with hx | ⟨h1, h2⟩
  · rw [if_pos hx]
  · rw [if_neg h1, if_pos h2]
theorem c_holdsRow_g (h : RC d q) {x y : Int32} (hx : x < 0 ∨ (¬ x < 0 ∧ nI (dT d) ≤ x)) : f7_holdsRow q x y = some 0 := by
  unfold f7_holdsRow
  rw [h.2.1]
  rcases hx with hx | ⟨h1, h2⟩
  · rw [if_pos hx]
  · rw [if_neg h1, if_pos h2]
theorem tc_int {x : Int32} {n : Nat} (hn : n < 2 ^ 31) (hx : x < 0 ∨ (¬ x < 0 ∧ nI n ≤ x)) : x.toInt < 0 ∨ (n : Int) ≤ x.toInt := by
  rcases hx with hx | ⟨h1, h2⟩
  · exact Or.inl (lt0_toInt.mp hx)
  · exact Or.inr ((geI hn).mp h2)
theorem m_isRow (hw : WF d) (h : RMk d q) {t i : Nat} (ht : t < dT d) (hi : i < dR d t) : f9_isRow q (nI t) (nI i) = some 1 := by
  have hT := hw.1
  have hR := (hw.2.1 t ht).2.2.2.2.2
  have h1 := h.2.2.2.2.2.2.1 t (by omega)
  have e1 : f9_in (nI i).toInt64 0 (nI (dR d t) - 1).toInt64 = some 1 := m_in_t (by rw [nI_toInt (by omega), lit0L]; omega) (by rw [nI_toInt (by omega), pred_toInt (by omega)]; omega)
  unfold f9_isRow
  rw [m_isTable hw h ht, bd_s, if_neg (by decide), ck_nI (by omega) (by decide), ix_nI (by omega), h1, e1, bd_s, if_neg (by decide)]
theorem m_isRow_f (hw : WF d) (h : RMk d q) {t : Nat} (ht : t < dT d) {x : Int32} (hx : x < 0 ∨ (¬ x < 0 ∧ nI (dR d t) ≤ x)) : f9_isRow q (nI t) x = some 0 := by
  have hT := hw.1
  have hR := (hw.2.1 t ht).2.2.2.2.2
  have h1 := h.2.2.2.2.2.2.1 t (by omega)
  have e1 : f9_in x.toInt64 0 (nI (dR d t) - 1).toInt64 = some 0 := m_in_f (by rw [lit0L, pred_toInt (by omega)]; have := tc_int (by omega) hx; omega)
  unfold f9_isRow
  rw [m_isTable hw h ht, bd_s, if_neg (by decide), ck_nI (by omega) (by decide), ix_nI (by omega), h1, e1, bd_s, if_pos rfl]
theorem m_isRow_g (hw : WF d) (h : RMk d q) {x y : Int32} (hx : x < 0 ∨ (¬ x < 0 ∧ nI (dT d) ≤ x)) : f9_isRow q x y = some 0 := by
  unfold f9_isRow
  rw [m_isTable_f hw h hx, bd_s, if_pos rfl]
theorem in07 {l : Nat} (hl : l < 8) : f9_in (nI l).toInt64 0 7 = some 1 := m_in_ok (lo := 0) (hi := 7) (Nat.zero_le l) (by omega) (by decide)
theorem in07_f {x : Int32} (hx : x < 0 ∨ (¬ x < 0 ∧ nI 8 ≤ x)) : f9_in x.toInt64 0 7 = some 0 := m_in_no (lo := 0) (hi := 7) (by decide) (by decide) (by have := tc_int (by decide) hx; omega)
theorem op_get : Op_get N Sim := by
  rintro a b c qC qM ⟨d, hw, hC, hM, hH⟩
  have hT := hw.1
  unfold f8_get f9_get
  rcases tcase a (n := dT d) (by omega) with ⟨t, ht, rfl⟩ | ha
  · have hR := (hw.2.1 t ht).2.2.2.2.2
    rcases tcase b (n := dR d t) (by omega) with ⟨i, hi, rfl⟩ | hb
    · rcases tcase c (n := 8) (by decide) with ⟨l, hl, rfl⟩ | hc
      · have e1 := c_has hw hC ht hl
        have e2 := m_has hw hM ht (l := l) (by omega)
        cases hbit : (dL d t).testBit l
        · rw [hbit] at e1 e2
          refine ⟨-1, ?_, ?_, d, hw, hC, hM, hH⟩
          · simp (disch := omega) only [bd_s, bd2_s, bn_e, ck_nI, dz_nI, cz_0, cz_1, ix_nI, le_t, le_f, lt_t, lt_f, eq_t, eq_f, if_true, if_false, nI_add, pk_sub, pk_mul, pk_div, c_holdsRow hw hC ht hi, c_isLetter hl, e1, Bool.toNat_false, li0, li1, li2, li3, li4, li5, li6, li7, li8, li9, li10, li12, li15, li16, li20, li21, li24, li31, li32, li40, li41, li48, li53, li55, li56, li57, li63, li64, li100, li108, li112, li115, li126, li127, li255, li256, li576, li384]
          · simp (disch := omega) only [bd_s, bd2_s, bn_e, ck_nI, dz_nI, cz_0, cz_1, ix_nI, le_t, le_f, lt_t, lt_f, eq_t, eq_f, if_true, if_false, nI_add, pk_sub, pk_mul, pk_div, m_isRow hw hM ht hi, in07 hl, e2, Bool.toNat_false, li0, li1, li2, li3, li4, li5, li6, li7, li8, li9, li10, li12, li15, li16, li20, li21, li24, li31, li32, li40, li41, li48, li53, li55, li56, li57, li63, li64, li100, li108, li112, li115, li126, li127, li255, li256, li576, li384]
        · rw [hbit] at e1 e2
          have e3 := c_number hw (t := t) (i := i) hl
          rw [show cdf d t i l = dV d t i l from if_pos hbit] at e3
          refine ⟨nI (dV d t i l), ?_, ?_, d, hw, hC, hM, hH⟩
          · simp (disch := omega) only [bd_s, bd2_s, bn_e, ck_nI, dz_nI, cz_0, cz_1, ix_nI, le_t, le_f, lt_t, lt_f, eq_t, eq_f, if_true, if_false, nI_add, pk_sub, pk_mul, pk_div, c_holdsRow hw hC ht hi, c_isLetter hl, e1, Bool.toNat_true, c_codeAt hw hC ht hi, e3, li0, li1, li2, li3, li4, li5, li6, li7, li8, li9, li10, li12, li15, li16, li20, li21, li24, li31, li32, li40, li41, li48, li53, li55, li56, li57, li63, li64, li100, li108, li112, li115, li126, li127, li255, li256, li576, li384]
          · simp (disch := omega) only [bd_s, bd2_s, bn_e, ck_nI, dz_nI, cz_0, cz_1, ix_nI, le_t, le_f, lt_t, lt_f, eq_t, eq_f, if_true, if_false, nI_add, pk_sub, pk_mul, pk_div, m_isRow hw hM ht hi, in07 hl, e2, Bool.toNat_true, m_addr hw hM ht hi hl hbit, li0, li1, li2, li3, li4, li5, li6, li7, li8, li9, li10, li12, li15, li16, li20, li21, li24, li31, li32, li40, li41, li48, li53, li55, li56, li57, li63, li64, li100, li108, li112, li115, li126, li127, li255, li256, li576, li384]
      · refine ⟨-101, ?_, ?_, d, hw, hC, hM, hH⟩
        · simp (disch := omega) only [bd_s, bd2_s, bn_e, ck_nI, dz_nI, cz_0, cz_1, ix_nI, le_t, le_f, lt_t, lt_f, eq_t, eq_f, if_true, if_false, nI_add, pk_sub, pk_mul, pk_div, c_holdsRow hw hC ht hi, c_isLetter_f hc, li0, li1, li2, li3, li4, li5, li6, li7, li8, li9, li10, li12, li15, li16, li20, li21, li24, li31, li32, li40, li41, li48, li53, li55, li56, li57, li63, li64, li100, li108, li112, li115, li126, li127, li255, li256, li576, li384]
        · simp (disch := omega) only [bd_s, bd2_s, bn_e, ck_nI, dz_nI, cz_0, cz_1, ix_nI, le_t, le_f, lt_t, lt_f, eq_t, eq_f, if_true, if_false, nI_add, pk_sub, pk_mul, pk_div, m_isRow hw hM ht hi, in07_f hc, li0, li1, li2, li3, li4, li5, li6, li7, li8, li9, li10, li12, li15, li16, li20, li21, li24, li31, li32, li40, li41, li48, li53, li55, li56, li57, li63, li64, li100, li108, li112, li115, li126, li127, li255, li256, li576, li384]
    · refine ⟨-101, ?_, ?_, d, hw, hC, hM, hH⟩
      · simp (disch := omega) only [bd_s, bd2_s, bn_e, ck_nI, dz_nI, cz_0, cz_1, ix_nI, le_t, le_f, lt_t, lt_f, eq_t, eq_f, if_true, if_false, nI_add, pk_sub, pk_mul, pk_div, c_holdsRow_f hw hC ht hb, li0, li1, li2, li3, li4, li5, li6, li7, li8, li9, li10, li12, li15, li16, li20, li21, li24, li31, li32, li40, li41, li48, li53, li55, li56, li57, li63, li64, li100, li108, li112, li115, li126, li127, li255, li256, li576, li384]
      · simp (disch := omega) only [bd_s, bd2_s, bn_e, ck_nI, dz_nI, cz_0, cz_1, ix_nI, le_t, le_f, lt_t, lt_f, eq_t, eq_f, if_true, if_false, nI_add, pk_sub, pk_mul, pk_div, m_isRow_f hw hM ht hb, li0, li1, li2, li3, li4, li5, li6, li7, li8, li9, li10, li12, li15, li16, li20, li21, li24, li31, li32, li40, li41, li48, li53, li55, li56, li57, li63, li64, li100, li108, li112, li115, li126, li127, li255, li256, li576, li384]
  · refine ⟨-101, ?_, ?_, d, hw, hC, hM, hH⟩
    · simp (disch := omega) only [bd_s, bd2_s, bn_e, ck_nI, dz_nI, cz_0, cz_1, ix_nI, le_t, le_f, lt_t, lt_f, eq_t, eq_f, if_true, if_false, nI_add, pk_sub, pk_mul, pk_div, c_holdsRow_g hC ha, li0, li1, li2, li3, li4, li5, li6, li7, li8, li9, li10, li12, li15, li16, li20, li21, li24, li31, li32, li40, li41, li48, li53, li55, li56, li57, li63, li64, li100, li108, li112, li115, li126, li127, li255, li256, li576, li384]
    · simp (disch := omega) only [bd_s, bd2_s, bn_e, ck_nI, dz_nI, cz_0, cz_1, ix_nI, le_t, le_f, lt_t, lt_f, eq_t, eq_f, if_true, if_false, nI_add, pk_sub, pk_mul, pk_div, m_isRow_g hw hM ha, li0, li1, li2, li3, li4, li5, li6, li7, li8, li9, li10, li12, li15, li16, li20, li21, li24, li31, li32, li40, li41, li48, li53, li55, li56, li57, li63, li64, li100, li108, li112, li115, li126, li127, li255, li256, li576, li384]
theorem op_unlike (hN : 1000 ≤ N) : Op_unlike N Sim := by
  rintro a c qC qM ⟨d, hw, hC, hM, hH⟩
  have hT := hw.1
  unfold f8_unlike f9_unlike
  rcases tcase a (n := dT d) (by omega) with ⟨t, ht, rfl⟩ | ha
  · rcases tcase c (n := 8) (by decide) with ⟨l, hl, rfl⟩ | hc
    · have e1 := c_has hw hC ht hl
      have e2 := m_has hw hM ht (l := l) (by omega)
      cases hbit : (dL d t).testBit l
      · rw [hbit] at e1 e2
        refine ⟨-102, ?_, ?_, d, hw, hC, hM, hH⟩
        · simp (disch := omega) only [bd_s, bd2_s, bn_e, ck_nI, dz_nI, cz_0, cz_1, ix_nI, le_t, le_f, lt_t, lt_f, eq_t, eq_f, if_true, if_false, nI_add, pk_sub, pk_mul, pk_div, c_holds hw hC ht, e1, Bool.toNat_false, li0, li1, li2, li3, li4, li5, li6, li7, li8, li9, li10, li12, li15, li16, li20, li21, li24, li31, li32, li40, li41, li48, li53, li55, li56, li57, li63, li64, li100, li108, li112, li115, li126, li127, li255, li256, li576, li384]
        · simp (disch := omega) only [bd_s, bd2_s, bn_e, ck_nI, dz_nI, cz_0, cz_1, ix_nI, le_t, le_f, lt_t, lt_f, eq_t, eq_f, if_true, if_false, nI_add, pk_sub, pk_mul, pk_div, m_isTable hw hM ht, in07 hl, e2, Bool.toNat_false, li0, li1, li2, li3, li4, li5, li6, li7, li8, li9, li10, li12, li15, li16, li20, li21, li24, li31, li32, li40, li41, li48, li53, li55, li56, li57, li63, li64, li100, li108, li112, li115, li126, li127, li255, li256, li576, li384]
      · rw [hbit] at e1 e2
        refine ⟨nI (uq d t l), ?_, ?_, d, hw, hC, hM, hH⟩
        · simp (disch := omega) only [bd_s, bd2_s, bn_e, ck_nI, dz_nI, cz_0, cz_1, ix_nI, le_t, le_f, lt_t, lt_f, eq_t, eq_f, if_true, if_false, nI_add, pk_sub, pk_mul, pk_div, c_holds hw hC ht, e1, Bool.toNat_true, c_unlike hw hC hN ht hl hbit, li0, li1, li2, li3, li4, li5, li6, li7, li8, li9, li10, li12, li15, li16, li20, li21, li24, li31, li32, li40, li41, li48, li53, li55, li56, li57, li63, li64, li100, li108, li112, li115, li126, li127, li255, li256, li576, li384]
        · simp (disch := omega) only [bd_s, bd2_s, bn_e, ck_nI, dz_nI, cz_0, cz_1, ix_nI, le_t, le_f, lt_t, lt_f, eq_t, eq_f, if_true, if_false, nI_add, pk_sub, pk_mul, pk_div, m_isTable hw hM ht, in07 hl, e2, Bool.toNat_true, m_unlike hw hM hN ht hl hbit, li0, li1, li2, li3, li4, li5, li6, li7, li8, li9, li10, li12, li15, li16, li20, li21, li24, li31, li32, li40, li41, li48, li53, li55, li56, li57, li63, li64, li100, li108, li112, li115, li126, li127, li255, li256, li576, li384]
    · refine ⟨-102, ?_, ?_, d, hw, hC, hM, hH⟩
      · simp (disch := omega) only [bd_s, bd2_s, bn_e, ck_nI, dz_nI, cz_0, cz_1, ix_nI, le_t, le_f, lt_t, lt_f, eq_t, eq_f, if_true, if_false, nI_add, pk_sub, pk_mul, pk_div, c_holds hw hC ht, c_has_f hw hC ht hc, li0, li1, li2, li3, li4, li5, li6, li7, li8, li9, li10, li12, li15, li16, li20, li21, li24, li31, li32, li40, li41, li48, li53, li55, li56, li57, li63, li64, li100, li108, li112, li115, li126, li127, li255, li256, li576, li384]
      · simp (disch := omega) only [bd_s, bd2_s, bn_e, ck_nI, dz_nI, cz_0, cz_1, ix_nI, le_t, le_f, lt_t, lt_f, eq_t, eq_f, if_true, if_false, nI_add, pk_sub, pk_mul, pk_div, m_isTable hw hM ht, in07_f hc, li0, li1, li2, li3, li4, li5, li6, li7, li8, li9, li10, li12, li15, li16, li20, li21, li24, li31, li32, li40, li41, li48, li53, li55, li56, li57, li63, li64, li100, li108, li112, li115, li126, li127, li255, li256, li576, li384]
  · refine ⟨-101, ?_, ?_, d, hw, hC, hM, hH⟩
    · simp (disch := omega) only [bd_s, bd2_s, bn_e, ck_nI, dz_nI, cz_0, cz_1, ix_nI, le_t, le_f, lt_t, lt_f, eq_t, eq_f, if_true, if_false, nI_add, pk_sub, pk_mul, pk_div, c_holds_f hC ha, li0, li1, li2, li3, li4, li5, li6, li7, li8, li9, li10, li12, li15, li16, li20, li21, li24, li31, li32, li40, li41, li48, li53, li55, li56, li57, li63, li64, li100, li108, li112, li115, li126, li127, li255, li256, li576, li384]
    · simp (disch := omega) only [bd_s, bd2_s, bn_e, ck_nI, dz_nI, cz_0, cz_1, ix_nI, le_t, le_f, lt_t, lt_f, eq_t, eq_f, if_true, if_false, nI_add, pk_sub, pk_mul, pk_div, m_isTable_f hw hM ha, li0, li1, li2, li3, li4, li5, li6, li7, li8, li9, li10, li12, li15, li16, li20, li21, li24, li31, li32, li40, li41, li48, li53, li55, li56, li57, li63, li64, li100, li108, li112, li115, li126, li127, li255, li256, li576, li384]
/-- pages of one table -/
def pg1 (d : DB) (t : Nat) : Nat := (dR d t + dP d t - 1) / dP d t
theorem tz_pow {t : Nat} (ht : t < 8) : tz (2 ^ t) = t := by
  have key : ∀ t : Fin 8, tz (2 ^ t.1) = t.1 := by decide
  exact key ⟨t, ht⟩
theorem pc_pow {t : Nat} (ht : t < 8) : pc (2 ^ t) = 1 := by
  have key : ∀ t : Fin 8, pc (2 ^ t.1) = 1 := by decide
  exact key ⟨t, ht⟩
theorem pow_lt6 {t : Nat} (ht : t < 6) : 2 ^ t < 64 := Nat.pow_lt_pow_right (n := 6) (by decide) ht
theorem c_pagesOfTable (hw : WF d) (h : RC d q) {t : Nat} (ht : t < dT d) : f7_pagesOfTable q (nI t) = some (nI (pg1 d t)) := by
  have hT := hw.1
  obtain ⟨-, -, -, p1, p2, hR⟩ := hw.2.1 t ht
  unfold f7_pagesOfTable
  simp (disch := omega) only [bd_s, bd2_s, bn_e, ck_nI, dz_nI, cz_0, cz_1, ix_nI, le_t, le_f, lt_t, lt_f, eq_t, eq_f, if_true, if_false, nI_add, pk_sub, pk_mul, pk_div, c_rowsOf hw h (t := t), c_perOf hw h ht, c_roundedUp (a := dR d t) p1, li0, li1, li2, li3, li4, li5, li6, li7, li8, li9, li10, li12, li15, li16, li20, li21, li24, li31, li32, li40, li41, li48, li53, li55, li56, li57, li63, li64, li100, li108, li112, li115, li126, li127, li255, li256, li576, li384]
  rfl
theorem c_pages1 (hw : WF d) (h : RC d q) {t : Nat} (ht : t < dT d) (x : Int32) : f3_pagesOf N (nI (2 ^ t)) x q = some (nI (pg1 d t), q) := by
  have hT := hw.1
  obtain ⟨-, -, -, p1, p2, hR⟩ := hw.2.1 t ht
  have h2 := pow_lt6 (t := t) (by omega)
  have h3 : 0 < 2 ^ t := Nat.two_pow_pos t
  have e1 := bitCount_ok (s := 2 ^ t) (by omega)
  have e2 := ntz_ok h3 (by omega)
  rw [pc_pow (by omega)] at e1
  rw [tz_pow (by omega)] at e2
  unfold f3_pagesOf
  simp (disch := omega) only [bd_s, bd2_s, bn_e, ck_nI, dz_nI, cz_0, cz_1, ix_nI, le_t, le_f, lt_t, lt_f, eq_t, eq_f, if_true, if_false, nI_add, pk_sub, pk_mul, pk_div, e1, e2, c_pagesOfTable hw h ht, li0, li1, li2, li3, li4, li5, li6, li7, li8, li9, li10, li12, li15, li16, li20, li21, li24, li31, li32, li40, li41, li48, li53, li55, li56, li57, li63, li64, li100, li108, li112, li115, li126, li127, li255, li256, li576, li384]
/-- about() of a table, both sides -/
theorem about_both {qC qM : SS} (hN : 1000 ≤ N) (hw : WF d) (hC : RC d qC) (hM : RMk d qM) {t : Nat} (ht : t < dT d) (b : Int32) : ∃ r, f8_about N qC (nI t) b = some r ∧ f9_aboutOf N qM (nI t) b = some r := by
  have hT := hw.1
  obtain ⟨-, -, -, p1, p2, hR⟩ := hw.2.1 t ht
  have m1 := (hM.2.2.2.2.2.1 t ht).1
  have m2 := (hM.2.2.2.2.2.1 t ht).2
  have m3 := hM.2.2.2.2.2.2.1 t (by omega)
  unfold f8_about f9_aboutOf
  rw [c_holds hw hC ht, bd_s, if_neg (by decide)]
  rcases rcase b 0 (hi := 4) (by decide) with ⟨j, j1, j2, rfl⟩ | ha
  · rcases (show j = 0 ∨ j = 1 ∨ j = 2 ∨ j = 3 ∨ j = 4 by omega) with rfl | rfl | rfl | rfl | rfl
    · exact ⟨nI (dL d t), by simp (disch := omega) only [bd_s, bd2_s, bn_e, ck_nI, dz_nI, cz_0, cz_1, ix_nI, le_t, le_f, lt_t, lt_f, eq_t, eq_f, if_true, if_false, nI_add, pk_sub, pk_mul, pk_div, c_lettersOf hw hC ht, li0, li1, li2, li3, li4, li5, li6, li7, li8, li9, li10, li12, li15, li16, li20, li21, li24, li31, li32, li40, li41, li48, li53, li55, li56, li57, li63, li64, li100, li108, li112, li115, li126, li127, li255, li256, li576, li384], by simp (disch := omega) only [bd_s, bd2_s, bn_e, ck_nI, dz_nI, cz_0, cz_1, ix_nI, le_t, le_f, lt_t, lt_f, eq_t, eq_f, if_true, if_false, nI_add, pk_sub, pk_mul, pk_div, m1, li0, li1, li2, li3, li4, li5, li6, li7, li8, li9, li10, li12, li15, li16, li20, li21, li24, li31, li32, li40, li41, li48, li53, li55, li56, li57, li63, li64, li100, li108, li112, li115, li126, li127, li255, li256, li576, li384]⟩
    · exact ⟨nI (dP d t), by simp (disch := omega) only [bd_s, bd2_s, bn_e, ck_nI, dz_nI, cz_0, cz_1, ix_nI, le_t, le_f, lt_t, lt_f, eq_t, eq_f, if_true, if_false, nI_add, pk_sub, pk_mul, pk_div, c_perOf hw hC ht, li0, li1, li2, li3, li4, li5, li6, li7, li8, li9, li10, li12, li15, li16, li20, li21, li24, li31, li32, li40, li41, li48, li53, li55, li56, li57, li63, li64, li100, li108, li112, li115, li126, li127, li255, li256, li576, li384], by simp (disch := omega) only [bd_s, bd2_s, bn_e, ck_nI, dz_nI, cz_0, cz_1, ix_nI, le_t, le_f, lt_t, lt_f, eq_t, eq_f, if_true, if_false, nI_add, pk_sub, pk_mul, pk_div, m2, li0, li1, li2, li3, li4, li5, li6, li7, li8, li9, li10, li12, li15, li16, li20, li21, li24, li31, li32, li40, li41, li48, li53, li55, li56, li57, li63, li64, li100, li108, li112, li115, li126, li127, li255, li256, li576, li384]⟩
    · exact ⟨nI (dR d t), by simp (disch := omega) only [bd_s, bd2_s, bn_e, ck_nI, dz_nI, cz_0, cz_1, ix_nI, le_t, le_f, lt_t, lt_f, eq_t, eq_f, if_true, if_false, nI_add, pk_sub, pk_mul, pk_div, c_rowsOf hw hC (t := t), li0, li1, li2, li3, li4, li5, li6, li7, li8, li9, li10, li12, li15, li16, li20, li21, li24, li31, li32, li40, li41, li48, li53, li55, li56, li57, li63, li64, li100, li108, li112, li115, li126, li127, li255, li256, li576, li384], by simp (disch := omega) only [bd_s, bd2_s, bn_e, ck_nI, dz_nI, cz_0, cz_1, ix_nI, le_t, le_f, lt_t, lt_f, eq_t, eq_f, if_true, if_false, nI_add, pk_sub, pk_mul, pk_div, m3, li0, li1, li2, li3, li4, li5, li6, li7, li8, li9, li10, li12, li15, li16, li20, li21, li24, li31, li32, li40, li41, li48, li53, li55, li56, li57, li63, li64, li100, li108, li112, li115, li126, li127, li255, li256, li576, li384]⟩
    · refine ⟨nI (pg1 d t), ?_, ?_⟩
      · simp (disch := omega) only [bd_s, bd2_s, bn_e, ck_nI, dz_nI, cz_0, cz_1, ix_nI, le_t, le_f, lt_t, lt_f, eq_t, eq_f, if_true, if_false, nI_add, pk_sub, pk_mul, pk_div, c_pagesOfTable hw hC ht, li0, li1, li2, li3, li4, li5, li6, li7, li8, li9, li10, li12, li15, li16, li20, li21, li24, li31, li32, li40, li41, li48, li53, li55, li56, li57, li63, li64, li100, li108, li112, li115, li126, li127, li255, li256, li576, li384]
      · simp (disch := omega) only [bd_s, bd2_s, bn_e, ck_nI, dz_nI, cz_0, cz_1, ix_nI, le_t, le_f, lt_t, lt_f, eq_t, eq_f, if_true, if_false, nI_add, pk_sub, pk_mul, pk_div, m2, m3, m_up (a := dR d t) p1, li0, li1, li2, li3, li4, li5, li6, li7, li8, li9, li10, li12, li15, li16, li20, li21, li24, li31, li32, li40, li41, li48, li53, li55, li56, li57, li63, li64, li100, li108, li112, li115, li126, li127, li255, li256, li576, li384]
        rfl
    · exact ⟨nI (sb d t) - 1, by simp (disch := omega) only [bd_s, bd2_s, bn_e, ck_nI, dz_nI, cz_0, cz_1, ix_nI, le_t, le_f, lt_t, lt_f, eq_t, eq_f, if_true, if_false, nI_add, pk_sub, pk_mul, pk_div, c_sortedLetter hw hC hN ht, li0, li1, li2, li3, li4, li5, li6, li7, li8, li9, li10, li12, li15, li16, li20, li21, li24, li31, li32, li40, li41, li48, li53, li55, li56, li57, li63, li64, li100, li108, li112, li115, li126, li127, li255, li256, li576, li384], by simp (disch := omega) only [bd_s, bd2_s, bn_e, ck_nI, dz_nI, cz_0, cz_1, ix_nI, le_t, le_f, lt_t, lt_f, eq_t, eq_f, if_true, if_false, nI_add, pk_sub, pk_mul, pk_div, m_sortedBy hw hM hN ht, li0, li1, li2, li3, li4, li5, li6, li7, li8, li9, li10, li12, li15, li16, li20, li21, li24, li31, li32, li40, li41, li48, li53, li55, li56, li57, li63, li64, li100, li108, li112, li115, li126, li127, li255, li256, li576, li384]⟩
  · have hne : ∀ k : Nat, k ≤ 4 → ¬ b = nI k := fun k hk => by rw [eqI (by omega)]; omega
    have n0 : ¬ b = 0 := hne 0 (by decide)
    have n1 : ¬ b = 1 := hne 1 (by decide)
    have n2 : ¬ b = 2 := hne 2 (by decide)
    have n3 : ¬ b = 3 := hne 3 (by decide)
    have n4 : ¬ b = 4 := hne 4 (by decide)
    exact ⟨-102, by rw [if_neg n0, if_neg n1, if_neg n2, if_neg n3, if_neg n4], by rw [if_neg n0, if_neg n1, if_neg n2, if_neg n3, if_neg n4]⟩
theorem op_about (hN : 1000 ≤ N) : Op_about N Sim := by
  rintro a b qC qM ⟨d, hw, hC, hM, hH⟩
  have hT := hw.1
  rcases tcase a (n := dT d) (by omega) with ⟨t, ht, rfl⟩ | ha
  · obtain ⟨r, h1, h2⟩ := about_both hN hw hC hM ht b
    exact ⟨r, h1, by unfold f9_about; rw [m_isTable hw hM ht, bd_s, if_neg (by decide), h2, bd_s], d, hw, hC, hM, hH⟩
  · refine ⟨-101, ?_, ?_, d, hw, hC, hM, hH⟩
    · unfold f8_about
      simp (disch := omega) only [bd_s, bd2_s, bn_e, ck_nI, dz_nI, cz_0, cz_1, ix_nI, le_t, le_f, lt_t, lt_f, eq_t, eq_f, if_true, if_false, nI_add, pk_sub, pk_mul, pk_div, c_holds_f hC ha, li0, li1, li2, li3, li4, li5, li6, li7, li8, li9, li10, li12, li15, li16, li20, li21, li24, li31, li32, li40, li41, li48, li53, li55, li56, li57, li63, li64, li100, li108, li112, li115, li126, li127, li255, li256, li576, li384]
    · unfold f9_about
      simp (disch := omega) only [bd_s, bd2_s, bn_e, ck_nI, dz_nI, cz_0, cz_1, ix_nI, le_t, le_f, lt_t, lt_f, eq_t, eq_f, if_true, if_false, nI_add, pk_sub, pk_mul, pk_div, m_isTable_f hw hM ha, li0, li1, li2, li3, li4, li5, li6, li7, li8, li9, li10, li12, li15, li16, li20, li21, li24, li31, li32, li40, li41, li48, li53, li55, li56, li57, li63, li64, li100, li108, li112, li115, li126, li127, li255, li256, li576, li384]
def addT (d : DB) (l p : Nat) : DB := (dT d + 1, fun t => if t = dT d then l else dL d t, fun t => if t = dT d then p else dP d t, d.2.2.2)
theorem op_table (hN : 1000 ≤ N) : Op_table N Sim := by
  rintro a b qC qM ⟨d, hw, hC, hM, hH⟩
  obtain ⟨w0, w1, w2, w3, w4, w5, w6, w7, w8, w9, w10⟩ := id hw
  obtain ⟨c0, c1, c2, c3, c4, c5, c6, c7, c8⟩ := id hC
  obtain ⟨m0, m1, m2, m3, m4, m5, m6, m7, m8⟩ := id hM
  unfold f8_table f9_table f8_table_b24 f8_table_b25
  rcases rcase a 1 (hi := 255) (by decide) with ⟨l, l1, l2, rfl⟩ | ha
  · have e1 : f9_in (nI l).toInt64 1 255 = some 1 := m_in_ok l1 l2 (by decide)
    have e2 := bitCount_ok (s := l) (by omega)
    have e3 := m_bitsOf (N := N) (s := l) hN (by omega)
    have p1 := pc_le (s := l)
    by_cases hp : pc l ≤ 3
    · rcases rcase b 1 (hi := 4) (by decide) with ⟨v, v1, v2, rfl⟩ | hb
      · have e4 : f9_in (nI v).toInt64 1 4 = some 1 := m_in_ok v1 v2 (by decide)
        by_cases hT : dT d = 6
        · refine ⟨-104, qC, qM, ?_, ?_, d, hw, hC, hM, hH⟩
          · unfold f7_addTable
            simp (disch := omega) only [bd_s, bd2_s, bn_e, ck_nI, dz_nI, cz_0, cz_1, ix_nI, le_t, le_f, lt_t, lt_f, eq_t, eq_f, if_true, if_false, nI_add, pk_sub, pk_mul, pk_div, e2, c1, hT, li0, li1, li2, li3, li4, li5, li6, li7, li8, li9, li10, li12, li15, li16, li20, li21, li24, li31, li32, li40, li41, li48, li53, li55, li56, li57, li63, li64, li100, li108, li112, li115, li126, li127, li255, li256, li576, li384]
          · simp (disch := omega) only [bd_s, bd2_s, bn_e, ck_nI, dz_nI, cz_0, cz_1, ix_nI, le_t, le_f, lt_t, lt_f, eq_t, eq_f, if_true, if_false, nI_add, pk_sub, pk_mul, pk_div, e1, e3, e4, m0, hT, li0, li1, li2, li3, li4, li5, li6, li7, li8, li9, li10, li12, li15, li16, li20, li21, li24, li31, li32, li40, li41, li48, li53, li55, li56, li57, li63, li64, li100, li108, li112, li115, li126, li127, li255, li256, li576, li384]
        · have hT' : dT d < 6 := by omega
          refine ⟨nI (dT d), sf (sa (sa qC 7 (dT d) (nI l)) 8 (dT d) (nI v)) 1 (nI (dT d + 1)), sf (sf (sa (sa qM 1 (dT d) (nI l)) 2 (dT d) (nI v)) 0 (nI (dT d + 1))) 3 0, ?_, ?_, addT d l v, ?_, ?_, ?_, Or.inl rfl⟩
          · unfold f7_addTable
            simp (disch := omega) only [bd_s, bd2_s, bn_e, ck_nI, dz_nI, cz_0, cz_1, ix_nI, le_t, le_f, lt_t, lt_f, eq_t, eq_f, if_true, if_false, nI_add, pk_sub, pk_mul, pk_div, e2, c1, fi_sa, fi_sf, Nat.add_sub_cancel, li0, li1, li2, li3, li4, li5, li6, li7, li8, li9, li10, li12, li15, li16, li20, li21, li24, li31, li32, li40, li41, li48, li53, li55, li56, li57, li63, li64, li100, li108, li112, li115, li126, li127, li255, li256, li576, li384]
          · simp (disch := omega) only [bd_s, bd2_s, bn_e, ck_nI, dz_nI, cz_0, cz_1, ix_nI, le_t, le_f, lt_t, lt_f, eq_t, eq_f, if_true, if_false, nI_add, pk_sub, pk_mul, pk_div, e1, e3, e4, m0, fi_sa, fi_sf, Nat.add_sub_cancel, li0, li1, li2, li3, li4, li5, li6, li7, li8, li9, li10, li12, li15, li16, li20, li21, li24, li31, li32, li40, li41, li48, li53, li55, li56, li57, li63, li64, li100, li108, li112, li115, li126, li127, li255, li256, li576, li384]
            simp [m0, fi_sa, fi_sf]
            rw [pk_sub (by omega), Nat.add_sub_cancel]
          · refine ⟨by show dT d + 1 ≤ 6; omega, fun t ht => ?_, fun t ht => w2 t (by have : dT d + 1 ≤ t := ht; omega), w3, w4, w5, w6, w7, w8, w9, w10⟩
            have ht : t < dT d + 1 := ht
            show 1 ≤ (if t = dT d then l else dL d t) ∧ (if t = dT d then l else dL d t) < 256 ∧ pc (if t = dT d then l else dL d t) ≤ 3 ∧ 1 ≤ (if t = dT d then v else dP d t) ∧ (if t = dT d then v else dP d t) ≤ 4 ∧ dR d t ≤ 8
            by_cases htT : t = dT d
            · rw [if_pos htT, if_pos htT]
              exact ⟨l1, by omega, hp, v1, v2, by rw [w2 t (by omega)]; decide⟩
            · rw [if_neg htT, if_neg htT]
              exact w1 t (by omega)
          · refine ⟨c0, rfl, c2, c3, c4, fun t ht => ?_, fun t ht => c6 t ht, fun t i ht hi => ?_, c8⟩
            · have ht : t < dT d + 1 := ht
              show ar (sa (sa qC 7 (dT d) (nI l)) 8 (dT d) (nI v)) 7 t = nI (if t = dT d then l else dL d t) ∧ ar (sa (sa qC 7 (dT d) (nI l)) 8 (dT d) (nI v)) 8 t = nI (if t = dT d then v else dP d t)
              rw [ar_sa, ar_sa, ar_sa, ar_sa]
              by_cases htT : t = dT d
              · simp [htT]
              · simp [htT]
                exact c5 t (by omega)
            · have ht : t < dT d + 1 := ht
              have hi : i < dR d t := hi
              have htT : t < dT d := by
                rcases Nat.lt_or_ge t (dT d) with h | h
                · exact h
                · rw [w2 t h] at hi; omega
              have e5 : cd (addT d l v) t i = cd d t i := nib_ext (fun l' _ => by show (if (if t = dT d then l else dL d t).testBit l' then dV d t i l' else 0) = _; rw [if_neg (show ¬ t = dT d by omega)]; rfl)
              rw [e5]
              exact c7 t i htT hi
          · refine ⟨rfl, m1, m2, m3, m4, fun t ht => ?_, fun t ht => m6 t ht, fun t i l' ht hi hl hb => ?_, m8⟩
            · have ht : t < dT d + 1 := ht
              show ar (sa (sa qM 1 (dT d) (nI l)) 2 (dT d) (nI v)) 1 t = nI (if t = dT d then l else dL d t) ∧ ar (sa (sa qM 1 (dT d) (nI l)) 2 (dT d) (nI v)) 2 t = nI (if t = dT d then v else dP d t)
              rw [ar_sa, ar_sa, ar_sa, ar_sa]
              by_cases htT : t = dT d
              · simp [htT]
              · simp [htT]
                exact m5 t (by omega)
            · have ht : t < dT d + 1 := ht
              have hi : i < dR d t := hi
              have htT : t < dT d := by
                rcases Nat.lt_or_ge t (dT d) with h | h
                · exact h
                · rw [w2 t h] at hi; omega
              refine m7 t i l' htT hi hl ?_
              have hb : (if t = dT d then l else dL d t).testBit l' = true := hb
              rw [if_neg (show ¬ t = dT d by omega)] at hb
              exact hb
      · have e4 : f9_in b.toInt64 1 4 = some 0 := m_in_no (by decide) (by decide) hb
        refine ⟨-102, qC, qM, ?_, ?_, d, hw, hC, hM, hH⟩
        · rw [if_neg (show ¬ nI l < 1 by rw [li1]; exact nI_nlt l1 (by omega)), if_neg (show ¬ (256 : Int32) ≤ nI l by rw [li256]; exact nI_ge (by omega) (by decide)), e2, bd_s, if_neg (show ¬ (3 : Int32) < nI (pc l) by rw [li3]; exact nI_nlt hp (by omega)), if_neg (by decide)]
          by_cases h1 : b < 1
          · rw [if_pos h1]
          · rw [if_neg h1, if_neg]
            rw [show (4 : Int32) = nI 4 from rfl, leI (by decide)]
            rw [show (1 : Int32) = nI 1 from rfl, ltI (by decide)] at h1
            omega
        · simp (disch := omega) only [bd_s, bd2_s, bn_e, ck_nI, dz_nI, cz_0, cz_1, ix_nI, le_t, le_f, lt_t, lt_f, eq_t, eq_f, if_true, if_false, nI_add, pk_sub, pk_mul, pk_div, e1, e3, e4, li0, li1, li2, li3, li4, li5, li6, li7, li8, li9, li10, li12, li15, li16, li20, li21, li24, li31, li32, li40, li41, li48, li53, li55, li56, li57, li63, li64, li100, li108, li112, li115, li126, li127, li255, li256, li576, li384]
    · refine ⟨-102, qC, qM, ?_, ?_, d, hw, hC, hM, hH⟩
      · simp (disch := omega) only [bd_s, bd2_s, bn_e, ck_nI, dz_nI, cz_0, cz_1, ix_nI, le_t, le_f, lt_t, lt_f, eq_t, eq_f, if_true, if_false, nI_add, pk_sub, pk_mul, pk_div, e2, li0, li1, li2, li3, li4, li5, li6, li7, li8, li9, li10, li12, li15, li16, li20, li21, li24, li31, li32, li40, li41, li48, li53, li55, li56, li57, li63, li64, li100, li108, li112, li115, li126, li127, li255, li256, li576, li384]
      · simp (disch := omega) only [bd_s, bd2_s, bn_e, ck_nI, dz_nI, cz_0, cz_1, ix_nI, le_t, le_f, lt_t, lt_f, eq_t, eq_f, if_true, if_false, nI_add, pk_sub, pk_mul, pk_div, e1, e3, li0, li1, li2, li3, li4, li5, li6, li7, li8, li9, li10, li12, li15, li16, li20, li21, li24, li31, li32, li40, li41, li48, li53, li55, li56, li57, li63, li64, li100, li108, li112, li115, li126, li127, li255, li256, li576, li384]
  · have e1 : f9_in a.toInt64 1 255 = some 0 := m_in_no (by decide) (by decide) ha
    refine ⟨-102, qC, qM, ?_, ?_, d, hw, hC, hM, hH⟩
    · by_cases h1 : a < 1
      · rw [if_pos h1, if_pos rfl]
      · rw [if_neg h1, if_pos, if_pos rfl]
        rw [show (256 : Int32) = nI 256 from rfl, geI (by decide)]
        rw [show (1 : Int32) = nI 1 from rfl, ltI (by decide)] at h1
        omega
    · simp (disch := omega) only [bd_s, bd2_s, bn_e, ck_nI, dz_nI, cz_0, cz_1, ix_nI, le_t, le_f, lt_t, lt_f, eq_t, eq_f, if_true, if_false, nI_add, pk_sub, pk_mul, pk_div, e1, li0, li1, li2, li3, li4, li5, li6, li7, li8, li9, li10, li12, li15, li16, li20, li21, li24, li31, li32, li40, li41, li48, li53, li55, li56, li57, li63, li64, li100, li108, li112, li115, li126, li127, li255, li256, li576, li384]
end Ops2
