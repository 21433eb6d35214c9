/-! joined rows: their number; what both states hold -/
def fitL (L : Nat → Nat) (V : Nat → Nat → Nat → Nat) (t i u j : Nat) : Bool := (List.range 8).all (fun l => !((L t).testBit l && (L u).testBit l) || decide (V t i l = V u j l))
theorem fitL_iff {L : Nat → Nat} {V : Nat → Nat → Nat → Nat} {t i u j : Nat} : fitL L V t i u j = true ↔ ∀ l, l < 8 → (L t).testBit l = true → (L u).testBit l = true → V t i l = V u j l := by
  unfold fitL
  rw [List.all_eq_true]
  constructor
  · intro h l hl h1 h2
    have := h l (List.mem_range.mpr hl)
    rw [h1, h2] at this
    simpa using this
  · intro h l hl
    have hl := List.mem_range.mp hl
    cases h1 : (L t).testBit l <;> cases h2 : (L u).testBit l <;> simp
    exact h l hl h1 h2
/-- the joined rows of the tables ts behind the rows chosen so far -/
def enumF (L R : Nat → Nat) (V : Nat → Nat → Nat → Nat) : List Nat → List (Nat × Nat) → List (List Nat)
  | [], _ => [[]]
  | t :: ts, pre => (List.range (R t)).flatMap (fun i => if pre.all (fun p => fitL L V p.1 p.2 t i) then (enumF L R V ts (pre ++ [(t, i)])).map (fun z => i :: z) else [])
def mem (s : Nat) : List Nat := (List.range 6).filter (fun t => s.testBit t)
def jr (d : DB) (s : Nat) : List (List Nat) := enumF (dL d) (dR d) (dV d) (mem s) []
def tsz (d : DB) (s : Nat) : Nat := (jr d s).length
def CH (d : DB) (q : SS) : Prop := fi q 3 = 0 ∨ (fi q 3 = 1 ∧ ∀ s, 1 ≤ s → s < 2 ^ dT d → ar q 8 s = nI (tsz d s))
def Sim (qC qM : SS) : Prop := ∃ d, WF d ∧ RC d qC ∧ RMk d qM ∧ CH d qM
theorem CH.same {d : DB} {q q' : SS} (h : CH d q) (s : sameM q q') : CH d q' := by
  rcases h with h | ⟨h1, h2⟩
  · exact Or.inl (by rw [s.1 3 (by omega)]; exact h)
  · exact Or.inr ⟨by rw [s.1 3 (by omega)]; exact h1, fun z z1 z2 => by rw [s.2 8 (by omega)]; exact h2 z z1 z2⟩
theorem rcase (x : Int32) (lo : Nat) {hi : Nat} (h : hi < 2 ^ 31) : (∃ j, lo ≤ j ∧ j ≤ hi ∧ x = nI j) ∨ (x.toInt < lo ∨ (hi : Int) < x.toInt) := by
  by_cases h1 : x.toInt < lo
  · exact Or.inr (Or.inl h1)
  · by_cases h2 : (hi : Int) < x.toInt
    · exact Or.inr (Or.inr h2)
    · refine Or.inl ⟨x.toInt.toNat, by omega, by omega, Int32.toInt_inj.mp ?_⟩
      rw [nI_toInt (by omega)]
      omega
theorem m_in_ok {j lo hi : Nat} (h1 : lo ≤ j) (h2 : j ≤ hi) (h : hi < 2 ^ 31) : f9_in (nI j).toInt64 (lN lo) (lN hi) = some 1 := m_in_t (by rw [nI_toInt (by omega), lN_toInt (by omega)]; omega) (by rw [nI_toInt (by omega), lN_toInt (by omega)]; omega)
theorem m_in_no {x : Int32} {lo hi : Nat} (hl : lo < 2 ^ 31) (h : hi < 2 ^ 31) (hx : x.toInt < lo ∨ (hi : Int) < x.toInt) : f9_in x.toInt64 (lN lo) (lN hi) = some 0 := m_in_f (by rw [lN_toInt hl, lN_toInt h]; exact hx)
theorem ltI {x : Int32} {n : Nat} (h : n < 2 ^ 31) : x < nI n ↔ x.toInt < n := by rw [Int32.lt_iff_toInt_lt, nI_toInt h]
theorem leI {x : Int32} {n : Nat} (h : n < 2 ^ 31) : x ≤ nI n ↔ x.toInt ≤ n := by rw [Int32.le_iff_toInt_le, nI_toInt h]
theorem geI {x : Int32} {n : Nat} (h : n < 2 ^ 31) : nI n ≤ x ↔ (n : Int) ≤ x.toInt := nI_le_toInt h
theorem eqI {x : Int32} {n : Nat} (h : n < 2 ^ 31) : x = nI n ↔ x.toInt = n := by rw [← Int32.toInt_inj, nI_toInt h]
section Ops1
variable {N : Nat}
def setW (d : DB) (w : Nat) : DB := (d.1, d.2.1, d.2.2.1, d.2.2.2.1, d.2.2.2.2.1, w, d.2.2.2.2.2.2)
def setM (d : DB) (m : Nat) : DB := (d.1, d.2.1, d.2.2.1, d.2.2.2.1, d.2.2.2.2.1, d.2.2.2.2.2.1, m, d.2.2.2.2.2.2.2)
def setG (d : DB) (n : Nat) (g : Nat → Nat) : DB := (d.1, d.2.1, d.2.2.1, d.2.2.2.1, d.2.2.2.2.1, d.2.2.2.2.2.1, d.2.2.2.2.2.2.1, n, g, d.2.2.2.2.2.2.2.2.2)
def setD (d : DB) (n : Nat) : DB := (d.1, d.2.1, d.2.2.1, d.2.2.2.1, d.2.2.2.2.1, d.2.2.2.2.2.1, d.2.2.2.2.2.2.1, d.2.2.2.2.2.2.2.1, d.2.2.2.2.2.2.2.2.1, n)
theorem op_rule : Op_rule N Sim := by
  rintro a b qC qM ⟨d, hw, hC, hM, hH⟩
  obtain ⟨w0, w1, w2, w3, w4, w5, w6, w7, w8, w9, w10⟩ := hw
  have hw : WF d := ⟨w0, w1, w2, w3, w4, w5, w6, w7, w8, w9, w10⟩
  obtain ⟨c0, c1, c2, c3, c4, c5, c6, c7, c8⟩ := hC
  obtain ⟨m0, m1, m2, m3, m4, m5, m6, m7, m8⟩ := hM
  have hC : RC d qC := ⟨c0, c1, c2, c3, c4, c5, c6, c7, c8⟩
  have hM : RMk d qM := ⟨m0, m1, m2, m3, m4, m5, m6, m7, m8⟩
  unfold f8_rule f9_rule
  rcases rcase a 0 (hi := 1) (by decide) with ⟨j, j1, j2, rfl⟩ | ha
  · have e1 : f9_in (nI j).toInt64 0 1 = some 1 := m_in_ok j1 j2 (by decide)
    rcases (show j = 0 ∨ j = 1 by omega) with rfl | rfl
    · rcases rcase b 1 (hi := 8) (by decide) with ⟨v, v1, v2, rfl⟩ | hb
      · have e2 : f9_in (nI v).toInt64 1 8 = some 1 := m_in_ok v1 v2 (by decide)
        refine ⟨nI (dW d), sf qC 2 (nI v), sf (sf qM 1 (nI v)) 2 (nI (dM d)), ?_, ?_, setW d v, ⟨w0, w1, w2, w3, v1, v2, w6, w7, w8, w9, w10⟩, ?_, ?_, ?_⟩
        · unfold f7_putWide
          simp (disch := omega) only [bd_s, bd2_s, bn_e, ck_nI, dz_nI, cz_0, cz_1, ix_nI, le_t, le_f, lt_t, lt_f, eq_t, eq_f, if_true, if_false, nI_add, pk_sub, pk_mul, pk_div, c2, li0, li1, li2, li3, li4, li5, li6, li7, li8, li9, li10, li12, li15, li16, li20, li21, li24, li31, li32, li40, li41, li48, li53, li55, li56, li57, li63, li64, li100, li108, li112, li115, li126, li127, li255, li256, li576, li384]
        · unfold f9_rule_b49 f9_rule_b64 f9_rule_b78 f9_rule_b95
          simp (disch := omega) only [bd_s, bd2_s, bn_e, ck_nI, dz_nI, cz_0, cz_1, ix_nI, le_t, le_f, lt_t, lt_f, eq_t, eq_f, if_true, if_false, nI_add, pk_sub, pk_mul, pk_div, e1, e2, m1, m2, fi_sf, li0, li1, li2, li3, li4, li5, li6, li7, li8, li9, li10, li12, li15, li16, li20, li21, li24, li31, li32, li40, li41, li48, li53, li55, li56, li57, li63, li64, li100, li108, li112, li115, li126, li127, li255, li256, li576, li384]
          simp
        · exact ⟨c0, c1, by simp [fi_sf, setW, dW], c3, c4, c5, c6, c7, c8⟩
        · exact ⟨m0, by simp [fi_sf, setW, dW], by simp [fi_sf, setW, dM], m3, m4, m5, m6, m7, m8⟩
        · exact hH
      · have e2 : f9_in b.toInt64 1 8 = some 0 := m_in_no (by decide) (by decide) hb
        refine ⟨-102, qC, qM, ?_, ?_, d, hw, hC, hM, hH⟩
        · unfold f8_rule_b39
          rw [if_pos (by decide)]
          by_cases h1 : b < 1
          · rw [if_pos h1]
          · rw [if_neg h1, if_neg]
            rw [show (8 : Int32) = nI 8 from rfl, leI (by decide)]
            rw [show (1 : Int32) = nI 1 from rfl, ltI (by decide)] at h1
            omega
        · simp (disch := omega) only [bd_s, bd2_s, bn_e, ck_nI, dz_nI, cz_0, cz_1, ix_nI, le_t, le_f, lt_t, lt_f, eq_t, eq_f, if_true, if_false, nI_add, pk_sub, pk_mul, pk_div, e1, e2, li0, li1, li2, li3, li4, li5, li6, li7, li8, li9, li10, li12, li15, li16, li20, li21, li24, li31, li32, li40, li41, li48, li53, li55, li56, li57, li63, li64, li100, li108, li112, li115, li126, li127, li255, li256, li576, li384]
    · rcases rcase b 3 (hi := 9) (by decide) with ⟨v, v1, v2, rfl⟩ | hb
      · have e2 : f9_in (nI v).toInt64 3 9 = some 1 := m_in_ok v1 v2 (by decide)
        refine ⟨nI (dM d), sf qC 3 (nI v), sf (sf qM 1 (nI (dW d))) 2 (nI v), ?_, ?_, setM d v, ⟨w0, w1, w2, w3, w4, w5, v1, v2, w8, w9, w10⟩, ?_, ?_, ?_⟩
        · unfold f7_putMemory
          simp (disch := omega) only [bd_s, bd2_s, bn_e, ck_nI, dz_nI, cz_0, cz_1, ix_nI, le_t, le_f, lt_t, lt_f, eq_t, eq_f, if_true, if_false, nI_add, pk_sub, pk_mul, pk_div, c3, li0, li1, li2, li3, li4, li5, li6, li7, li8, li9, li10, li12, li15, li16, li20, li21, li24, li31, li32, li40, li41, li48, li53, li55, li56, li57, li63, li64, li100, li108, li112, li115, li126, li127, li255, li256, li576, li384]
        · unfold f9_rule_b49 f9_rule_b64 f9_rule_b78 f9_rule_b95
          simp (disch := omega) only [bd_s, bd2_s, bn_e, ck_nI, dz_nI, cz_0, cz_1, ix_nI, le_t, le_f, lt_t, lt_f, eq_t, eq_f, if_true, if_false, nI_add, pk_sub, pk_mul, pk_div, e1, e2, m1, m2, li0, li1, li2, li3, li4, li5, li6, li7, li8, li9, li10, li12, li15, li16, li20, li21, li24, li31, li32, li40, li41, li48, li53, li55, li56, li57, li63, li64, li100, li108, li112, li115, li126, li127, li255, li256, li576, li384]
        · exact ⟨c0, c1, c2, by simp [fi_sf, setM, dM], c4, c5, c6, c7, c8⟩
        · exact ⟨m0, by simp [fi_sf, setM, dW], by simp [fi_sf, setM, dM], m3, m4, m5, m6, m7, m8⟩
        · exact hH
      · have e2 : f9_in b.toInt64 3 9 = some 0 := m_in_no (by decide) (by decide) hb
        refine ⟨-102, qC, qM, ?_, ?_, d, hw, hC, hM, hH⟩
        · unfold f8_rule_b64
          rw [if_neg (by decide), if_pos (by decide)]
          by_cases h1 : b < 3
          · rw [if_pos h1]
          · rw [if_neg h1, if_neg]
            rw [show (9 : Int32) = nI 9 from rfl, leI (by decide)]
            rw [show (3 : Int32) = nI 3 from rfl, ltI (by decide)] at h1
            omega
        · simp (disch := omega) only [bd_s, bd2_s, bn_e, ck_nI, dz_nI, cz_0, cz_1, ix_nI, le_t, le_f, lt_t, lt_f, eq_t, eq_f, if_true, if_false, nI_add, pk_sub, pk_mul, pk_div, e1, e2, li0, li1, li2, li3, li4, li5, li6, li7, li8, li9, li10, li12, li15, li16, li20, li21, li24, li31, li32, li40, li41, li48, li53, li55, li56, li57, li63, li64, li100, li108, li112, li115, li126, li127, li255, li256, li576, li384]
  · have e1 : f9_in a.toInt64 0 1 = some 0 := m_in_no (by decide) (by decide) ha
    refine ⟨-101, qC, qM, ?_, ?_, d, hw, hC, hM, hH⟩
    · rw [if_neg, if_neg]
      · rw [show (1 : Int32) = nI 1 from rfl, eqI (by decide)]; omega
      · rw [show (0 : Int32) = nI 0 from rfl, eqI (by decide)]; omega
    · simp (disch := omega) only [bd_s, bd2_s, bn_e, ck_nI, dz_nI, cz_0, cz_1, ix_nI, le_t, le_f, lt_t, lt_f, eq_t, eq_f, if_true, if_false, nI_add, pk_sub, pk_mul, pk_div, e1, li0, li1, li2, li3, li4, li5, li6, li7, li8, li9, li10, li12, li15, li16, li20, li21, li24, li31, li32, li40, li41, li48, li53, li55, li56, li57, li63, li64, li100, li108, li112, li115, li126, li127, li255, li256, li576, li384]
theorem op_blank : Op_blank N Sim := by
  rintro qC qM ⟨d, hw, hC, hM, hH⟩
  obtain ⟨w0, w1, w2, w3, w4, w5, w6, w7, w8, w9, w10⟩ := hw
  obtain ⟨c0, c1, c2, c3, c4, c5, c6, c7, c8⟩ := hC
  obtain ⟨m0, m1, m2, m3, m4, m5, m6, m7, m8⟩ := hM
  refine ⟨nI (dG d), sf qC 4 0, sf qM 5 0, ?_, ?_, setG d 0 (dg d), ⟨w0, w1, w2, w3, w4, w5, w6, w7, by show 0 ≤ 40; decide, w9, w10⟩, ⟨c0, c1, c2, c3, rfl, c5, c6, c7, fun k hk => absurd hk (Nat.not_lt_zero k)⟩, ⟨m0, m1, m2, rfl, m4, m5, m6, m7, fun k hk => absurd hk (Nat.not_lt_zero k)⟩, hH⟩
  · unfold f8_blank f6_wipe
    simp (disch := omega) only [bd_s, bd2_s, bn_e, ck_nI, dz_nI, cz_0, cz_1, ix_nI, le_t, le_f, lt_t, lt_f, eq_t, eq_f, if_true, if_false, nI_add, pk_sub, pk_mul, pk_div, c4, li0, li1, li2, li3, li4, li5, li6, li7, li8, li9, li10, li12, li15, li16, li20, li21, li24, li31, li32, li40, li41, li48, li53, li55, li56, li57, li63, li64, li100, li108, li112, li115, li126, li127, li255, li256, li576, li384]
  · unfold f9_blank
    simp (disch := omega) only [bd_s, bd2_s, bn_e, ck_nI, dz_nI, cz_0, cz_1, ix_nI, le_t, le_f, lt_t, lt_f, eq_t, eq_f, if_true, if_false, nI_add, pk_sub, pk_mul, pk_div, m3, li0, li1, li2, li3, li4, li5, li6, li7, li8, li9, li10, li12, li15, li16, li20, li21, li24, li31, li32, li40, li41, li48, li53, li55, li56, li57, li63, li64, li100, li108, li112, li115, li126, li127, li255, li256, li576, li384]
theorem op_cover (hN : 1000 ≤ N) : Op_cover N Sim := by
  rintro a qC qM ⟨d, hw, hC, hM, hH⟩
  have h3 := two_pow_T hw
  unfold f8_cover f9_cover
  rcases scase a (n := 2 ^ dT d) (by omega) with ⟨s, s1, s2, rfl⟩ | ha
  · refine ⟨nI (cov d s), ?_, ?_, d, hw, hC, hM, hH⟩
    · simp (disch := omega) only [bd_s, bd2_s, bn_e, ck_nI, dz_nI, cz_0, cz_1, ix_nI, le_t, le_f, lt_t, lt_f, eq_t, eq_f, if_true, if_false, nI_add, pk_sub, pk_mul, pk_div, c_isSet hw hC s1 s2, c_cover hw hC hN s1 (show s < 64 by omega), li0, li1, li2, li3, li4, li5, li6, li7, li8, li9, li10, li12, li15, li16, li20, li21, li24, li31, li32, li40, li41, li48, li53, li55, li56, li57, li63, li64, li100, li108, li112, li115, li126, li127, li255, li256, li576, li384]
    · simp (disch := omega) only [bd_s, bd2_s, bn_e, ck_nI, dz_nI, cz_0, cz_1, ix_nI, le_t, le_f, lt_t, lt_f, eq_t, eq_f, if_true, if_false, nI_add, pk_sub, pk_mul, pk_div, m_isSet hw hM s1 s2, m_cover hw hM hN s1 (show s < 64 by omega), li0, li1, li2, li3, li4, li5, li6, li7, li8, li9, li10, li12, li15, li16, li20, li21, li24, li31, li32, li40, li41, li48, li53, li55, li56, li57, li63, li64, li100, li108, li112, li115, li126, li127, li255, li256, li576, li384]
  · refine ⟨-102, ?_, ?_, d, hw, hC, hM, hH⟩
    · simp (disch := omega) only [bd_s, bd2_s, bn_e, ck_nI, dz_nI, cz_0, cz_1, ix_nI, le_t, le_f, lt_t, lt_f, eq_t, eq_f, if_true, if_false, nI_add, pk_sub, pk_mul, pk_div, c_isSet_f hw hC ha, li0, li1, li2, li3, li4, li5, li6, li7, li8, li9, li10, li12, li15, li16, li20, li21, li24, li31, li32, li40, li41, li48, li53, li55, li56, li57, li63, li64, li100, li108, li112, li115, li126, li127, li255, li256, li576, li384]
    · simp (disch := omega) only [bd_s, bd2_s, bn_e, ck_nI, dz_nI, cz_0, cz_1, ix_nI, le_t, le_f, lt_t, lt_f, eq_t, eq_f, if_true, if_false, nI_add, pk_sub, pk_mul, pk_div, m_isSet_f hw hM ha, li0, li1, li2, li3, li4, li5, li6, li7, li8, li9, li10, li12, li15, li16, li20, li21, li24, li31, li32, li40, li41, li48, li53, li55, li56, li57, li63, li64, li100, li108, li112, li115, li126, li127, li255, li256, li576, li384]
theorem m_rowsOfAll {d : DB} {q : SS} (hw : WF d) (h : RMk d q) (hN : 1000 ≤ N) : f9_countOf_l43 N q N 0 0 = some (nI (bsum (dR d) (dT d))) := by
  have hT := hw.1
  refine loop_run (fun n (p : Int32 × Int32) => f9_countOf_l43 N q n p.1 p.2) (fun k p => f9_countOf_l43_B N q (fun a b => k (a, b)) p.1 p.2) (fun n p => rfl) (fun i => (nI (bsum (dR d) i), nI i)) (dT d) _ (c := 0) ?_ ?_ N 0 (Nat.le_refl _) (Nat.zero_le _) (by omega)
  · intro i _ hi k
    have e1 := h.2.2.2.2.2.2.1 i (by omega)
    dsimp only
    unfold f9_countOf_l43_B
    rw [h.1]
    simp (disch := omega) only [bd_s, bd2_s, bn_e, ck_nI, dz_nI, cz_0, cz_1, ix_nI, le_t, le_f, lt_t, lt_f, eq_t, eq_f, if_true, if_false, nI_add, pk_sub, pk_mul, pk_div, e1, li0, li1, li2, li3, li4, li5, li6, li7, li8, li9, li10, li12, li15, li16, li20, li21, li24, li31, li32, li40, li41, li48, li53, li55, li56, li57, li63, li64, li100, li108, li112, li115, li126, li127, li255, li256, li576, li384]
    rfl
  · intro k
    dsimp only
    unfold f9_countOf_l43_B
    rw [h.1]
    simp (disch := omega) only [bd_s, bd2_s, bn_e, ck_nI, dz_nI, cz_0, cz_1, ix_nI, le_t, le_f, lt_t, lt_f, eq_t, eq_f, if_true, if_false, nI_add, pk_sub, pk_mul, pk_div, li0, li1, li2, li3, li4, li5, li6, li7, li8, li9, li10, li12, li15, li16, li20, li21, li24, li31, li32, li40, li41, li48, li53, li55, li56, li57, li63, li64, li100, li108, li112, li115, li126, li127, li255, li256, li576, li384]
/-- count() of both -/
theorem count_both {d : DB} {qC qM : SS} (hN : 1000 ≤ N) (hw : WF d) (hC : RC d qC) (hM : RMk d qM) (a : Int32) : ∃ r, f8_count N qC a = some r ∧ f9_countOf N qM a = some r := by
  have h3 := two_pow_T hw
  have h4 := two_pow_T1 hw
  have hT := hw.1
  have hs : jshl 1 (nI (dT d)) - 1 = nI (2 ^ dT d - 1) := by rw [shl1_T hw, li1, pk_sub h4]
  unfold f8_count f9_countOf
  rcases rcase a 0 (hi := 4) (by decide) with ⟨j, j1, j2, rfl⟩ | ha
  · rcases (show j = 0 ∨ j = 1 ∨ j = 2 ∨ j = 3 ∨ j = 4 by omega) with rfl | rfl | rfl | rfl | rfl
    · refine ⟨nI (dT d), ?_, ?_⟩
      · unfold f7_tablesMade
        simp (disch := omega) only [bd_s, bd2_s, bn_e, ck_nI, dz_nI, cz_0, cz_1, ix_nI, le_t, le_f, lt_t, lt_f, eq_t, eq_f, if_true, if_false, nI_add, pk_sub, pk_mul, pk_div, hC.2.1, li0, li1, li2, li3, li4, li5, li6, li7, li8, li9, li10, li12, li15, li16, li20, li21, li24, li31, li32, li40, li41, li48, li53, li55, li56, li57, li63, li64, li100, li108, li112, li115, li126, li127, li255, li256, li576, li384]
      · simp (disch := omega) only [bd_s, bd2_s, bn_e, ck_nI, dz_nI, cz_0, cz_1, ix_nI, le_t, le_f, lt_t, lt_f, eq_t, eq_f, if_true, if_false, nI_add, pk_sub, pk_mul, pk_div, hM.1, li0, li1, li2, li3, li4, li5, li6, li7, li8, li9, li10, li12, li15, li16, li20, li21, li24, li31, li32, li40, li41, li48, li53, li55, li56, li57, li63, li64, li100, li108, li112, li115, li126, li127, li255, li256, li576, li384]
    · refine ⟨nI (bsum (dR d) (dT d)), ?_, ?_⟩
      · rw [if_neg (by decide), if_pos (by decide), c_rowsOfAll hw hC hN, bd_s]
      · rw [if_neg (by decide), if_pos (by decide), m_rowsOfAll hw hM hN]
    · refine ⟨nI (dG d), ?_, ?_⟩
      · unfold f6_length
        rw [if_neg (by decide), if_neg (by decide), if_pos (by decide), hC.2.2.2.2.1, bd_s]
      · rw [if_neg (by decide), if_neg (by decide), if_pos (by decide), hM.2.2.2.1]
    · have l1 := lS_lt hw (2 ^ dT d - 1)
      refine ⟨nI (pc (lS d (2 ^ dT d - 1))), ?_, ?_⟩
      · unfold f7_allTables
        rw [if_neg (by decide), if_neg (by decide), if_neg (by decide), if_pos (by decide), hC.2.1, hs, bd_s, c_lettersOfSet hw hC hN (by omega), bd_s, bitCount_ok (by omega), bd_s]
      · rw [if_neg (by decide), if_neg (by decide), if_neg (by decide), if_pos (by decide), hM.1, hs, m_lettersIn hw hM hN (by omega), bd_s, m_bitsOf hN l1, bd_s]
    · refine ⟨nI (dD d), ?_, ?_⟩
      · rw [if_neg (by decide), if_neg (by decide), if_neg (by decide), if_neg (by decide), if_pos (by decide), hC.1]
      · rw [if_neg (by decide), if_neg (by decide), if_neg (by decide), if_neg (by decide), if_pos (by decide), hM.2.2.2.2.1]
  · have hne : ∀ k : Nat, k ≤ 4 → ¬ a = nI k := fun k hk => by rw [eqI (by omega)]; omega
    have n0 : ¬ a = 0 := hne 0 (by decide)
    have n1 : ¬ a = 1 := hne 1 (by decide)
    have n2 : ¬ a = 2 := hne 2 (by decide)
    have n3 : ¬ a = 3 := hne 3 (by decide)
    have n4 : ¬ a = 4 := hne 4 (by decide)
    exact ⟨-102, by rw [if_neg n0, if_neg n1, if_neg n2, if_neg n3, if_neg n4], by rw [if_neg n0, if_neg n1, if_neg n2, if_neg n3, if_neg n4]⟩
theorem op_count (hN : 1000 ≤ N) : Op_count N Sim := by
  rintro a qC qM ⟨d, hw, hC, hM, hH⟩
  obtain ⟨r, h1, h2⟩ := count_both hN hw hC hM a
  exact ⟨r, h1, by unfold f9_count; rw [h2, bd_s], d, hw, hC, hM, hH⟩
end Ops1
