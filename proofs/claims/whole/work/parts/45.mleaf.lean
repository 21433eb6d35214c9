/-! the reference's small methods -/
def RMk (d : DB) (q : SS) : Prop := fi q 0 = nI (dT d) ∧ fi q 1 = nI (dW d) ∧ fi q 2 = nI (dM d) ∧ fi q 5 = nI (dG d) ∧ fi q 12 = nI (dD d) ∧ (∀ t, t < dT d → ar q 1 t = nI (dL d t) ∧ ar q 2 t = nI (dP d t)) ∧ (∀ t, t < 6 → ar q 3 t = nI (dR d t)) ∧ (∀ t i l, t < dT d → i < dR d t → l < 8 → (dL d t).testBit l = true → ar q 4 (64 * t + 8 * i + l) = nI (dV d t i l)) ∧ (∀ k, k < dG d → ar q 11 k = nI (dg d k))
def sameM (q q' : SS) : Prop := (∀ k, k ≤ 3 ∨ k = 5 ∨ k = 12 → fi q' k = fi q k) ∧ ∀ k, (1 ≤ k ∧ k ≤ 4) ∨ k = 8 ∨ k = 11 → ar q' k = ar q k
theorem sameM.rf {q : SS} : sameM q q := ⟨fun _ _ => rfl, fun _ _ => rfl⟩
theorem sameM.tr {a b c : SS} (h : sameM a b) (g : sameM b c) : sameM a c := ⟨fun k hk => (g.1 k hk).trans (h.1 k hk), fun k hk => (g.2 k hk).trans (h.2 k hk)⟩
theorem sameM.sf {q q' : SS} (h : sameM q q') {k : Nat} (hk : ¬ (k ≤ 3 ∨ k = 5 ∨ k = 12)) (v : Int32) : sameM q (sf q' k v) := ⟨fun j hj => by rw [fi_sf, if_neg (by omega)]; exact h.1 j hj, fun j hj => h.2 j hj⟩
theorem sameM.sa {q q' : SS} (h : sameM q q') {k : Nat} (hk : ¬ ((1 ≤ k ∧ k ≤ 4) ∨ k = 8 ∨ k = 11)) (i : Nat) (v : Int32) : sameM q (sa q' k i v) := ⟨fun j hj => h.1 j hj, fun j hj => by
  funext m
  rw [ar_sa, if_neg (show ¬ j = k by omega), h.2 j hj]⟩
theorem RMk.same {d : DB} {q q' : SS} (h : RMk d q) (s : sameM q q') : RMk d q' := by
  obtain ⟨h0, h1, h2, h3, h4, h5, h6, h7, h8⟩ := h
  exact ⟨by rw [s.1 0 (by omega)]; exact h0, by rw [s.1 1 (by omega)]; exact h1, by rw [s.1 2 (by omega)]; exact h2, by rw [s.1 5 (by omega)]; exact h3, by rw [s.1 12 (by omega)]; exact h4,
    fun t ht => by rw [s.2 1 (by omega), s.2 2 (by omega)]; exact h5 t ht, fun t ht => by rw [s.2 3 (by omega)]; exact h6 t ht, fun t i l ht hi hl hb => by rw [s.2 4 (by omega)]; exact h7 t i l ht hi hl hb, fun k hk => by rw [s.2 11 (by omega)]; exact h8 k hk⟩
section MLeaf
variable {d : DB} {q : SS}
theorem m_in_t {x : Int32} {a b : Int64} (h1 : a.toInt ≤ x.toInt) (h2 : x.toInt ≤ b.toInt) : f9_in x.toInt64 a b = some 1 := by
  unfold f9_in
  rw [if_neg (by rw [Int64.lt_iff_toInt_lt, Int32.toInt_toInt64]; omega), if_neg (by rw [Int64.lt_iff_toInt_lt, Int32.toInt_toInt64]; omega)]
theorem m_in_f {x : Int32} {a b : Int64} (h : x.toInt < a.toInt ∨ b.toInt < x.toInt) : f9_in x.toInt64 a b = some 0 := by
  unfold f9_in
  by_cases h1 : x.toInt < a.toInt
  · rw [if_pos (by rw [Int64.lt_iff_toInt_lt, Int32.toInt_toInt64]; exact h1)]
  · rw [if_neg (by rw [Int64.lt_iff_toInt_lt, Int32.toInt_toInt64]; exact h1), if_pos (by rw [Int64.lt_iff_toInt_lt, Int32.toInt_toInt64]; omega)]
theorem pred_toInt {n : Nat} (h : n < 2 ^ 30) : (nI n - 1).toInt64.toInt = (n : Int) - 1 := by
  rw [Int32.toInt_toInt64, li1, pk_sub_toInt h (by decide)]
  rfl
theorem lt0_toInt {x : Int32} : x < 0 ↔ x.toInt < 0 := by rw [Int32.lt_iff_toInt_lt]; rfl
theorem nI_le_toInt {x : Int32} {n : Nat} (h : n < 2 ^ 31) : nI n ≤ x ↔ (n : Int) ≤ x.toInt := by rw [Int32.le_iff_toInt_le, nI_toInt h]
theorem lit0L : (0 : Int64).toInt = 0 := by decide
theorem m_isTable (hw : WF d) (h : RMk d q) {t : Nat} (ht : t < dT d) : f9_isTable q (nI t) = some 1 := by
  have hT := hw.1
  unfold f9_isTable
  rw [h.1, m_in_t (by rw [nI_toInt (by omega), lit0L]; omega) (by rw [nI_toInt (by omega), pred_toInt (by omega)]; omega), bd_s, cz_1]
theorem m_isTable_f (hw : WF d) (h : RMk d q) {x : Int32} (hx : x < 0 ∨ (¬ x < 0 ∧ nI (dT d) ≤ x)) : f9_isTable q x = some 0 := by
  have hT := hw.1
  unfold f9_isTable
  rw [h.1, m_in_f, bd_s, cz_0]
  rcases hx with hx | ⟨h1, h2⟩
  · left; rw [lt0_toInt] at hx; rw [lit0L]; exact hx
  · right; rw [nI_le_toInt (by omega)] at h2; rw [pred_toInt (by omega)]; omega
theorem m_isSet (hw : WF d) (h : RMk d q) {s : Nat} (h1 : 1 ≤ s) (h2 : s < 2 ^ dT d) : f9_isSet q (nI s) = some 1 := by
  have h3 := two_pow_T hw
  unfold f9_isSet
  rw [h.1, shl1_T hw, m_in_t (by rw [nI_toInt (by omega)]; show (1 : Int) ≤ _; omega) (by rw [nI_toInt (by omega), pred_toInt (by omega)]; omega), bd_s, cz_1]
theorem m_isSet_f (hw : WF d) (h : RMk d q) {x : Int32} (hx : x < 1 ∨ (¬ x < 1 ∧ nI (2 ^ dT d) ≤ x)) : f9_isSet q x = some 0 := by
  have h3 := two_pow_T hw
  unfold f9_isSet
  rw [h.1, shl1_T hw, m_in_f, bd_s, cz_0]
  rcases hx with hx | ⟨h1, h2⟩
  · left; rw [Int32.lt_iff_toInt_lt] at hx; exact hx
  · right; rw [nI_le_toInt (by omega)] at h2; rw [pred_toInt (by omega)]; omega
theorem m_has (hw : WF d) (h : RMk d q) {t l : Nat} (ht : t < dT d) (hl : l < 32) : f9_has q (nI t) (nI l) = some (nI ((dL d t).testBit l).toNat) := by
  have hT := hw.1
  have hL := (hw.2.1 t ht).2.1
  have h1 := (h.2.2.2.2.2.1 t ht).1
  unfold f9_has
  have h2 := has_nI hL hl
  rw [li1] at h2
  simp (disch := omega) only [bd_s, bd2_s, bn_e, ck_nI, dz_nI, cz_0, cz_1, ix_nI, le_t, le_f, lt_t, lt_f, eq_t, eq_f, if_true, if_false, nI_add, pk_sub, pk_mul, pk_div, h1, h2, b1_eq, li0, li1, li2, li3, li4, li5, li6, li7, li8, li9, li10, li12, li15, li16, li20, li21, li24, li31, li32, li40, li41, li48, li53, li55, li56, li57, li63, li64, li100, li108, li112, li115, li126, li127, li255, li256, li576, li384]
  cases (dL d t).testBit l <;> rfl
theorem bsum8 {s : Nat} (h : s < 256) : bsum (fun k => (s.testBit k).toNat) 8 = pc s := by
  have key : ∀ s : Fin 256, bsum (fun k => (s.1.testBit k).toNat) 8 = pc s.1 := by decide +kernel
  exact key ⟨s, h⟩
theorem m_bitsOf {N s : Nat} (hN : 1000 ≤ N) (hs : s < 256) : f9_bitsOf N (nI s) = some (nI (pc s)) := by
  rw [← bsum8 hs]
  refine loop_run (fun n (p : Int32 × Int32 × Int32) => f9_bitsOf_l4 N n p.1 p.2.1 p.2.2) (fun k p => f9_bitsOf_l4_B N (fun a b c => k (a, b, c)) p.1 p.2.1 p.2.2) (fun n p => rfl) (fun i => (nI s, nI (bsum (fun k => (s.testBit k).toNat) i), nI i)) 8 _ (c := 0) ?_ ?_ N 0 (Nat.le_refl _) (Nat.zero_le _) (by omega)
  · intro i _ hi k
    have e1 := bit_nI (a := s) (b := i) (by omega) (by omega)
    dsimp only
    unfold f9_bitsOf_l4_B
    rw [e1]
    simp (disch := omega) only [bd_s, bd2_s, bn_e, ck_nI, dz_nI, cz_0, cz_1, ix_nI, le_t, le_f, lt_t, lt_f, eq_t, eq_f, if_true, if_false, nI_add, pk_sub, pk_mul, pk_div, li0, li1, li2, li3, li4, li5, li6, li7, li8, li9, li10, li12, li15, li16, li20, li21, li24, li31, li32, li40, li41, li48, li53, li55, li56, li57, li63, li64, li100, li108, li112, li115, li126, li127, li255, li256, li576, li384]
    rfl
  · intro k
    dsimp only
    unfold f9_bitsOf_l4_B
    simp (disch := omega) only [bd_s, bd2_s, bn_e, ck_nI, dz_nI, cz_0, cz_1, ix_nI, le_t, le_f, lt_t, lt_f, eq_t, eq_f, if_true, if_false, nI_add, pk_sub, pk_mul, pk_div, li0, li1, li2, li3, li4, li5, li6, li7, li8, li9, li10, li12, li15, li16, li20, li21, li24, li31, li32, li40, li41, li48, li53, li55, li56, li57, li63, li64, li100, li108, li112, li115, li126, li127, li255, li256, li576, li384]
theorem m_up {a b : Nat} (hb : 1 ≤ b) (h : a + b < 2 ^ 31) : f9_up (nI a) (nI b) = some (nI ((a + b - 1) / b)) := by
  unfold f9_up
  simp (disch := omega) only [bd_s, bd2_s, bn_e, ck_nI, dz_nI, cz_0, cz_1, ix_nI, le_t, le_f, lt_t, lt_f, eq_t, eq_f, if_true, if_false, nI_add, pk_sub, pk_mul, pk_div, li0, li1, li2, li3, li4, li5, li6, li7, li8, li9, li10, li12, li15, li16, li20, li21, li24, li31, li32, li40, li41, li48, li53, li55, li56, li57, li63, li64, li100, li108, li112, li115, li126, li127, li255, li256, li576, li384]
theorem m_lettersIn (hw : WF d) (h : RMk d q) {N s : Nat} (hN : 1000 ≤ N) (hs : s < 2 ^ 31) : f9_lettersIn N q (nI s) = some (nI (lS d s)) := by
  have hT := hw.1
  refine loop_run (fun n (p : Int32 × Int32 × Int32) => f9_lettersIn_l4 N q n p.1 p.2.1 p.2.2) (fun k p => f9_lettersIn_l4_B N q (fun a b c => k (a, b, c)) p.1 p.2.1 p.2.2) (fun n p => rfl) (fun i => (nI s, nI (lset d s i), nI i)) (dT d) _ (c := 0) ?_ ?_ N 0 (Nat.le_refl _) (Nat.zero_le _) (by omega)
  · intro i _ hi k
    have h1 := (h.2.2.2.2.2.1 i hi).1
    have h2 := bit_nI hs (b := i) (by omega)
    have h3 := lset_lt hw s i (by omega)
    have h4 := (hw.2.1 i hi).2.1
    have h5 := or_nI (a := lset d s i) (b := dL d i) (by omega) (by omega)
    have h6 := or_nI (a := lset d s i) (b := 0) (by omega) (by omega)
    dsimp only
    unfold f9_lettersIn_l4_B f9_lettersIn_b32
    rw [h.1, h2]
    simp (disch := omega) only [bd_s, bd2_s, bn_e, ck_nI, dz_nI, cz_0, cz_1, ix_nI, le_t, le_f, lt_t, lt_f, eq_t, eq_f, if_true, if_false, nI_add, pk_sub, pk_mul, pk_div, h1, b1_eq, h5, h6, li0, li1, li2, li3, li4, li5, li6, li7, li8, li9, li10, li12, li15, li16, li20, li21, li24, li31, li32, li40, li41, li48, li53, li55, li56, li57, li63, li64, li100, li108, li112, li115, li126, li127, li255, li256, li576, li384]
    show _ = k (nI s, nI (lset d s i ||| (if s.testBit i then dL d i else 0)), nI (i + 1))
    cases s.testBit i
    · simp only [if_false, Bool.false_eq_true]
    · simp only [if_true]
  · intro k
    dsimp only
    unfold f9_lettersIn_l4_B
    rw [h.1]
    simp (disch := omega) only [bd_s, bd2_s, bn_e, ck_nI, dz_nI, cz_0, cz_1, ix_nI, le_t, le_f, lt_t, lt_f, eq_t, eq_f, if_true, if_false, nI_add, pk_sub, pk_mul, pk_div, li0, li1, li2, li3, li4, li5, li6, li7, li8, li9, li10, li12, li15, li16, li20, li21, li24, li31, li32, li40, li41, li48, li53, li55, li56, li57, li63, li64, li100, li108, li112, li115, li126, li127, li255, li256, li576, li384]
    rfl
theorem m_addr (hw : WF d) (h : RMk d q) {t i l : Nat} (ht : t < dT d) (hi : i < dR d t) (hl : l < 8) (hb : (dL d t).testBit l = true) : ar q 4 (64 * t + 8 * i + l) = nI (dV d t i l) := h.2.2.2.2.2.2.2.1 t i l ht hi hl hb
/-- the rows up to i rise by l -/
def riseTo (d : DB) (t l i : Nat) : Bool := decide (∀ j, j < i → 1 ≤ j → dV d t (j - 1) l ≤ dV d t j l)
theorem riseTo_s (t l i : Nat) (hi : 1 ≤ i) : riseTo d t l (i + 1) = (riseTo d t l i && decide (dV d t (i - 1) l ≤ dV d t i l)) := by
  unfold riseTo
  rw [← Bool.decide_and, decide_eq_decide]
  constructor
  · intro e
    exact ⟨fun j h1 h2 => e j (by omega) h2, e i (by omega) hi⟩
  · intro ⟨e1, e2⟩ j h1 h2
    by_cases hj : j = i
    · subst hj; exact e2
    · exact e1 j (by omega) h2
theorem m_sortedBy (hw : WF d) (h : RMk d q) {N t : Nat} (hN : 1000 ≤ N) (ht : t < dT d) : f9_sortedBy N q (nI t) = some (nI (sb d t) - 1) := by
  have hT := hw.1
  have hR := (hw.2.1 t ht).2.2.2.2.2
  have e0 := h.2.2.2.2.2.2.1 t (by omega)
  have inner : ∀ (bk : Int32 → Int32 → Option Int32) (l : Nat), l < 8 → f9_sortedBy_l18 N q bk N (nI t) (nI l) (nI ((dL d t).testBit l).toNat) (nI 1) = if sbp d t l then some (nI l) else bk (nI t) (nI (l + 1)) := by
    intro bk l hl
    have key := loop_run (fun n (p : Int32 × Int32 × Int32 × Int32) => f9_sortedBy_l18 N q bk n p.1 p.2.1 p.2.2.1 p.2.2.2) (fun k p => f9_sortedBy_l18_B N q bk (fun a b c e => k (a, b, c, e)) p.1 p.2.1 p.2.2.1 p.2.2.2) (fun n p => rfl) (fun i => (nI t, nI l, nI ((dL d t).testBit l && riseTo d t l i).toNat, nI i)) (max 1 (dR d t)) (if sbp d t l then some (nI l) else bk (nI t) (nI (l + 1))) (c := 1) (fun i hi1 hi k => by
      have hi2 : i < dR d t := by omega
      have hs := riseTo_s (d := d) t l i hi1
      dsimp only
      unfold f9_sortedBy_l18_B f9_sortedBy_b77 f9_sortedBy_b78
      cases hb : (dL d t).testBit l
      · simp (disch := omega) only [bd_s, bd2_s, bn_e, ck_nI, dz_nI, cz_0, cz_1, ix_nI, le_t, le_f, lt_t, lt_f, eq_t, eq_f, if_true, if_false, nI_add, pk_sub, pk_mul, pk_div, e0, Bool.false_and, Bool.toNat_false, li0, li1, li2, li3, li4, li5, li6, li7, li8, li9, li10, li12, li15, li16, li20, li21, li24, li31, li32, li40, li41, li48, li53, li55, li56, li57, li63, li64, li100, li108, li112, li115, li126, li127, li255, li256, li576, li384]
      · have a1 := m_addr hw h ht hi2 hl hb
        have a2 : ar q 4 (64 * t + 8 * i - 8 + l) = nI (dV d t (i - 1) l) := by
          rw [show 64 * t + 8 * i - 8 + l = 64 * t + 8 * (i - 1) + l by omega]
          exact m_addr hw h ht (by omega) hl hb
        have v1 := hw.2.2.2.1 t i l
        have v2 := hw.2.2.2.1 t (i - 1) l
        rw [hs]
        cases hr : riseTo d t l i
        · simp (disch := omega) only [bd_s, bd2_s, bn_e, ck_nI, dz_nI, cz_0, cz_1, ix_nI, le_t, le_f, lt_t, lt_f, eq_t, eq_f, if_true, if_false, nI_add, pk_sub, pk_mul, pk_div, e0, Bool.true_and, Bool.false_and, Bool.toNat_false, li0, li1, li2, li3, li4, li5, li6, li7, li8, li9, li10, li12, li15, li16, li20, li21, li24, li31, li32, li40, li41, li48, li53, li55, li56, li57, li63, li64, li100, li108, li112, li115, li126, li127, li255, li256, li576, li384]
        · by_cases hv : dV d t (i - 1) l ≤ dV d t i l
          · simp (disch := omega) only [bd_s, bd2_s, bn_e, ck_nI, dz_nI, cz_0, cz_1, ix_nI, le_t, le_f, lt_t, lt_f, eq_t, eq_f, if_true, if_false, nI_add, pk_sub, pk_mul, pk_div, e0, a1, a2, Bool.true_and, Bool.toNat_true, hv, decide_true, li0, li1, li2, li3, li4, li5, li6, li7, li8, li9, li10, li12, li15, li16, li20, li21, li24, li31, li32, li40, li41, li48, li53, li55, li56, li57, li63, li64, li100, li108, li112, li115, li126, li127, li255, li256, li576, li384]
          · simp (disch := omega) only [bd_s, bd2_s, bn_e, ck_nI, dz_nI, cz_0, cz_1, ix_nI, le_t, le_f, lt_t, lt_f, eq_t, eq_f, if_true, if_false, nI_add, pk_sub, pk_mul, pk_div, e0, a1, a2, Bool.true_and, Bool.toNat_true, hv, decide_false, Bool.toNat_false, li0, li1, li2, li3, li4, li5, li6, li7, li8, li9, li10, li12, li15, li16, li20, li21, li24, li31, li32, li40, li41, li48, li53, li55, li56, li57, li63, li64, li100, li108, li112, li115, li126, li127, li255, li256, li576, li384]) (fun k => by
      have hs : riseTo d t l (max 1 (dR d t)) = rise d t l := by
        unfold riseTo rise
        rw [decide_eq_decide]
        exact ⟨fun e j h1 h2 => e j (by omega) h2, fun e j h1 h2 => e j (by omega) h2⟩
      dsimp only
      unfold f9_sortedBy_l18_B
      rw [hs, show ((dL d t).testBit l && rise d t l) = sbp d t l from rfl]
      cases sbp d t l
      · simp (disch := omega) only [bd_s, bd2_s, bn_e, ck_nI, dz_nI, cz_0, cz_1, ix_nI, le_t, le_f, lt_t, lt_f, eq_t, eq_f, if_true, if_false, nI_add, pk_sub, pk_mul, pk_div, e0, Bool.toNat_false, Bool.false_eq_true, li0, li1, li2, li3, li4, li5, li6, li7, li8, li9, li10, li12, li15, li16, li20, li21, li24, li31, li32, li40, li41, li48, li53, li55, li56, li57, li63, li64, li100, li108, li112, li115, li126, li127, li255, li256, li576, li384]
      · simp (disch := omega) only [bd_s, bd2_s, bn_e, ck_nI, dz_nI, cz_0, cz_1, ix_nI, le_t, le_f, lt_t, lt_f, eq_t, eq_f, if_true, if_false, nI_add, pk_sub, pk_mul, pk_div, e0, Bool.toNat_true, li0, li1, li2, li3, li4, li5, li6, li7, li8, li9, li10, li12, li15, li16, li20, li21, li24, li31, li32, li40, li41, li48, li53, li55, li56, li57, li63, li64, li100, li108, li112, li115, li126, li127, li255, li256, li576, li384]) N 1 (Nat.le_refl _) (by omega) (by omega)
    have h1 : riseTo d t l 1 = true := decide_eq_true (fun j h1 h2 => by omega)
    rw [h1, Bool.and_true] at key
    exact key
  have key := loop_find (fun n (p : Int32 × Int32) => f9_sortedBy_l2 N q n p.1 p.2) (fun k p => f9_sortedBy_l2_B N q (fun a b => k (a, b)) p.1 p.2) (fun n p => rfl) (fun i => (nI t, nI i)) (sbp d t) 8 (fun i => if i < 8 then some (nI i) else some (-1)) (c := 0) (fun i _ hi k => by
    have e1 := m_has hw h ht (l := i) (by omega)
    dsimp only
    rw [if_pos hi]
    unfold f9_sortedBy_l2_B
    rw [e1, bd_s, if_neg (show ¬ (8 : Int32) ≤ nI i from nI_ge hi (by decide))]
    exact inner _ i hi) (fun k => by
    dsimp only
    rw [if_neg (by decide)]
    unfold f9_sortedBy_l2_B
    rw [if_pos (by decide)]) 8 N 0 (Nat.le_refl _) rfl (by omega)
  refine Eq.trans (key : f9_sortedBy N q (nI t) = _) ?_
  unfold sb
  by_cases hx : ff (sbp d t) 0 8 < 8
  · rw [if_pos hx, if_pos hx, nI_pred]
  · rw [if_neg hx, if_neg hx]
    rfl
theorem m_unlike (hw : WF d) (h : RMk d q) {N t l : Nat} (hN : 1000 ≤ N) (ht : t < dT d) (hl : l < 8) (hb : (dL d t).testBit l = true) : f9_unlikeOf N q (nI t) (nI l) = some (nI (uq d t l)) := by
  have hT := hw.1
  have hR := (hw.2.1 t ht).2.2.2.2.2
  have e0 := h.2.2.2.2.2.2.1 t (by omega)
  have hv : ∀ i, dV d t i l < 2 ^ 31 := fun i => by have := hw.2.2.2.1 t i l; omega
  have inner : ∀ (bk : Int32 → Int32 → Int32 → Int32 → Option Int32) (m i : Nat), i < dR d t → f9_unlikeOf_l22 N q bk N (nI t) (nI l) (nI m) (nI i) (nI 1) (nI 0) = bk (nI t) (nI l) (nI (m + (if ∀ j, j < i → dV d t j l ≠ dV d t i l then 1 else 0))) (nI (i + 1)) := by
    intro bk m i hi
    have key := loop_run (fun n (p : Int32 × Int32 × Int32 × Int32 × Int32 × Int32) => f9_unlikeOf_l22 N q bk n p.1 p.2.1 p.2.2.1 p.2.2.2.1 p.2.2.2.2.1 p.2.2.2.2.2) (fun k p => f9_unlikeOf_l22_B N q bk (fun a b c e f g => k (a, b, c, e, f, g)) p.1 p.2.1 p.2.2.1 p.2.2.2.1 p.2.2.2.2.1 p.2.2.2.2.2) (fun n p => rfl) (fun j => (nI t, nI l, nI m, nI i, nI (decide (∀ a, a < j → dV d t a l ≠ dV d t i l)).toNat, nI j)) i (bk (nI t) (nI l) (nI (m + (if ∀ j, j < i → dV d t j l ≠ dV d t i l then 1 else 0))) (nI (i + 1))) (c := 0) (fun j _ hj k => by
      have a1 := m_addr hw h ht (show j < dR d t by omega) hl hb
      have a2 := m_addr hw h ht hi hl hb
      dsimp only
      unfold f9_unlikeOf_l22_B f9_unlikeOf_b75 f9_unlikeOf_b76
      by_cases c1 : ∀ a, a < j → dV d t a l ≠ dV d t i l
      · by_cases c2 : dV d t j l = dV d t i l
        · have c3 : ¬ ∀ a, a < j + 1 → dV d t a l ≠ dV d t i l := fun z => z j (by omega) c2
          rw [decide_eq_true c1, decide_eq_false c3]
          simp (disch := omega) only [bd_s, bd2_s, bn_e, ck_nI, dz_nI, cz_0, cz_1, ix_nI, le_t, le_f, lt_t, lt_f, eq_t, eq_f, if_true, if_false, nI_add, pk_sub, pk_mul, pk_div, a1, a2, c2, Bool.toNat_true, Bool.toNat_false, li0, li1, li2, li3, li4, li5, li6, li7, li8, li9, li10, li12, li15, li16, li20, li21, li24, li31, li32, li40, li41, li48, li53, li55, li56, li57, li63, li64, li100, li108, li112, li115, li126, li127, li255, li256, li576, li384]
        · have c3 : ∀ a, a < j + 1 → dV d t a l ≠ dV d t i l := fun a ha => by
            by_cases hja : a = j
            · subst hja; exact c2
            · exact c1 a (by omega)
          have v1 := hv j
          have v2 := hv i
          rw [decide_eq_true c1, decide_eq_true c3]
          simp (disch := omega) only [bd_s, bd2_s, bn_e, ck_nI, dz_nI, cz_0, cz_1, ix_nI, le_t, le_f, lt_t, lt_f, eq_t, eq_f, if_true, if_false, nI_add, pk_sub, pk_mul, pk_div, a1, a2, Bool.toNat_true, li0, li1, li2, li3, li4, li5, li6, li7, li8, li9, li10, li12, li15, li16, li20, li21, li24, li31, li32, li40, li41, li48, li53, li55, li56, li57, li63, li64, li100, li108, li112, li115, li126, li127, li255, li256, li576, li384]
      · have c3 : ¬ ∀ a, a < j + 1 → dV d t a l ≠ dV d t i l := fun z => c1 (fun a ha => z a (by omega))
        rw [decide_eq_false c1, decide_eq_false c3]
        simp (disch := omega) only [bd_s, bd2_s, bn_e, ck_nI, dz_nI, cz_0, cz_1, ix_nI, le_t, le_f, lt_t, lt_f, eq_t, eq_f, if_true, if_false, nI_add, pk_sub, pk_mul, pk_div, Bool.toNat_false, li0, li1, li2, li3, li4, li5, li6, li7, li8, li9, li10, li12, li15, li16, li20, li21, li24, li31, li32, li40, li41, li48, li53, li55, li56, li57, li63, li64, li100, li108, li112, li115, li126, li127, li255, li256, li576, li384]) (fun k => by
      dsimp only
      unfold f9_unlikeOf_l22_B f9_unlikeOf_b95
      by_cases c1 : ∀ a, a < i → dV d t a l ≠ dV d t i l
      · rw [decide_eq_true c1, if_pos c1]
        simp (disch := omega) only [bd_s, bd2_s, bn_e, ck_nI, dz_nI, cz_0, cz_1, ix_nI, le_t, le_f, lt_t, lt_f, eq_t, eq_f, if_true, if_false, nI_add, pk_sub, pk_mul, pk_div, Bool.toNat_true, li0, li1, li2, li3, li4, li5, li6, li7, li8, li9, li10, li12, li15, li16, li20, li21, li24, li31, li32, li40, li41, li48, li53, li55, li56, li57, li63, li64, li100, li108, li112, li115, li126, li127, li255, li256, li576, li384]
      · rw [decide_eq_false c1, if_neg c1]
        simp (disch := omega) only [bd_s, bd2_s, bn_e, ck_nI, dz_nI, cz_0, cz_1, ix_nI, le_t, le_f, lt_t, lt_f, eq_t, eq_f, if_true, if_false, nI_add, pk_sub, pk_mul, pk_div, Bool.toNat_false, li0, li1, li2, li3, li4, li5, li6, li7, li8, li9, li10, li12, li15, li16, li20, li21, li24, li31, li32, li40, li41, li48, li53, li55, li56, li57, li63, li64, li100, li108, li112, li115, li126, li127, li255, li256, li576, li384]) N 0 (Nat.le_refl _) (Nat.zero_le _) (by omega)
    rw [decide_eq_true (show ∀ a, a < 0 → dV d t a l ≠ dV d t i l from fun a ha => by omega)] at key
    exact key
  refine loop_run (fun n (p : Int32 × Int32 × Int32 × Int32) => f9_unlikeOf_l5 N q n p.1 p.2.1 p.2.2.1 p.2.2.2) (fun k p => f9_unlikeOf_l5_B N q (fun a b c e => k (a, b, c, e)) p.1 p.2.1 p.2.2.1 p.2.2.2) (fun n p => rfl) (fun i => (nI t, nI l, nI (uqf (fun i => dV d t i l) i), nI i)) (dR d t) _ (c := 0) ?_ ?_ N 0 (Nat.le_refl _) (Nat.zero_le _) (by omega)
  · intro i _ hi k
    dsimp only
    unfold f9_unlikeOf_l5_B
    rw [ck_nI (by omega) (by decide), ix_nI (by omega), e0, if_neg (nI_ge hi (by omega))]
    exact inner _ _ i hi
  · intro k
    dsimp only
    unfold f9_unlikeOf_l5_B
    simp (disch := omega) only [bd_s, bd2_s, bn_e, ck_nI, dz_nI, cz_0, cz_1, ix_nI, le_t, le_f, lt_t, lt_f, eq_t, eq_f, if_true, if_false, nI_add, pk_sub, pk_mul, pk_div, e0, li0, li1, li2, li3, li4, li5, li6, li7, li8, li9, li10, li12, li15, li16, li20, li21, li24, li31, li32, li40, li41, li48, li53, li55, li56, li57, li63, li64, li100, li108, li112, li115, li126, li127, li255, li256, li576, li384]
    rfl
theorem sub_andn {a b : Nat} : (a &&& b = a) ↔ andn a b = 0 := by
  constructor
  · intro h; unfold andn; rw [h]; exact Nat.xor_self a
  · intro h
    apply Nat.eq_of_testBit_eq
    intro i
    have h1 : (andn a b).testBit i = false := by rw [h]; exact Nat.zero_testBit i
    rw [andn_bit] at h1
    rw [Nat.testBit_and]
    cases ha : a.testBit i <;> cases hb : b.testBit i <;> rw [ha, hb] at h1 <;> first | rfl | cases h1
theorem pc_mono {a b : Nat} (h : andn a b = 0) : pc a ≤ pc b := by
  apply bsum_le
  intro i _
  have h1 : (andn a b).testBit i = false := by rw [h]; exact Nat.zero_testBit i
  rw [andn_bit] at h1
  cases ha : a.testBit i <;> cases hb : b.testBit i <;> rw [ha, hb] at h1 <;> first | decide | cases h1
theorem pc_strict {a b : Nat} (hb : b < 64) (h : andn a b = 0) (hlt : a < b) : pc a < pc b := by
  have ha : a < 64 := by omega
  have key : ∀ a b : Fin 64, andn a.1 b.1 = 0 → a.1 < b.1 → pc a.1 < pc b.1 := by decide +kernel
  exact key ⟨a, ha⟩ ⟨b, hb⟩ h hlt
theorem cvf_cases (d : DB) (s : Nat) : ∀ n, cvf d s n = s ∨ cvf d s n ≤ n
  | 0 => Or.inl rfl
  | n + 1 => by
    have := cvf_cases d s n
    show (if _ then n + 1 else cvf d s n) = s ∨ (if _ then n + 1 else cvf d s n) ≤ n + 1
    split
    · exact Or.inr (Nat.le_refl _)
    · omega
theorem m_cover (hw : WF d) (h : RMk d q) {N s : Nat} (hN : 1000 ≤ N) (h1 : 1 ≤ s) (h2 : s < 64) : f9_coverOf N q (nI s) = some (nI (cov d s)) := by
  refine loop_run (fun n (p : Int32 × Int32 × Int32) => f9_coverOf_l4 N q n p.1 p.2.1 p.2.2) (fun k p => f9_coverOf_l4_B N q (fun a b c => k (a, b, c)) p.1 p.2.1 p.2.2) (fun n p => rfl) (fun i => (nI s, nI (cvf d s (i - 1)), nI i)) s _ (c := 1) ?_ ?_ N 1 (Nat.le_refl _) h1 (by omega)
  · intro i hi1 hi k
    obtain ⟨j, rfl⟩ : ∃ j, i = j + 1 := ⟨i - 1, by omega⟩
    have e1 := m_lettersIn hw h hN (s := j + 1) (by omega)
    have e1' := m_lettersIn hw h hN (s := s) (by omega)
    have e2 := and_nI (a := j + 1) (b := s) (by omega) (by omega)
    have e3 := m_bitsOf (N := N) (s := j + 1) hN (by omega)
    have hcv := cvf_lt d h2 j (by omega)
    have e4 := m_bitsOf (N := N) (s := cvf d s j) hN (by omega)
    have l1 := lS_lt hw (j + 1)
    have l2 := lS_lt hw s
    have a1 : (j + 1) &&& s ≤ j + 1 := Nat.and_le_left
    have p1 := pc_le (s := j + 1)
    have p2 := pc_le (s := cvf d s j)
    have hcc := cvf_cases d s j
    dsimp only
    rw [show j + 1 - 1 = j by omega, show j + 1 + 1 - 1 = j + 1 by omega]
    unfold f9_coverOf_l4_B f9_coverOf_b33 f9_coverOf_b34 f9_coverOf_b63 f9_coverOf_b67 f9_coverOf_b68 f9_coverOf_b84 f9_coverOf_b85
    rw [e2]
    by_cases c1 : (j + 1) &&& s = j + 1
    · have c1' := sub_andn.mp c1
      by_cases c2 : lS d (j + 1) = lS d s
      · by_cases c3 : pc (j + 1) < pc (cvf d s j)
        · have e9 : cvf d s (j + 1) = j + 1 := if_pos ⟨⟨c1', c2⟩, c3⟩
          simp (disch := omega) only [bd_s, bd2_s, bn_e, ck_nI, dz_nI, cz_0, cz_1, ix_nI, le_t, le_f, lt_t, lt_f, eq_t, eq_f, if_true, if_false, nI_add, pk_sub, pk_mul, pk_div, e1, e1', e3, e4, e9, c1, c2, li0, li1, li2, li3, li4, li5, li6, li7, li8, li9, li10, li12, li15, li16, li20, li21, li24, li31, li32, li40, li41, li48, li53, li55, li56, li57, li63, li64, li100, li108, li112, li115, li126, li127, li255, li256, li576, li384]
        · have e9 : cvf d s (j + 1) = cvf d s j := if_neg (fun z => c3 z.2)
          by_cases c4 : pc (j + 1) = pc (cvf d s j)
          · have c5 : cvf d s j ≤ j + 1 := by
              rcases hcc with hcc | hcc
              · have := pc_strict h2 c1' hi
                rw [hcc] at c4
                omega
              · omega
            simp (disch := omega) only [bd_s, bd2_s, bn_e, ck_nI, dz_nI, cz_0, cz_1, ix_nI, le_t, le_f, lt_t, lt_f, eq_t, eq_f, if_true, if_false, nI_add, pk_sub, pk_mul, pk_div, e1, e1', e3, e4, e9, c1, c2, li0, li1, li2, li3, li4, li5, li6, li7, li8, li9, li10, li12, li15, li16, li20, li21, li24, li31, li32, li40, li41, li48, li53, li55, li56, li57, li63, li64, li100, li108, li112, li115, li126, li127, li255, li256, li576, li384]
          · simp (disch := omega) only [bd_s, bd2_s, bn_e, ck_nI, dz_nI, cz_0, cz_1, ix_nI, le_t, le_f, lt_t, lt_f, eq_t, eq_f, if_true, if_false, nI_add, pk_sub, pk_mul, pk_div, e1, e1', e3, e4, e9, c1, c2, li0, li1, li2, li3, li4, li5, li6, li7, li8, li9, li10, li12, li15, li16, li20, li21, li24, li31, li32, li40, li41, li48, li53, li55, li56, li57, li63, li64, li100, li108, li112, li115, li126, li127, li255, li256, li576, li384]
      · have e9 : cvf d s (j + 1) = cvf d s j := if_neg (fun z => c2 z.1.2)
        simp (disch := omega) only [bd_s, bd2_s, bn_e, ck_nI, dz_nI, cz_0, cz_1, ix_nI, le_t, le_f, lt_t, lt_f, eq_t, eq_f, if_true, if_false, nI_add, pk_sub, pk_mul, pk_div, e1, e1', e3, e4, e9, c1, li0, li1, li2, li3, li4, li5, li6, li7, li8, li9, li10, li12, li15, li16, li20, li21, li24, li31, li32, li40, li41, li48, li53, li55, li56, li57, li63, li64, li100, li108, li112, li115, li126, li127, li255, li256, li576, li384]
        simp only [ite_self]
    · have e9 : cvf d s (j + 1) = cvf d s j := if_neg (fun z => c1 (sub_andn.mpr z.1.1))
      simp (disch := omega) only [bd_s, bd2_s, bn_e, ck_nI, dz_nI, cz_0, cz_1, ix_nI, le_t, le_f, lt_t, lt_f, eq_t, eq_f, if_true, if_false, nI_add, pk_sub, pk_mul, pk_div, e3, e4, e9, li0, li1, li2, li3, li4, li5, li6, li7, li8, li9, li10, li12, li15, li16, li20, li21, li24, li31, li32, li40, li41, li48, li53, li55, li56, li57, li63, li64, li100, li108, li112, li115, li126, li127, li255, li256, li576, li384]
      simp only [ite_self]
  · intro k
    dsimp only
    unfold f9_coverOf_l4_B
    simp (disch := omega) only [bd_s, bd2_s, bn_e, ck_nI, dz_nI, cz_0, cz_1, ix_nI, le_t, le_f, lt_t, lt_f, eq_t, eq_f, if_true, if_false, nI_add, pk_sub, pk_mul, pk_div, li0, li1, li2, li3, li4, li5, li6, li7, li8, li9, li10, li12, li15, li16, li20, li21, li24, li31, li32, li40, li41, li48, li53, li55, li56, li57, li63, li64, li100, li108, li112, li115, li126, li127, li255, li256, li576, li384]
    rfl
end MLeaf
