/-! cutting -/
section Cut
variable {N : Nat} {d : DB} {q : SS}
def fitd (d : DB) (a i b j : Nat) : Bool := fitL (dL d) (dV d) a i b j
def anyTo (d : DB) (lf : Nat → Nat) (a b i : Nat) : Nat → Bool
  | 0 => false
  | j + 1 => anyTo d lf a b i j || ((lf b).testBit j && fitd d a i b j)
def cm (d : DB) (lf : Nat → Nat) (a b : Nat) : Nat → Nat
  | 0 => lf a
  | i + 1 => if anyTo d lf a b i 8 then cm d lf a b i else andn (cm d lf a b i) (2 ^ i)
def cutP (d : DB) (lf : Nat → Nat) (a b : Nat) : Nat → Nat := fun u => if u = a then cm d lf a b 8 else lf u
def LF (d : DB) (lf : Nat → Nat) : Prop := ∀ u, lf u < 2 ^ dR d u
theorem cm_le (d : DB) (lf : Nat → Nat) (a b : Nat) : ∀ i, cm d lf a b i ≤ lf a
  | 0 => Nat.le_refl _
  | i + 1 => by
    have h1 := cm_le d lf a b i
    have h2 := andn_le (cm d lf a b i) (2 ^ i)
    show (if _ then _ else _) ≤ _
    split <;> omega
theorem LF.cut {lf : Nat → Nat} (h : LF d lf) (a b : Nat) : LF d (cutP d lf a b) := by
  intro u
  unfold cutP
  by_cases hu : u = a
  · rw [if_pos hu]
    have := cm_le d lf a b 8
    have := h a
    rw [hu]
    omega
  · rw [if_neg hu]; exact h u
theorem cm_bit (d : DB) (lf : Nat → Nat) (a b k : Nat) : ∀ i, i ≤ k → (cm d lf a b i).testBit k = (lf a).testBit k
  | 0, _ => rfl
  | i + 1, hi => by
    have h1 := cm_bit d lf a b k i (by omega)
    show (if _ then _ else _ : Nat).testBit k = _
    split
    · exact h1
    · rw [andn_bit, h1, Nat.testBit_two_pow, decide_eq_false (by omega)]
      simp
theorem andn_nop {x i : Nat} (h : x.testBit i = false) : andn x (2 ^ i) = x := by
  apply Nat.eq_of_testBit_eq
  intro k
  rw [andn_bit, Nat.testBit_two_pow]
  by_cases hk : i = k
  · subst hk; rw [h]; rfl
  · rw [decide_eq_false hk]; simp
theorem cm_stop {lf : Nat → Nat} (h : LF d lf) (a b : Nat) : ∀ m, cm d lf a b (dR d a + m) = cm d lf a b (dR d a)
  | 0 => rfl
  | m + 1 => by
    have h1 := cm_stop h a b m
    have hb : (cm d lf a b (dR d a + m)).testBit (dR d a + m) = false := by
      have h2 := cm_le d lf a b (dR d a + m)
      have h3 := h a
      exact Nat.testBit_lt_two_pow (Nat.lt_of_lt_of_le (Nat.lt_of_le_of_lt h2 h3) (Nat.pow_le_pow_right (by decide) (by omega)))
    show (if anyTo d lf a b (dR d a + m) 8 then cm d lf a b (dR d a + m) else andn (cm d lf a b (dR d a + m)) (2 ^ (dR d a + m))) = _
    rw [andn_nop hb, h1]
    split <;> rfl
theorem cm_8 {lf : Nat → Nat} (h : LF d lf) {a b : Nat} (hR : dR d a ≤ 8) : cm d lf a b (dR d a) = cm d lf a b 8 := by
  have := cm_stop h a b (8 - dR d a)
  rw [show dR d a + (8 - dR d a) = 8 by omega] at this
  exact this.symm
theorem anyTo_stop {lf : Nat → Nat} (h : LF d lf) (a b i : Nat) : ∀ m, anyTo d lf a b i (dR d b + m) = anyTo d lf a b i (dR d b)
  | 0 => rfl
  | m + 1 => by
    have h1 := anyTo_stop h a b i m
    have hb : (lf b).testBit (dR d b + m) = false := Nat.testBit_lt_two_pow (Nat.lt_of_lt_of_le (h b) (Nat.pow_le_pow_right (by decide) (by omega)))
    show (anyTo d lf a b i (dR d b + m) || _) = _
    rw [hb, h1]
    simp
theorem anyTo_8 {lf : Nat → Nat} (h : LF d lf) {a b : Nat} (i : Nat) (hR : dR d b ≤ 8) : anyTo d lf a b i (dR d b) = anyTo d lf a b i 8 := by
  have := anyTo_stop h a b i (8 - dR d b)
  rw [show dR d b + (8 - dR d b) = 8 by omega] at this
  exact this.symm
theorem fit_code (hw : WF d) (a i b j : Nat) : (((cd d a i ^^^ cd d b j) &&& mk (dL d a &&& dL d b)) = 0) ↔ fitd d a i b j = true := by
  unfold fitd cd
  rw [mk_agree (cdf_lt hw a i) (cdf_lt hw b j), fitL_iff]
  constructor
  · intro h l hl h1 h2
    have := h l hl (by rw [Nat.testBit_and, h1, h2]; rfl)
    unfold cdf at this
    rw [if_pos h1, if_pos h2] at this
    exact this
  · intro h l hl h1
    rw [Nat.testBit_and, Bool.and_eq_true] at h1
    unfold cdf
    rw [if_pos h1.1, if_pos h1.2]
    exact h l hl h1.1 h1.2
theorem c_fitsSome (hw : WF d) (h : RC d q) {lf : Nat → Nat} (hl : LF d lf) {a i b : Nat} (hN : 1000 ≤ N) (hb : b < dT d) (h29 : ar q 29 b = nI (lf b)) (hLL : dL d a &&& dL d b < 256) : f1_fitsSome N q (nI (cd d a i)) (nI b) (nI (mk (dL d a &&& dL d b))) = some (nI (anyTo d lf a b i 8).toNat) := by
  have hT := hw.1
  have hR := (hw.2.1 b hb).2.2.2.2.2
  have hlb := hl b
  have h256 : 2 ^ dR d b ≤ 256 := Nat.pow_le_pow_right (n := 2) (m := 8) (by decide) hR
  have hcd := cd_lt hw
  have hmk := mk_lt (dL d a &&& dL d b)
  have := loop_find (fun n (p : Int32 × Int32 × Int32 × Int32) => f1_fitsSome_l3 N q n p.1 p.2.1 p.2.2.1 p.2.2.2) (fun k p => f1_fitsSome_l3_B N q (fun x1 x2 x3 x4 => k (x1, x2, x3, x4)) p.1 p.2.1 p.2.2.1 p.2.2.2) (fun n p => rfl) (fun j => (nI (cd d a i), nI b, nI (mk (dL d a &&& dL d b)), nI j)) (fun j => (lf b).testBit j && fitd d a i b j) 8 (fun k => some (if k < 8 then 1 else 0)) (c := 0) (by
    intro j _ hj k
    have e1 := bit_nI (a := lf b) (b := j) (by omega) (by omega)
    dsimp only
    unfold f1_fitsSome_l3_B f1_fitsSome_b30 f1_fitsSome_b56
    rw [if_neg (show ¬ (8 : Int32) ≤ nI j from nI_ge (b := 8) hj (by decide)), ck_nI (by omega) (by decide), ix_nI (by omega), h29, e1, if_pos hj]
    cases hbit : (lf b).testBit j
    · simp (disch := omega) only [bd_s, bd2_s, bn_e, ck_nI, dz_nI, cz_0, cz_1, ix_nI, le_t, le_f, lt_t, lt_f, eq_t, eq_f, if_true, if_false, nI_add, pk_sub, pk_mul, pk_div, Bool.toNat_false, Bool.false_and, Bool.false_eq_true, li0, li1, li2, li3, li4, li5, li6, li7, li8, li9, li10, li12, li15, li16, li20, li21, li24, li31, li32, li40, li41, li48, li53, li55, li56, li57, li63, li64, li100, li108, li112, li115, li126, li127, li255, li256, li576, li384]
    · have hjR : j < dR d b := bit_lt hlb hbit
      rw [Bool.toNat_true, if_pos (show nI 1 = 1 from rfl), if_neg (show ¬ (1 : Int32) = 0 by decide), c_codeAt hw h hb hjR, bd_s, xor_nI (hcd a i) (hcd b j), and_nI (Nat.xor_lt_two_pow (hcd a i) (hcd b j)) hmk, Bool.true_and]
      by_cases hf : fitd d a i b j = true
      · rw [(fit_code hw a i b j).mpr hf, if_pos (show nI 0 = 0 from rfl), hf, if_pos rfl]
      · have hne := fun z => hf ((fit_code hw a i b j).mp z)
        rw [if_neg, Bool.eq_false_iff.mpr hf]
        · simp (disch := omega) only [bd_s, bd2_s, bn_e, ck_nI, dz_nI, cz_0, cz_1, ix_nI, le_t, le_f, lt_t, lt_f, eq_t, eq_f, if_true, if_false, nI_add, pk_sub, pk_mul, pk_div, Bool.false_eq_true, li0, li1, li2, li3, li4, li5, li6, li7, li8, li9, li10, li12, li15, li16, li20, li21, li24, li31, li32, li40, li41, li48, li53, li55, li56, li57, li63, li64, li100, li108, li112, li115, li126, li127, li255, li256, li576, li384]
        · intro e
          apply hne
          have h1 := congrArg (fun x : Int32 => x.toBitVec.toNat) e
          dsimp only at h1
          rw [tn_nI (Nat.and_lt_two_pow _ hmk)] at h1
          exact h1) (by
    intro k
    dsimp only
    unfold f1_fitsSome_l3_B
    simp (disch := omega) only [bd_s, bd2_s, bn_e, ck_nI, dz_nI, cz_0, cz_1, ix_nI, le_t, le_f, lt_t, lt_f, eq_t, eq_f, if_true, if_false, nI_add, pk_sub, pk_mul, pk_div, Nat.lt_irrefl, li0, li1, li2, li3, li4, li5, li6, li7, li8, li9, li10, li12, li15, li16, li20, li21, li24, li31, li32, li40, li41, li48, li53, li55, li56, li57, li63, li64, li100, li108, li112, li115, li126, li127, li255, li256, li576, li384]) 8 N 0 (by omega) (by omega) (by omega)
  have hany : ∀ n, anyTo d lf a b i n = true ↔ ∃ j, j < n ∧ ((lf b).testBit j && fitd d a i b j) = true := by
    intro n
    induction n with
    | zero => exact ⟨fun z => by cases z, fun ⟨j, hj, _⟩ => by omega⟩
    | succ n ih =>
      show (anyTo d lf a b i n || _) = true ↔ _
      rw [Bool.or_eq_true, ih]
      constructor
      · rintro (⟨j, hj, h⟩ | h)
        · exact ⟨j, by omega, h⟩
        · exact ⟨n, by omega, h⟩
      · rintro ⟨j, hj, h⟩
        by_cases hjn : j = n
        · right; rw [← hjn]; exact h
        · left; exact ⟨j, by omega, h⟩
  obtain ⟨f1, f2, f3, f4⟩ := ff_spec (fun j => (lf b).testBit j && fitd d a i b j) 8 0
  refine Eq.trans this ?_
  by_cases hlt : ff (fun j => (lf b).testBit j && fitd d a i b j) 0 8 < 8
  · rw [(hany 8).mpr ⟨_, hlt, f4 (by omega)⟩, if_pos hlt]
    rfl
  · have : anyTo d lf a b i 8 = false := by
      rw [Bool.eq_false_iff]
      intro z
      obtain ⟨j, hj, h⟩ := (hany 8).mp z
      have := f3 j (by omega) (by omega)
      dsimp only at this
      rw [this] at h
      cases h
    rw [this, if_neg hlt]
    rfl
end Cut
