/-! row, fill -/
section RowFill
variable {N : Nat} {d : DB} {q : SS}
theorem c_codeOf {L a b c : Nat} (hN : 1000 ≤ N) (hL : L < 256) (ha : a ≤ 9) (hb : b ≤ 9) (hc : c ≤ 9) : f4_codeOf N (nI L) (nI a) (nI b) (nI c) = some (nI (nib (fun l => if L.testBit l then (if rk L l = 0 then a else if rk L l = 1 then b else c) else 0) 8)) := by
  have hf : ∀ l, (fun l => if L.testBit l then (if rk L l = 0 then a else if rk L l = 1 then b else c) else 0) l < 16 := fun l => by
    dsimp only
    split
    · split
      · omega
      · split <;> omega
    · decide
  refine loop_run (fun n (p : Int32 × Int32 × Int32 × Int32 × Int32 × Int32 × Int32) => f4_codeOf_l9 N n p.1 p.2.1 p.2.2.1 p.2.2.2.1 p.2.2.2.2.1 p.2.2.2.2.2.1 p.2.2.2.2.2.2) (fun k p => f4_codeOf_l9_B N (fun x1 x2 x3 x4 x5 x6 x7 => k (x1, x2, x3, x4, x5, x6, x7)) p.1 p.2.1 p.2.2.1 p.2.2.2.1 p.2.2.2.2.1 p.2.2.2.2.2.1 p.2.2.2.2.2.2) (fun n p => rfl) (fun i => (nI L, nI a, nI b, nI c, nI (nib (fun l => if L.testBit l then (if rk L l = 0 then a else if rk L l = 1 then b else c) else 0) i), nI (rk L i), nI i)) 8 _ (c := 0) ?_ ?_ N 0 (Nat.le_refl _) (Nat.zero_le _) (by omega)
  · intro i _ hi k
    have e1 := bit_nI (a := L) (b := i) (by omega) (by omega)
    have h4 := nib_lt hf i
    have h5 : 2 ^ (4 * i) ≤ 2 ^ 28 := Nat.pow_le_pow_right (by decide) (by omega)
    have hr : rk L i ≤ i := by have := bsum_le (f := fun k => (L.testBit k).toNat) (g := fun _ => 1) (n := i) (fun i _ => Bool.toNat_le _); rw [bsum_const] at this; exact (by show bsum _ i ≤ i; omega)
    dsimp only
    unfold f4_codeOf_l9_B f4_codeOf_b46 f4_codeOf_b63
    rw [e1, rk_s]
    have hs : nib (fun l => if L.testBit l then (if rk L l = 0 then a else if rk L l = 1 then b else c) else 0) (i + 1) = 2 ^ (4 * i) * (if L.testBit i then (if rk L i = 0 then a else if rk L i = 1 then b else c) else 0) + nib (fun l => if L.testBit l then (if rk L l = 0 then a else if rk L l = 1 then b else c) else 0) i := rfl
    rw [hs]
    generalize nib (fun l => if L.testBit l then (if rk L l = 0 then a else if rk L l = 1 then b else c) else 0) i = X at h4
    have key : ∀ v, v ≤ 9 → nI X ||| jshl (nI v) (nI (4 * i)) = nI (2 ^ (4 * i) * v + X) := fun v hv => by
      have hm : v * 2 ^ (4 * i) ≤ 9 * 2 ^ 28 := Nat.mul_le_mul hv h5
      rw [shl_nI (by omega) (by omega), or_nI (by omega) (by omega), Nat.two_pow_add_eq_or_of_lt h4, Nat.or_comm, Nat.mul_comm v]
    cases hb' : L.testBit i
    · simp (disch := omega) only [bd_s, bd2_s, bn_e, ck_nI, dz_nI, cz_0, cz_1, ix_nI, le_t, le_f, lt_t, lt_f, eq_t, eq_f, if_true, if_false, nI_add, pk_sub, pk_mul, pk_div, Bool.toNat_false, Nat.mul_zero, Nat.zero_add, Bool.false_eq_true, Nat.add_zero, li0, li1, li2, li3, li4, li5, li6, li7, li8, li9, li10, li12, li15, li16, li20, li21, li24, li31, li32, li40, li41, li48, li53, li55, li56, li57, li63, li64, li100, li108, li112, li115, li126, li127, li255, li256, li576, li384]
    · rcases (show rk L i = 0 ∨ rk L i = 1 ∨ 2 ≤ rk L i by omega) with h0 | h0 | h0
      · rw [h0]
        simp (disch := omega) only [bd_s, bd2_s, bn_e, ck_nI, dz_nI, cz_0, cz_1, ix_nI, le_t, le_f, lt_t, lt_f, eq_t, eq_f, if_true, if_false, nI_add, pk_sub, pk_mul, pk_div, Bool.toNat_true, key a ha, li0, li1, li2, li3, li4, li5, li6, li7, li8, li9, li10, li12, li15, li16, li20, li21, li24, li31, li32, li40, li41, li48, li53, li55, li56, li57, li63, li64, li100, li108, li112, li115, li126, li127, li255, li256, li576, li384]
      · rw [h0]
        simp (disch := omega) only [bd_s, bd2_s, bn_e, ck_nI, dz_nI, cz_0, cz_1, ix_nI, le_t, le_f, lt_t, lt_f, eq_t, eq_f, if_true, if_false, nI_add, pk_sub, pk_mul, pk_div, Bool.toNat_true, key b hb, li0, li1, li2, li3, li4, li5, li6, li7, li8, li9, li10, li12, li15, li16, li20, li21, li24, li31, li32, li40, li41, li48, li53, li55, li56, li57, li63, li64, li100, li108, li112, li115, li126, li127, li255, li256, li576, li384]
        rfl
      · rw [if_neg (show ¬ rk L i = 0 by omega), if_neg (show ¬ rk L i = 1 by omega)]
        simp (disch := omega) only [bd_s, bd2_s, bn_e, ck_nI, dz_nI, cz_0, cz_1, ix_nI, le_t, le_f, lt_t, lt_f, eq_t, eq_f, if_true, if_false, nI_add, pk_sub, pk_mul, pk_div, Bool.toNat_true, key c hc, li0, li1, li2, li3, li4, li5, li6, li7, li8, li9, li10, li12, li15, li16, li20, li21, li24, li31, li32, li40, li41, li48, li53, li55, li56, li57, li63, li64, li100, li108, li112, li115, li126, li127, li255, li256, li576, li384]
  · intro k
    dsimp only
    unfold f4_codeOf_l9_B
    simp (disch := omega) only [bd_s, bd2_s, bn_e, ck_nI, dz_nI, cz_0, cz_1, ix_nI, le_t, le_f, lt_t, lt_f, eq_t, eq_f, if_true, if_false, nI_add, pk_sub, pk_mul, pk_div, li0, li1, li2, li3, li4, li5, li6, li7, li8, li9, li10, li12, li15, li16, li20, li21, li24, li31, li32, li40, li41, li48, li53, li55, li56, li57, li63, li64, li100, li108, li112, li115, li126, li127, li255, li256, li576, li384]
theorem c_may_t {v hi : Nat} {b : Int32} (hb : (b = 0 ∧ hi = 0) ∨ (b = 1 ∧ hi = 9)) (hv : v ≤ hi) : f8_mayStand (nI v) b = some 1 := by
  unfold f8_mayStand f8_mayStand_b15
  rcases hb with ⟨rfl, rfl⟩ | ⟨rfl, rfl⟩
  · simp (disch := omega) only [bd_s, bd2_s, bn_e, ck_nI, dz_nI, cz_0, cz_1, ix_nI, le_t, le_f, lt_t, lt_f, eq_t, eq_f, if_true, if_false, nI_add, pk_sub, pk_mul, pk_div, li0, li1, li2, li3, li4, li5, li6, li7, li8, li9, li10, li12, li15, li16, li20, li21, li24, li31, li32, li40, li41, li48, li53, li55, li56, li57, li63, li64, li100, li108, li112, li115, li126, li127, li255, li256, li576, li384]
  · simp (disch := omega) only [bd_s, bd2_s, bn_e, ck_nI, dz_nI, cz_0, cz_1, ix_nI, le_t, le_f, lt_t, lt_f, eq_t, eq_f, if_true, if_false, nI_add, pk_sub, pk_mul, pk_div, li0, li1, li2, li3, li4, li5, li6, li7, li8, li9, li10, li12, li15, li16, li20, li21, li24, li31, li32, li40, li41, li48, li53, li55, li56, li57, li63, li64, li100, li108, li112, li115, li126, li127, li255, li256, li576, li384]
theorem c_may_f {x b : Int32} {hi : Nat} (hb : (b = 0 ∧ hi = 0) ∨ (b = 1 ∧ hi = 9)) (hx : x.toInt < (0 : Nat) ∨ (hi : Int) < x.toInt) : f8_mayStand x b = some 0 := by
  unfold f8_mayStand f8_mayStand_b15
  by_cases h0 : x < 0
  · rw [if_pos h0]
  · have h1 : (hi : Int) < x.toInt := by rw [lt0_toInt] at h0; omega
    rw [if_neg h0]
    rcases hb with ⟨rfl, rfl⟩ | ⟨rfl, rfl⟩
    · rw [if_pos rfl, if_pos]
      rw [Int32.lt_iff_toInt_lt]; exact h1
    · rw [if_neg (by decide), if_pos]
      rw [Int32.lt_iff_toInt_lt]; exact h1
/-- the greatest number that may stand at the k-th place -/
def mh (d : DB) (t k : Nat) : Nat := if pc (dL d t) ≤ k then 0 else 9
theorem in0h {v hi : Nat} (hb : hi = 0 ∨ hi = 9) (hv : v ≤ hi) : f9_in (nI v).toInt64 0 (lN hi) = some 1 := m_in_ok (lo := 0) (Nat.zero_le v) hv (by omega)
theorem in0h_f {x : Int32} {hi : Nat} (hb : hi = 0 ∨ hi = 9) (hx : x.toInt < (0 : Nat) ∨ (hi : Int) < x.toInt) : f9_in x.toInt64 0 (lN hi) = some 0 := m_in_no (lo := 0) (by decide) (by omega) hx
/-! drawn numbers -/
def sq (x : Nat) : Nat → Nat
  | 0 => x
  | j + 1 => (1103515245 * sq x j + 12345) % 2 ^ 31
def vd (m x j : Nat) : Nat := sq x (j + 1) / 65536 % m
theorem sq_lt {x : Nat} (h : x < 2 ^ 31) : ∀ j, sq x j < 2 ^ 31
  | 0 => h
  | j + 1 => Nat.mod_lt _ (by decide)
theorem eq_tnL {x y : Int64} (h : x.toBitVec.toNat = y.toBitVec.toNat) : x = y := Int64.toBitVec_inj.mp (BitVec.eq_of_toNat_eq h)
theorem tn_lN {n : Nat} (h : n < 2 ^ 64) : (lN n).toBitVec.toNat = n := by
  show (Int64.ofNat n).toBitVec.toNat = n
  rw [Int64.toBitVec_ofNat', BitVec.toNat_ofNat]
  exact Nat.mod_eq_of_lt h
theorem and_lN {a b : Nat} (ha : a < 2 ^ 64) (hb : b < 2 ^ 64) : lN a &&& lN b = lN (a &&& b) := by
  apply eq_tnL
  rw [Int64.toBitVec_and, BitVec.toNat_and, tn_lN ha, tn_lN hb, tn_lN (Nat.lt_of_le_of_lt Nat.and_le_left ha)]
theorem lcg_ok {a : Nat} (h : a < 2 ^ 31) : ((1103515245 : Int64) * lN a + 12345) &&& 2147483647 = lN ((1103515245 * a + 12345) % 2 ^ 31) := by
  rw [show (1103515245 : Int64) = lN 1103515245 from rfl, show (12345 : Int64) = lN 12345 from rfl, show (2147483647 : Int64) = lN 2147483647 from rfl, lN_mul, lN_add, and_lN (by omega) (by decide), show (2147483647 : Nat) = 2 ^ 31 - 1 from rfl, Nat.and_two_pow_sub_one_eq_mod]
theorem draw_ok {a m : Nat} (h : a < 2 ^ 31) (h1 : 1 ≤ m) (h2 : m ≤ 10) : Int64.toInt32 (jlrem (lN a / 65536) (Int32.toInt64 (nI m))) = nI (a / 65536 % m) := by
  rw [show (65536 : Int64) = lN 65536 from rfl, pk_lDiv (by omega) (by decide) (by decide), nI_l (by omega)]
  unfold jlrem
  rw [pk_lRem (by omega) (by omega) (by omega), lN_i]
theorem dzl_ok {α : Type} {m : Nat} {k : Option α} (h1 : 1 ≤ m) (h2 : m ≤ 10) : dzl (Int32.toInt64 (nI m)) k = k := by
  unfold dzl
  rw [if_neg]
  rw [nI_l (by omega), show (0 : Int64) = lN 0 from rfl, lN_eq (by omega) (by decide)]
  omega
theorem vd_lt {m x j : Nat} (h1 : 1 ≤ m) (h2 : m ≤ 10) : vd m x j ≤ 9 := by
  have := Nat.mod_lt (sq x (j + 1) / 65536) (show 0 < m by omega)
  show _ % m ≤ 9
  omega
/-- the numbers of the k-th row that comes -/
def fw (L m x k l : Nat) : Nat := if L.testBit l then vd m x (k * pc L + rk L l) else 0
theorem fw_le {L m x k : Nat} (h1 : 1 ≤ m) (h2 : m ≤ 10) (l : Nat) : fw L m x k l ≤ 9 := by
  unfold fw
  split
  · exact vd_lt h1 h2
  · decide
def fillD (d : DB) (t m x : Nat) : Nat → DB
  | 0 => d
  | k + 1 => addR (fillD d t m x k) t (fw (dL d t) m x k)
theorem fillD_T (d : DB) (t m x : Nat) : ∀ k, dT (fillD d t m x k) = dT d
  | 0 => rfl
  | k + 1 => fillD_T d t m x k
theorem fillD_L (d : DB) (t m x : Nat) : ∀ k, dL (fillD d t m x k) = dL d
  | 0 => rfl
  | k + 1 => fillD_L d t m x k
theorem fillD_R (d : DB) (t m x : Nat) : ∀ k, dR (fillD d t m x k) t = dR d t + k
  | 0 => rfl
  | k + 1 => by
    show dR (addR (fillD d t m x k) t _) t = _
    rw [show dR (addR (fillD d t m x k) t (fw (dL d t) m x k)) t = dR (fillD d t m x k) t + 1 from dR_self _ _ _ _, fillD_R d t m x k]
    omega
theorem fillD_WF (hw : WF d) {t m x : Nat} (ht : t < dT d) (h1 : 1 ≤ m) (h2 : m ≤ 10) : ∀ k, dR d t + k ≤ 8 → WF (fillD d t m x k)
  | 0, _ => hw
  | k + 1, hk => WF_addR (fillD_WF hw ht h1 h2 k (by omega)) (by rw [fillD_T]; exact ht) (by rw [fillD_R]; omega) (fw_le h1 h2)
theorem op_row (hN : 1000 ≤ N) : Op_row N Sim := by
  rintro a x y z qC qM ⟨d, hw, hC, hM, hH⟩
  have hT := hw.1
  rcases tcase a (n := dT d) (by omega) with ⟨t, ht, rfl⟩ | ha
  · obtain ⟨hL1, hL, hp3, -, -, hR⟩ := hw.2.1 t ht
    have eb := bitCount_ok (s := dL d t) (by omega)
    have em := m_bitsOf (N := N) (s := dL d t) hN hL
    have e0 := (hM.2.2.2.2.2.1 t ht).1
    have e3 := hM.2.2.2.2.2.2.1 t (by omega)
    have h1 : ∃ b : Int32, ((b = 0 ∧ mh d t 1 = 0) ∨ (b = 1 ∧ mh d t 1 = 9)) ∧ (∀ A : Int32 → Option (Int32 × SS), (if nI (pc (dL d t)) ≤ 1 then A 0 else A 1) = A b) ∧ (∀ A : Int64 → Option (Int32 × SS), (if nI (pc (dL d t)) ≤ 1 then A 0 else A 9) = A (lN (mh d t 1))) := by
      unfold mh
      by_cases h : pc (dL d t) ≤ 1
      · exact ⟨0, Or.inl ⟨rfl, if_pos h⟩, fun A => if_pos (nI_le h (by decide)), fun A => by rw [if_pos (show nI (pc (dL d t)) ≤ 1 from nI_le h (by decide)), if_pos h]; rfl⟩
      · exact ⟨1, Or.inr ⟨rfl, if_neg h⟩, fun A => if_neg (nI_ge (a := 1) (b := pc (dL d t)) (by omega) (by omega)), fun A => by rw [if_neg (show ¬ nI (pc (dL d t)) ≤ 1 from nI_ge (a := 1) (b := pc (dL d t)) (by omega) (by omega)), if_neg h]; rfl⟩
    have h2 : ∃ b : Int32, ((b = 0 ∧ mh d t 2 = 0) ∨ (b = 1 ∧ mh d t 2 = 9)) ∧ (∀ A : Int32 → Option (Int32 × SS), (if nI (pc (dL d t)) ≤ 2 then A 0 else A 1) = A b) ∧ (∀ A : Int64 → Option (Int32 × SS), (if nI (pc (dL d t)) ≤ 2 then A 0 else A 9) = A (lN (mh d t 2))) := by
      unfold mh
      by_cases h : pc (dL d t) ≤ 2
      · exact ⟨0, Or.inl ⟨rfl, if_pos h⟩, fun A => if_pos (nI_le h (by decide)), fun A => by rw [if_pos (show nI (pc (dL d t)) ≤ 2 from nI_le h (by decide)), if_pos h]; rfl⟩
      · exact ⟨1, Or.inr ⟨rfl, if_neg h⟩, fun A => if_neg (nI_ge (a := 2) (b := pc (dL d t)) (by omega) (by omega)), fun A => by rw [if_neg (show ¬ nI (pc (dL d t)) ≤ 2 from nI_ge (a := 2) (b := pc (dL d t)) (by omega) (by omega)), if_neg h]; rfl⟩
    obtain ⟨b1, hb1, hA1, hB1⟩ := h1
    obtain ⟨b2, hb2, hA2, hB2⟩ := h2
    have hm1 : mh d t 1 = 0 ∨ mh d t 1 = 9 := by unfold mh; split <;> simp
    have hm2 : mh d t 2 = 0 ∨ mh d t 2 = 9 := by unfold mh; split <;> simp
    have fC : f8_row N (nI t) x y z qC = bd (f8_mayStand x 1) fun r => if r = 0 then some (-102, qC) else f8_row_b51 N (nI t) x y z (nI (dL d t)) (nI (pc (dL d t))) b1 y qC := by
      unfold f8_row
      rw [c_holds hw hC ht, bd_s, if_neg (by decide), c_lettersOf hw hC ht, bd_s, eb, bd_s]
      congr 1
      funext r
      rw [hA1 (fun b => f8_row_b51 N (nI t) x y z (nI (dL d t)) (nI (pc (dL d t))) b y qC)]
    have fC2 : f8_row_b51 N (nI t) x y z (nI (dL d t)) (nI (pc (dL d t))) b1 y qC = bd (f8_mayStand y b1) fun r => if r = 0 then some (-102, qC) else f8_row_b70 N (nI t) x y z (nI (dL d t)) b2 z qC := by
      unfold f8_row_b51
      congr 1
      funext r
      rw [hA2 (fun b => f8_row_b70 N (nI t) x y z (nI (dL d t)) b z qC)]
    have fM : f9_row N (nI t) x y z qM = bd (f9_in x.toInt64 0 9) fun r => if r = 0 then some (-102, qM) else f9_row_b50 N (nI t) x y z (nI (pc (dL d t))) (lN (mh d t 1)) 0 y.toInt64 qM := by
      unfold f9_row
      rw [m_isTable hw hM ht, bd_s, if_neg (by decide), ck_nI (by omega) (by decide), ix_nI (by omega), e0, em, bd_s]
      congr 1
      funext r
      rw [hB1 (fun b => f9_row_b50 N (nI t) x y z (nI (pc (dL d t))) b 0 y.toInt64 qM)]
    have fM2 : f9_row_b50 N (nI t) x y z (nI (pc (dL d t))) (lN (mh d t 1)) 0 y.toInt64 qM = bd (f9_in y.toInt64 0 (lN (mh d t 1))) fun r => if r = 0 then some (-102, qM) else f9_row_b73 N (nI t) x y z (lN (mh d t 2)) 0 z.toInt64 qM := by
      unfold f9_row_b50
      congr 1
      funext r
      rw [hB2 (fun b => f9_row_b73 N (nI t) x y z b 0 z.toInt64 qM)]
    rcases rcase x 0 (hi := 9) (by decide) with ⟨vx, -, x2, rfl⟩ | hx
    · have ex : f9_in (nI vx).toInt64 0 9 = some 1 := m_in_ok (lo := 0) (hi := 9) (Nat.zero_le _) x2 (by decide)
      rcases rcase y 0 (hi := mh d t 1) (by omega) with ⟨vy, -, y2, rfl⟩ | hy
      · rcases rcase z 0 (hi := mh d t 2) (by omega) with ⟨vz, -, z2, rfl⟩ | hz
        · rw [fC, fC2, fM, fM2, c_may_t (hi := 9) (Or.inr ⟨rfl, rfl⟩) x2, c_may_t hb1 y2, ex, in0h hm1 y2, bd_s, bd_s, bd_s, bd_s, if_neg (by decide), if_neg (by decide), if_neg (by decide), if_neg (by decide)]
          unfold f8_row_b70 f9_row_b73
          rw [c_may_t hb2 z2, in0h hm2 z2, bd_s, bd_s, if_neg (by decide), if_neg (by decide), c_rowsOf hw hC (by omega), bd_s, ck_nI (by omega) (by decide), ix_nI (by omega), e3]
          by_cases hR8 : dR d t = 8
          · refine ⟨-104, qC, qM, ?_, ?_, d, hw, hC, hM, hH⟩
            · rw [hR8, if_neg (by decide)]
            · rw [hR8, if_pos (by decide)]
          · have hR7 : dR d t < 8 := by omega
            have hw3 : ∀ l, (if rk (dL d t) l = 0 then vx else if rk (dL d t) l = 1 then vy else vz) ≤ 9 := fun l => by
              split
              · exact x2
              · split
                · omega
                · omega
            obtain ⟨qC', g1, g2⟩ := c_addRow hw hC (w := fun l => if rk (dL d t) l = 0 then vx else if rk (dL d t) l = 1 then vy else vz) ht hR7
            obtain ⟨qM', k1, k2, k3⟩ := m_lay hw hM (w := fun l => if rk (dL d t) l = 0 then vx else if rk (dL d t) l = 1 then vy else vz) (a := nI vx) (b := nI vy) (c := nI vz) hN ht hR7 (fun l _ _ => by
              split
              · rfl
              · split <;> rfl)
            have k4 := k2.2.2.2.2.2.2.1 t (by omega)
            rw [show dR (addR d t _) t = dR d t + 1 from dR_self _ _ _ _] at k4
            refine ⟨nI (dR d t + 1), qC', qM', ?_, ?_, addR d t _, WF_addR hw ht hR7 hw3, g2, k2, Or.inl k3⟩
            · rw [if_pos (show nI (dR d t) < 8 from nI_lt (b := 8) hR7 (by decide)), c_codeOf hN hL x2 (by omega) (by omega), bd_s, g1, bd2_s]
            · rw [if_neg (show ¬ nI (dR d t) = 8 from fun e => hR8 ((nI_eq (by omega) (by decide)).mp e)), k1, bd_s, ck_nI (by omega) (by decide), k4]
        · refine ⟨-102, qC, qM, ?_, ?_, d, hw, hC, hM, hH⟩
          · rw [fC, fC2, c_may_t (hi := 9) (Or.inr ⟨rfl, rfl⟩) x2, c_may_t hb1 y2, bd_s, bd_s, if_neg (by decide), if_neg (by decide)]
            unfold f8_row_b70
            rw [c_may_f hb2 hz, bd_s, if_pos rfl]
          · rw [fM, fM2, ex, in0h hm1 y2, bd_s, bd_s, if_neg (by decide), if_neg (by decide)]
            unfold f9_row_b73
            rw [in0h_f hm2 hz, bd_s, if_pos rfl]
      · refine ⟨-102, qC, qM, ?_, ?_, d, hw, hC, hM, hH⟩
        · rw [fC, fC2, c_may_t (hi := 9) (Or.inr ⟨rfl, rfl⟩) x2, c_may_f hb1 hy, bd_s, bd_s, if_neg (by decide), if_pos rfl]
        · rw [fM, fM2, ex, in0h_f hm1 hy, bd_s, bd_s, if_neg (by decide), if_pos rfl]
    · have ex : f9_in x.toInt64 0 9 = some 0 := m_in_no (lo := 0) (hi := 9) (by decide) (by decide) hx
      refine ⟨-102, qC, qM, ?_, ?_, d, hw, hC, hM, hH⟩
      · rw [fC, c_may_f (hi := 9) (Or.inr ⟨rfl, rfl⟩) hx, bd_s, if_pos rfl]
      · rw [fM, ex, bd_s, if_pos rfl]
  · refine ⟨-101, qC, qM, ?_, ?_, d, hw, hC, hM, hH⟩
    · unfold f8_row
      simp (disch := omega) only [bd_s, bd2_s, bn_e, ck_nI, dz_nI, cz_0, cz_1, ix_nI, le_t, le_f, lt_t, lt_f, eq_t, eq_f, if_true, if_false, nI_add, pk_sub, pk_mul, pk_div, c_holds_f hC ha, li0, li1, li2, li3, li4, li5, li6, li7, li8, li9, li10, li12, li15, li16, li20, li21, li24, li31, li32, li40, li41, li48, li53, li55, li56, li57, li63, li64, li100, li108, li112, li115, li126, li127, li255, li256, li576, li384]
    · unfold f9_row
      simp (disch := omega) only [bd_s, bd2_s, bn_e, ck_nI, dz_nI, cz_0, cz_1, ix_nI, le_t, le_f, lt_t, lt_f, eq_t, eq_f, if_true, if_false, nI_add, pk_sub, pk_mul, pk_div, m_isTable_f hw hM ha, li0, li1, li2, li3, li4, li5, li6, li7, li8, li9, li10, li12, li15, li16, li20, li21, li24, li31, li32, li40, li41, li48, li53, li55, li56, li57, li63, li64, li100, li108, li112, li115, li126, li127, li255, li256, li576, li384]
theorem c_fill (hw : WF d) (h : RC d q) {t m x n : Nat} (hN : 1000 ≤ N) (ht : t < dT d) (hx : x < 2 ^ 31) (h1 : 1 ≤ m) (h2 : m ≤ 10) (hn1 : 1 ≤ n) (hn2 : n ≤ 8) : ∃ q', f7_addSeeded N (nI t) (nI x) (nI n) (nI m) q = some (nI (min n (8 - dR d t)), q') ∧ RC (fillD d t m x (min n (8 - dR d t))) q' := by
  have hT := hw.1
  obtain ⟨hL1, hL, hp3, -, -, hR⟩ := hw.2.1 t ht
  have hcm : jmin (nI n) (8 - nI (dR d t)) = nI (min n (8 - dR d t)) := by
    unfold jmin
    rw [li8, pk_sub hR]
    by_cases hlt : 8 - dR d t < n
    · rw [if_pos (nI_lt hlt (by omega)), Nat.min_eq_right (by omega)]
    · rw [if_neg (nI_nlt (by omega) (by omega)), Nat.min_eq_left (by omega)]
  generalize hcome : min n (8 - dR d t) = come at hcm
  have hc8 : dR d t + come ≤ 8 := by omega
  have inner : ∀ (k : Nat) (qk : SS), k < come → RC (fillD d t m x k) qk → ∃ q2, RC (fillD d t m x (k + 1)) q2 ∧ ∀ (bk : Int32 → Int32 → Int32 → Int64 → Int32 → SS → Option (Int32 × SS)), f7_addSeeded_l42 N bk N (nI t) (nI m) (nI come) (lN (sq x (k * pc (dL d t)))) (nI k) (nI 0) (nI 0) qk = bk (nI t) (nI m) (nI come) (lN (sq x ((k + 1) * pc (dL d t)))) (nI (k + 1)) q2 := by
    intro k qk hk hRC
    have hwk := fillD_WF (x := x) hw ht h1 h2 k (by omega)
    have htk : t < dT (fillD d t m x k) := by rw [fillD_T]; exact ht
    obtain ⟨q2, g1, g2⟩ := c_addRow hwk hRC (w := fw (dL d t) m x k) htk (by rw [fillD_R]; omega)
    rw [fillD_L] at g1
    refine ⟨q2, g2, fun bk => ?_⟩
    have hf : ∀ l, (fun l => if (dL d t).testBit l then fw (dL d t) m x k l else 0) l < 16 := fun l => by
      have := fw_le (L := dL d t) (m := m) (x := x) (k := k) h1 h2 l
      dsimp only
      split <;> omega
    refine loop_run (fun n (p : Int32 × Int32 × Int32 × Int64 × Int32 × Int32 × Int32 × SS) => f7_addSeeded_l42 N bk n p.1 p.2.1 p.2.2.1 p.2.2.2.1 p.2.2.2.2.1 p.2.2.2.2.2.1 p.2.2.2.2.2.2.1 p.2.2.2.2.2.2.2) (fun k p => f7_addSeeded_l42_B N bk (fun x1 x2 x3 x4 x5 x6 x7 x8 => k (x1, x2, x3, x4, x5, x6, x7, x8)) p.1 p.2.1 p.2.2.1 p.2.2.2.1 p.2.2.2.2.1 p.2.2.2.2.2.1 p.2.2.2.2.2.2.1 p.2.2.2.2.2.2.2) (fun n p => rfl) (fun i => (nI t, nI m, nI come, lN (sq x (k * pc (dL d t) + rk (dL d t) i)), nI k, nI (nib (fun l => if (dL d t).testBit l then fw (dL d t) m x k l else 0) i), nI i, qk)) 8 _ (c := 0) ?_ ?_ N 0 (Nat.le_refl _) (Nat.zero_le _) (by omega)
    · intro i _ hi kk
      have e1 := c_has hwk hRC htk hi
      rw [fillD_L] at e1
      have h4 := nib_lt hf i
      have h5 : 2 ^ (4 * i) ≤ 2 ^ 28 := Nat.pow_le_pow_right (by decide) (by omega)
      have hs := sq_lt hx (k * pc (dL d t) + rk (dL d t) i)
      have hs1 := sq_lt hx (k * pc (dL d t) + rk (dL d t) i + 1)
      have e2 := lcg_ok hs
      have e3 := draw_ok hs1 h1 h2
      dsimp only
      unfold f7_addSeeded_l42_B f7_addSeeded_b96
      rw [rk_s]
      have hnb : nib (fun l => if (dL d t).testBit l then fw (dL d t) m x k l else 0) (i + 1) = 2 ^ (4 * i) * (if (dL d t).testBit i then fw (dL d t) m x k i else 0) + nib (fun l => if (dL d t).testBit l then fw (dL d t) m x k l else 0) i := rfl
      rw [hnb]
      generalize nib (fun l => if (dL d t).testBit l then fw (dL d t) m x k l else 0) i = X at h4
      cases hb' : (dL d t).testBit i
      · rw [hb', Bool.toNat_false] at e1
        simp (disch := omega) only [bd_s, bd2_s, bn_e, ck_nI, dz_nI, cz_0, cz_1, ix_nI, le_t, le_f, lt_t, lt_f, eq_t, eq_f, if_true, if_false, nI_add, pk_sub, pk_mul, pk_div, e1, Bool.toNat_false, Nat.mul_zero, Nat.zero_add, Bool.false_eq_true, Nat.add_zero, li0, li1, li2, li3, li4, li5, li6, li7, li8, li9, li10, li12, li15, li16, li20, li21, li24, li31, li32, li40, li41, li48, li53, li55, li56, li57, li63, li64, li100, li108, li112, li115, li126, li127, li255, li256, li576, li384]
      · rw [hb', Bool.toNat_true] at e1
        have hv : fw (dL d t) m x k i = vd m x (k * pc (dL d t) + rk (dL d t) i) := if_pos hb'
        have hv9 := vd_lt (x := x) (j := k * pc (dL d t) + rk (dL d t) i) h1 h2
        have hm : vd m x (k * pc (dL d t) + rk (dL d t) i) * 2 ^ (4 * i) ≤ 9 * 2 ^ 28 := Nat.mul_le_mul hv9 h5
        have key : nI X ||| jshl (nI (vd m x (k * pc (dL d t) + rk (dL d t) i))) (nI (4 * i)) = nI (2 ^ (4 * i) * vd m x (k * pc (dL d t) + rk (dL d t) i) + X) := by
          rw [shl_nI (by omega) (by omega), or_nI (by omega) (by omega), Nat.two_pow_add_eq_or_of_lt h4, Nat.or_comm, Nat.mul_comm (vd m x _)]
        rw [e1, bd_s, if_neg (show ¬ (8 : Int32) ≤ nI i from nI_ge hi (by decide)), if_neg (show ¬ nI 1 = 0 by decide), e2, bn_e, dzl_ok h1 h2]
        rw [show (1103515245 * sq x (k * pc (dL d t) + rk (dL d t) i) + 12345) % 2 ^ 31 = sq x (k * pc (dL d t) + rk (dL d t) i + 1) from rfl, e3, li4, pk_mul, show sq x (k * pc (dL d t) + rk (dL d t) i + 1) / 65536 % m = vd m x (k * pc (dL d t) + rk (dL d t) i) from rfl, key, bn_e, bn_e, li1, nI_add, if_pos rfl, hv, Bool.toNat_true, ← Nat.add_assoc]
    · intro kk
      have h8 : rk (dL d t) 8 = pc (dL d t) := bsum8 hL
      dsimp only
      unfold f7_addSeeded_l42_B
      rw [if_pos (show (8 : Int32) ≤ nI 8 by decide), g1, bd2_s, bn_e, li1, nI_add, h8, Nat.succ_mul]
  obtain ⟨mm, s', ⟨⟨x1, x2, x3, x4, x5⟩, hRC⟩, hrun⟩ := loop_inv (fun n (p : Int32 × Int32 × Int32 × Int64 × Int32 × SS) => f7_addSeeded_l29 N n p.1 p.2.1 p.2.2.1 p.2.2.2.1 p.2.2.2.2.1 p.2.2.2.2.2) (fun k p => f7_addSeeded_l29_B N (fun x1 x2 x3 x4 x5 x6 => k (x1, x2, x3, x4, x5, x6)) p.1 p.2.1 p.2.2.1 p.2.2.2.1 p.2.2.2.2.1 p.2.2.2.2.2) (fun n p => rfl)
    (fun k p => (p.1 = nI t ∧ p.2.1 = nI m ∧ p.2.2.1 = nI come ∧ p.2.2.2.1 = lN (sq x (k * pc (dL d t))) ∧ p.2.2.2.2.1 = nI k) ∧ RC (fillD d t m x k) p.2.2.2.2.2) come (by
    rintro k ⟨y1, y2, y3, y4, y5, qk⟩ hk ⟨⟨z1, z2, z3, z4, z5⟩, hRC⟩
    dsimp only at z1 z2 z3 z4 z5 hRC
    subst z1 z2 z3 z4 z5
    obtain ⟨q2, g1, g2⟩ := inner k qk hk hRC
    refine ⟨(nI t, nI m, nI come, lN (sq x ((k + 1) * pc (dL d t))), nI (k + 1), q2), ⟨⟨rfl, rfl, rfl, rfl, rfl⟩, g1⟩, fun kk => ?_⟩
    dsimp only
    unfold f7_addSeeded_l29_B
    rw [if_neg (nI_ge hk (by omega))]
    exact g2 _) N 0 (nI t, nI m, nI come, lN (sq x (0 * pc (dL d t))), nI 0, q) (Nat.zero_le _) (by omega) ⟨⟨rfl, rfl, rfl, rfl, rfl⟩, h⟩
  obtain ⟨y1, y2, y3, y4, y5, q'⟩ := s'
  dsimp only at x1 x2 x3 x4 x5 hRC hrun
  subst x1 x2 x3 x4 x5
  refine ⟨q', ?_, hRC⟩
  unfold f7_addSeeded
  rw [if_pos (show (1 : Int32) ≤ nI m from nI_le (a := 1) h1 (by omega)), c_rowsOf hw h (by omega), bd_s, hcm, bn_e, bn_e, nI_l hx]
  rw [Nat.zero_mul] at hrun
  refine Eq.trans hrun ?_
  unfold f7_addSeeded_l29_B
  rw [if_pos (nI_le (Nat.le_refl _) (by omega))]
theorem m_fill (hw : WF d) (h : RMk d q) (hH : CH d q) {t m x n : Nat} (hN : 1000 ≤ N) (ht : t < dT d) (hx : x < 2 ^ 31) (h1 : 1 ≤ m) (h2 : m ≤ 10) (hn1 : 1 ≤ n) (hn2 : n ≤ 8) : ∃ q', f9_fill_l61 N N (nI t) (nI n) (nI m) (lN x) 0 (nI (pc (dL d t))) q = some (nI (min n (8 - dR d t)), q') ∧ RMk (fillD d t m x (min n (8 - dR d t))) q' ∧ CH (fillD d t m x (min n (8 - dR d t))) q' := by
  have hT := hw.1
  obtain ⟨hL1, hL, hp3, -, -, hR⟩ := hw.2.1 t ht
  generalize hcome : min n (8 - dR d t) = come
  have hc8 : dR d t + come ≤ 8 := by omega
  have inner : ∀ (k : Nat) (qk : SS), k < come → RMk (fillD d t m x k) qk → ∃ q2, RMk (fillD d t m x (k + 1)) q2 ∧ fi q2 3 = 0 ∧ ∀ (bk : Int32 → Int32 → Int32 → Int64 → Int32 → Int32 → SS → Option (Int32 × SS)), f9_fill_l81 N bk N (nI t) (nI n) (nI m) (lN (sq x (k * pc (dL d t)))) (nI k) (nI (pc (dL d t))) (nI 0) qk = bk (nI t) (nI n) (nI m) (lN (sq x ((k + 1) * pc (dL d t)))) (nI (k + 1)) (nI (pc (dL d t))) q2 := by
    intro k qk hk hRM
    have hwk := fillD_WF (x := x) hw ht h1 h2 k (by omega)
    have htk : t < dT (fillD d t m x k) := by rw [fillD_T]; exact ht
    -- the draws
    have draws : ∀ j, j ≤ pc (dL d t) → ∃ qj, RMk (fillD d t m x k) qj ∧ (∀ j', j' < j → ar qj 5 j' = nI (vd m x (k * pc (dL d t) + j'))) ∧ ∀ (bk : Int32 → Int32 → Int32 → Int64 → Int32 → Int32 → SS → Option (Int32 × SS)) (f : Nat), j < f → f9_fill_l81 N bk f (nI t) (nI n) (nI m) (lN (sq x (k * pc (dL d t)))) (nI k) (nI (pc (dL d t))) (nI 0) qk = f9_fill_l81 N bk (f - j) (nI t) (nI n) (nI m) (lN (sq x (k * pc (dL d t) + j))) (nI k) (nI (pc (dL d t))) (nI j) qj := by
      intro j
      induction j with
      | zero => intro _; exact ⟨qk, hRM, fun j' hj' => by omega, fun bk f hf => rfl⟩
      | succ j ih =>
        intro hj
        obtain ⟨qj, g1, g2, g3⟩ := ih (by omega)
        refine ⟨sa qj 5 j (nI (vd m x (k * pc (dL d t) + j))), g1.same (sameM.rf.sa (by omega) _ _), fun j' hj' => ?_, fun bk f hf => ?_⟩
        · rw [ar_sa, if_pos rfl]
          by_cases hjj : j' = j
          · rw [if_pos hjj, hjj]
          · rw [if_neg hjj]; exact g2 j' (by omega)
        · rw [g3 bk f (by omega)]
          obtain ⟨f', hf'⟩ : ∃ f', f - j = f' + 1 := ⟨f - j - 1, by omega⟩
          rw [hf', show f - (j + 1) = f' by omega]
          have hs := sq_lt hx (k * pc (dL d t) + j)
          have hs1 := sq_lt hx (k * pc (dL d t) + j + 1)
          have e2 := lcg_ok hs
          have e3 := draw_ok hs1 h1 h2
          show f9_fill_l81_B N bk (f9_fill_l81 N bk f') _ _ _ _ _ _ _ _ = _
          unfold f9_fill_l81_B
          rw [if_neg (nI_ge (by omega) (by omega)), e2, bn_e, dzl_ok h1 h2, ck_nI (by omega) (by decide), ix_nI (by omega)]
          rw [show (1103515245 * sq x (k * pc (dL d t) + j) + 12345) % 2 ^ 31 = sq x (k * pc (dL d t) + j + 1) from rfl, e3, show sq x (k * pc (dL d t) + j + 1) / 65536 % m = vd m x (k * pc (dL d t) + j) from rfl, bn_e, bn_e, li1, nI_add, ← Nat.add_assoc]
    obtain ⟨qj, g1, g2, g3⟩ := draws (pc (dL d t)) (Nat.le_refl _)
    obtain ⟨q2, k1, k2, k3⟩ := m_lay (N := N) hwk g1 (w := fw (dL d t) m x k) (a := ar qj 5 (ix 0)) (b := ar qj 5 (ix 1)) (c := ar qj 5 (ix 2)) hN htk (by rw [fillD_R]; omega) (fun l hl hb => by
      rw [fillD_L] at hb ⊢
      have hr := rk_pc hL hl hb
      have hfw : fw (dL d t) m x k l = vd m x (k * pc (dL d t) + rk (dL d t) l) := if_pos hb
      have e := g2 _ hr
      rw [hfw]
      rcases (show rk (dL d t) l = 0 ∨ rk (dL d t) l = 1 ∨ rk (dL d t) l = 2 by omega) with h0 | h0 | h0
      · rw [h0] at e ⊢; rw [if_pos rfl]; exact e
      · rw [h0] at e ⊢; rw [if_neg (by decide), if_pos rfl]; exact e
      · rw [h0] at e ⊢; rw [if_neg (by decide), if_neg (by decide)]; exact e)
    refine ⟨q2, k2, k3, fun bk => ?_⟩
    rw [g3 bk N (by omega)]
    obtain ⟨f', hf'⟩ : ∃ f', N - pc (dL d t) = f' + 1 := ⟨N - pc (dL d t) - 1, by omega⟩
    rw [hf']
    show f9_fill_l81_B N bk (f9_fill_l81 N bk f') _ _ _ _ _ _ _ _ = _
    unfold f9_fill_l81_B
    rw [if_pos (nI_le (Nat.le_refl _) (by omega)), k1, bd_s, bn_e, li1, nI_add, Nat.succ_mul]
  obtain ⟨mm, s', ⟨⟨x1, x2, x3, x4, x5, x6⟩, hRM, hCH⟩, hrun⟩ := loop_inv (fun n (p : Int32 × Int32 × Int32 × Int64 × Int32 × Int32 × SS) => f9_fill_l61 N n p.1 p.2.1 p.2.2.1 p.2.2.2.1 p.2.2.2.2.1 p.2.2.2.2.2.1 p.2.2.2.2.2.2) (fun k p => f9_fill_l61_B N (fun x1 x2 x3 x4 x5 x6 x7 => k (x1, x2, x3, x4, x5, x6, x7)) p.1 p.2.1 p.2.2.1 p.2.2.2.1 p.2.2.2.2.1 p.2.2.2.2.2.1 p.2.2.2.2.2.2) (fun n p => rfl)
    (fun k p => (p.1 = nI t ∧ p.2.1 = nI n ∧ p.2.2.1 = nI m ∧ p.2.2.2.1 = lN (sq x (k * pc (dL d t))) ∧ p.2.2.2.2.1 = nI k ∧ p.2.2.2.2.2.1 = nI (pc (dL d t))) ∧ RMk (fillD d t m x k) p.2.2.2.2.2.2 ∧ CH (fillD d t m x k) p.2.2.2.2.2.2) come (by
    rintro k ⟨y1, y2, y3, y4, y5, y6, qk⟩ hk ⟨⟨z1, z2, z3, z4, z5, z6⟩, hRM, hCH⟩
    dsimp only at z1 z2 z3 z4 z5 z6 hRM hCH
    subst z1 z2 z3 z4 z5 z6
    obtain ⟨q2, g1, g2, g3⟩ := inner k qk hk hRM
    refine ⟨(nI t, nI n, nI m, lN (sq x ((k + 1) * pc (dL d t))), nI (k + 1), nI (pc (dL d t)), q2), ⟨⟨rfl, rfl, rfl, rfl, rfl, rfl⟩, g1, Or.inl g2⟩, fun kk => ?_⟩
    have e3 := hRM.2.2.2.2.2.2.1 t (by omega)
    rw [fillD_R] at e3
    dsimp only
    unfold f9_fill_l61_B
    rw [if_neg (nI_ge (by omega) (by omega)), ck_nI (by omega) (by decide), ix_nI (by omega), e3, if_neg (show ¬ (8 : Int32) ≤ nI (dR d t + k) from nI_ge (b := 8) (by omega) (by decide))]
    exact g3 _) N 0 (nI t, nI n, nI m, lN (sq x (0 * pc (dL d t))), nI 0, nI (pc (dL d t)), q) (Nat.zero_le _) (by omega) ⟨⟨rfl, rfl, rfl, rfl, rfl, rfl⟩, h, hH⟩
  obtain ⟨y1, y2, y3, y4, y5, y6, q'⟩ := s'
  dsimp only at x1 x2 x3 x4 x5 x6 hRM hCH hrun
  subst x1 x2 x3 x4 x5 x6
  refine ⟨q', ?_, hRM, hCH⟩
  rw [Nat.zero_mul] at hrun
  refine Eq.trans hrun ?_
  have e3 := hRM.2.2.2.2.2.2.1 t (by omega)
  rw [fillD_R] at e3
  unfold f9_fill_l61_B
  by_cases hnc : n ≤ come
  · rw [if_pos (nI_le hnc (by omega))]
  · rw [if_neg (nI_ge (by omega) (by omega)), ck_nI (by omega) (by decide), ix_nI (by omega), e3, if_pos (show (8 : Int32) ≤ nI (dR d t + come) from nI_le (a := 8) (by omega) (by omega))]
theorem op_fill (hN : 1000 ≤ N) : Op_fill N Sim := by
  rintro a b c e qC qM ⟨d, hw, hC, hM, hH⟩
  have hT := hw.1
  unfold f8_fill f9_fill
  rcases tcase a (n := dT d) (by omega) with ⟨t, ht, rfl⟩ | ha
  · obtain ⟨hL1, hL, hp3, -, -, hR⟩ := hw.2.1 t ht
    rw [c_holds hw hC ht, bd_s, if_neg (show ¬ (1 : Int32) = 0 by decide), m_isTable hw hM ht, bd_s, if_neg (show ¬ (1 : Int32) = 0 by decide)]
    by_cases hb : b < 0
    · exact ⟨-102, qC, qM, by rw [if_pos hb], by rw [if_pos hb], d, hw, hC, hM, hH⟩
    · rw [if_neg hb, if_neg hb]
      obtain ⟨x, hx, rfl⟩ := nI_of hb
      rcases rcase c 1 (hi := 8) (by decide) with ⟨n, n1, n2, rfl⟩ | hc
      · have e1 : f9_in (nI n).toInt64 1 8 = some 1 := m_in_ok n1 n2 (by decide)
        rw [e1, bd_s, if_neg (show ¬ (1 : Int32) = 0 by decide), if_neg (show ¬ nI n < 1 from nI_nlt (b := 1) n1 (by omega)), if_neg (show ¬ (8 : Int32) < nI n from nI_nlt (a := 8) n2 (by decide))]
        rcases rcase e 1 (hi := 10) (by decide) with ⟨m, m1, m2, rfl⟩ | he
        · have e2 : f9_in (nI m).toInt64 1 10 = some 1 := m_in_ok m1 m2 (by decide)
          obtain ⟨qC', g1, g2⟩ := c_fill (N := N) hw hC hN ht hx m1 m2 n1 n2
          obtain ⟨qM', k1, k2, k3⟩ := m_fill (N := N) hw hM hH hN ht hx m1 m2 n1 n2
          have e0 := (hM.2.2.2.2.2.1 t ht).1
          refine ⟨nI (min n (8 - dR d t)), qC', qM', ?_, ?_, fillD d t m x (min n (8 - dR d t)), fillD_WF hw ht m1 m2 _ (by omega), g2, k2, k3⟩
          · rw [if_neg (show ¬ nI m < 1 from nI_nlt (b := 1) m1 (by omega)), if_pos (show nI m ≤ 10 from nI_le (b := 10) m2 (by decide)), g1, bd2_s]
          · rw [e2, bd_s, if_neg (show ¬ (1 : Int32) = 0 by decide), bn_e, ck_nI (by omega) (by decide), ix_nI (by omega), e0, m_bitsOf hN hL, bd_s, nI_l hx]
            exact k1
        · have e2 : f9_in e.toInt64 1 10 = some 0 := m_in_no (by decide) (by decide) he
          refine ⟨-102, qC, qM, ?_, ?_, d, hw, hC, hM, hH⟩
          · by_cases h1 : e < 1
            · rw [if_pos h1]
            · rw [if_neg h1, if_neg]
              rw [show (10 : Int32) = nI 10 from rfl, leI (by decide)]
              rw [show (1 : Int32) = nI 1 from rfl, ltI (by decide)] at h1
              omega
          · rw [e2, bd_s, if_pos rfl]
      · have e1 : f9_in c.toInt64 1 8 = some 0 := m_in_no (by decide) (by decide) hc
        refine ⟨-102, qC, qM, ?_, ?_, d, hw, hC, hM, hH⟩
        · by_cases h1 : c < 1
          · rw [if_pos h1]
          · rw [if_neg h1, if_pos]
            rw [show (8 : Int32) = nI 8 from rfl, Int32.lt_iff_toInt_lt, nI_toInt (by decide)]
            rw [show (1 : Int32) = nI 1 from rfl, ltI (by decide)] at h1
            omega
        · rw [e1, bd_s, if_pos rfl]
  · refine ⟨-101, qC, qM, ?_, ?_, d, hw, hC, hM, hH⟩
    · simp (disch := omega) only [bd_s, bd2_s, bn_e, ck_nI, dz_nI, cz_0, cz_1, ix_nI, le_t, le_f, lt_t, lt_f, eq_t, eq_f, if_true, if_false, nI_add, pk_sub, pk_mul, pk_div, c_holds_f hC ha, li0, li1, li2, li3, li4, li5, li6, li7, li8, li9, li10, li12, li15, li16, li20, li21, li24, li31, li32, li40, li41, li48, li53, li55, li56, li57, li63, li64, li100, li108, li112, li115, li126, li127, li255, li256, li576, li384]
    · simp (disch := omega) only [bd_s, bd2_s, bn_e, ck_nI, dz_nI, cz_0, cz_1, ix_nI, le_t, le_f, lt_t, lt_f, eq_t, eq_f, if_true, if_false, nI_add, pk_sub, pk_mul, pk_div, m_isTable_f hw hM ha, li0, li1, li2, li3, li4, li5, li6, li7, li8, li9, li10, li12, li15, li16, li20, li21, li24, li31, li32, li40, li41, li48, li53, li55, li56, li57, li63, li64, li100, li108, li112, li115, li126, li127, li255, li256, li576, li384]
end RowFill
