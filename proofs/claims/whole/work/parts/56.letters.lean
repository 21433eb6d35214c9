/-! letters -/
theorem usmod_nI {b : Nat} (hb : b < 64) : (((nI b).toInt64.toUInt64 &&& Int64.toUInt64 63).toBitVec % 64).toNat = b := by
  have key : ∀ b : Fin 64, (((nI b.1).toInt64.toUInt64 &&& Int64.toUInt64 63).toBitVec % 64).toNat = b.1 := by decide +kernel
  exact key ⟨b, hb⟩
theorem lushr_lN {a b : Nat} (ha : a < 2 ^ 64) (hb : b < 64) : jlushr (lN a) (nI b) = lN (a / 2 ^ b) := by
  have hle : a / 2 ^ b ≤ a := Nat.div_le_self _ _
  apply eq_tnL
  rw [tn_lN (by omega)]
  show (((lN a).toUInt64 >>> ((nI b).toInt64.toUInt64 &&& Int64.toUInt64 63)).toBitVec).toNat = _
  rw [UInt64.toBitVec_shiftRight]
  show ((lN a).toBitVec >>> (((nI b).toInt64.toUInt64 &&& Int64.toUInt64 63).toBitVec % 64)).toNat = _
  rw [BitVec.ushiftRight_eq', BitVec.toNat_ushiftRight, usmod_nI hb, tn_lN ha, Nat.shiftRight_eq_div_pow]
theorem of_tnL (x : Int64) : ∃ n, n < 2 ^ 64 ∧ x = lN n := ⟨x.toBitVec.toNat, x.toBitVec.isLt, eq_tnL (by rw [tn_lN x.toBitVec.isLt])⟩
def by8 (n k : Nat) : Nat := n / 2 ^ (8 * k) % 256
theorem by8_lt (n k : Nat) : by8 n k < 256 := Nat.mod_lt _ (by decide)
theorem low8 {a : Nat} (ha : a < 2 ^ 64) : Int64.toInt32 (lN a &&& 255) = nI (a % 256) := by
  rw [show (255 : Int64) = lN 255 from rfl, and_lN ha (by decide), show (255 : Nat) = 2 ^ 8 - 1 from rfl, Nat.and_two_pow_sub_one_eq_mod, lN_i]
theorem byte_nI {n k : Nat} (hn : n < 2 ^ 64) (hk : k < 8) : Int64.toInt32 (jlushr (lN n) (nI (8 * k)) &&& 255) = nI (by8 n k) := by
  have hle : n / 2 ^ (8 * k) ≤ n := Nat.div_le_self _ _
  rw [lushr_lN hn (by omega), low8 (by omega)]
  rfl
def cn8 (n k : Nat) : Nat := bsum (fun j => if by8 n j = 0 then 0 else 1) k
theorem cn8_le (n k : Nat) : cn8 n k ≤ k := by
  have := bsum_le (f := fun j => if by8 n j = 0 then 0 else 1) (g := fun _ => 1) (n := k) (fun i _ => by split <;> omega)
  rw [bsum_const] at this
  show bsum _ k ≤ k
  omega
def bad8 (n k : Nat) : Bool := decide (126 < by8 n k ∨ (by8 n k ≠ 0 ∧ cn8 n k < k))
def ok8 (n k : Nat) : Nat := if ∀ j, j < k → bad8 n j = false then 1 else 0
def putG (d : DB) (c : Nat) (f : Nat → Nat) : DB := setG d (dG d + c) (fun k => if dG d ≤ k ∧ k < dG d + c then f (k - dG d) else dg d k)
section Letters
variable {N : Nat} {d : DB} {q : SS}
theorem c_append (h : RC d q) {n c : Nat} (hN : 1000 ≤ N) (hn : n < 2 ^ 64) (hc : c ≤ 8) (hG : dG d + c ≤ 40) : ∃ q', f6_append N (lN n) (nI c) q = some (nI (dG d + c), q') ∧ RC (putG d c (by8 n)) q' := by
  have h4 := h.2.2.2.2.1
  obtain ⟨q', ⟨hf, ha, h4', h16⟩, hrun⟩ := loop_st (fun n (p : Int64 × Int32 × Int32 × SS) => f6_append_l17 N n p.1 p.2.1 p.2.2.1 p.2.2.2) (fun k p => f6_append_l17_B N (fun x1 x2 x3 x4 => k (x1, x2, x3, x4)) p.1 p.2.1 p.2.2.1 p.2.2.2) (fun n p => rfl) (fun k q => (lN n, nI c, nI k, q)) (fun k q1 => (∀ j, j ≠ 4 → fi q1 j = fi q j) ∧ (∀ j, j ≠ 16 → ar q1 j = ar q j) ∧ fi q1 4 = nI (dG d + k) ∧ ∀ m, ar q1 16 m = if dG d ≤ m ∧ m < dG d + k then nI (by8 n (m - dG d)) else ar q 16 m) 0 c (fun q1 => some (nI (dG d + c), q1)) (by
    rintro k q1 - hk ⟨hf, ha, h4, h16⟩
    have e := byte_nI hn (show k < 8 by omega)
    refine ⟨sf (sa q1 16 (dG d + k) (nI (by8 n k))) 4 (nI (dG d + k + 1)), ⟨fun j hj => ?_, fun j hj => ?_, rfl, fun m => ?_⟩, fun kk => ?_⟩
    · rw [fi_sf, if_neg hj, fi_sa, hf j hj]
    · funext m
      rw [ar_sf, ar_sa, if_neg hj, ha j hj]
    · rw [ar_sf, ar_sa, if_pos rfl]
      by_cases hm : m = dG d + k
      · rw [if_pos hm, if_pos (by omega), hm, Nat.add_sub_cancel_left]
      · rw [if_neg hm, h16]
        by_cases hm2 : dG d ≤ m ∧ m < dG d + k
        · rw [if_pos hm2, if_pos (by omega)]
        · rw [if_neg hm2, if_neg (by omega)]
    · dsimp only
      unfold f6_append_l17_B
      simp (disch := omega) only [bd_s, bd2_s, bn_e, ck_nI, dz_nI, cz_0, cz_1, ix_nI, le_t, le_f, lt_t, lt_f, eq_t, eq_f, if_true, if_false, nI_add, pk_sub, pk_mul, pk_div, h4, e, fi_sa, li0, li1, li2, li3, li4, li5, li6, li7, li8, li9, li10, li12, li15, li16, li20, li21, li24, li31, li32, li40, li41, li48, li53, li55, li56, li57, li63, li64, li100, li108, li112, li115, li126, li127, li255, li256, li576, li384]) (by
    rintro q1 ⟨hf, ha, h4, h16⟩ k
    dsimp only
    unfold f6_append_l17_B
    simp (disch := omega) only [bd_s, bd2_s, bn_e, ck_nI, dz_nI, cz_0, cz_1, ix_nI, le_t, le_f, lt_t, lt_f, eq_t, eq_f, if_true, if_false, nI_add, pk_sub, pk_mul, pk_div, h4, li0, li1, li2, li3, li4, li5, li6, li7, li8, li9, li10, li12, li15, li16, li20, li21, li24, li31, li32, li40, li41, li48, li53, li55, li56, li57, li63, li64, li100, li108, li112, li115, li126, li127, li255, li256, li576, li384]) N 0 q (by omega) (by omega) (by omega) ⟨fun _ _ => rfl, fun _ _ => rfl, h4, fun m => by rw [if_neg (by omega)]⟩
  refine ⟨q', ?_, ?_⟩
  · unfold f6_append
    simp (disch := omega) only [bd_s, bd2_s, bn_e, ck_nI, dz_nI, cz_0, cz_1, ix_nI, le_t, le_f, lt_t, lt_f, eq_t, eq_f, if_true, if_false, nI_add, pk_sub, pk_mul, pk_div, h4, li0, li1, li2, li3, li4, li5, li6, li7, li8, li9, li10, li12, li15, li16, li20, li21, li24, li31, li32, li40, li41, li48, li53, li55, li56, li57, li63, li64, li100, li108, li112, li115, li126, li127, li255, li256, li576, li384]
    exact hrun
  · obtain ⟨c0, c1, c2, c3, c4, c5, c6, c7, c8⟩ := h
    refine ⟨by rw [hf 0 (by decide)]; exact c0, by rw [hf 1 (by decide)]; exact c1, by rw [hf 2 (by decide)]; exact c2, by rw [hf 3 (by decide)]; exact c3, h4', fun u hu => by rw [ha 7 (by omega), ha 8 (by omega)]; exact c5 u hu, fun u hu => by rw [ha 9 (by decide)]; exact c6 u hu, fun u i hu hi => by rw [ha 10 (by decide)]; exact c7 u i hu hi, fun k hk => ?_⟩
    have hk : k < dG d + c := hk
    rw [h16]
    show _ = nI (if dG d ≤ k ∧ k < dG d + c then by8 n (k - dG d) else dg d k)
    by_cases hk2 : dG d ≤ k
    · rw [if_pos (by omega), if_pos (by omega)]
    · rw [if_neg (by omega), if_neg (by omega)]; exact c8 k (by omega)
theorem m_append (h : RMk d q) (hH : CH d q) {n c : Nat} (hN : 1000 ≤ N) (hn : n < 2 ^ 64) (hc : c ≤ 8) (hG : dG d + c ≤ 40) : ∃ q', f9_letters_l108 N N (lN n) (nI c) (nI 0) q = some (nI (dG d + c), q') ∧ RMk (putG d c (by8 n)) q' ∧ CH (putG d c (by8 n)) q' := by
  have h4 := h.2.2.2.1
  obtain ⟨q', ⟨hf, ha, h4', h16⟩, hrun⟩ := loop_st (fun n (p : Int64 × Int32 × Int32 × SS) => f9_letters_l108 N n p.1 p.2.1 p.2.2.1 p.2.2.2) (fun k p => f9_letters_l108_B N (fun x1 x2 x3 x4 => k (x1, x2, x3, x4)) p.1 p.2.1 p.2.2.1 p.2.2.2) (fun n p => rfl) (fun k q => (lN n, nI c, nI k, q)) (fun k q1 => (∀ j, j ≠ 5 → fi q1 j = fi q j) ∧ (∀ j, j ≠ 11 → ar q1 j = ar q j) ∧ fi q1 5 = nI (dG d + k) ∧ ∀ m, ar q1 11 m = if dG d ≤ m ∧ m < dG d + k then nI (by8 n (m - dG d)) else ar q 11 m) 0 c (fun q1 => some (nI (dG d + c), q1)) (by
    rintro k q1 - hk ⟨hf, ha, h4, h16⟩
    have e := byte_nI hn (show k < 8 by omega)
    refine ⟨sf (sa q1 11 (dG d + k) (nI (by8 n k))) 5 (nI (dG d + k + 1)), ⟨fun j hj => ?_, fun j hj => ?_, rfl, fun m => ?_⟩, fun kk => ?_⟩
    · rw [fi_sf, if_neg hj, fi_sa, hf j hj]
    · funext m
      rw [ar_sf, ar_sa, if_neg hj, ha j hj]
    · rw [ar_sf, ar_sa, if_pos rfl]
      by_cases hm : m = dG d + k
      · rw [if_pos hm, if_pos (by omega), hm, Nat.add_sub_cancel_left]
      · rw [if_neg hm, h16]
        by_cases hm2 : dG d ≤ m ∧ m < dG d + k
        · rw [if_pos hm2, if_pos (by omega)]
        · rw [if_neg hm2, if_neg (by omega)]
    · dsimp only
      unfold f9_letters_l108_B
      simp (disch := omega) only [bd_s, bd2_s, bn_e, ck_nI, dz_nI, cz_0, cz_1, ix_nI, le_t, le_f, lt_t, lt_f, eq_t, eq_f, if_true, if_false, nI_add, pk_sub, pk_mul, pk_div, h4, e, fi_sa, li0, li1, li2, li3, li4, li5, li6, li7, li8, li9, li10, li12, li15, li16, li20, li21, li24, li31, li32, li40, li41, li48, li53, li55, li56, li57, li63, li64, li100, li108, li112, li115, li126, li127, li255, li256, li576, li384]) (by
    rintro q1 ⟨hf, ha, h4, h16⟩ k
    dsimp only
    unfold f9_letters_l108_B
    simp (disch := omega) only [bd_s, bd2_s, bn_e, ck_nI, dz_nI, cz_0, cz_1, ix_nI, le_t, le_f, lt_t, lt_f, eq_t, eq_f, if_true, if_false, nI_add, pk_sub, pk_mul, pk_div, h4, li0, li1, li2, li3, li4, li5, li6, li7, li8, li9, li10, li12, li15, li16, li20, li21, li24, li31, li32, li40, li41, li48, li53, li55, li56, li57, li63, li64, li100, li108, li112, li115, li126, li127, li255, li256, li576, li384]) N 0 q (by omega) (by omega) (by omega) ⟨fun _ _ => rfl, fun _ _ => rfl, h4, fun m => by rw [if_neg (by omega)]⟩
  refine ⟨q', hrun, ?_, ?_⟩
  · obtain ⟨c0, c1, c2, c3, c4, c5, c6, c7, c8⟩ := h
    refine ⟨by rw [hf 0 (by decide)]; exact c0, by rw [hf 1 (by decide)]; exact c1, by rw [hf 2 (by decide)]; exact c2, h4', by rw [hf 12 (by decide)]; exact c4, fun u hu => by rw [ha 1 (by omega), ha 2 (by omega)]; exact c5 u hu, fun u hu => by rw [ha 3 (by decide)]; exact c6 u hu, fun u i l hu hi hl hb => by rw [ha 4 (by decide)]; exact c7 u i l hu hi hl hb, fun k hk => ?_⟩
    have hk : k < dG d + c := hk
    rw [h16]
    show _ = nI (if dG d ≤ k ∧ k < dG d + c then by8 n (k - dG d) else dg d k)
    by_cases hk2 : dG d ≤ k
    · rw [if_pos (by omega), if_pos (by omega)]
    · rw [if_neg (by omega), if_neg (by omega)]; exact c8 k (by omega)
  · show fi q' 3 = 0 ∨ (fi q' 3 = 1 ∧ ∀ s, 1 ≤ s → s < 2 ^ dT d → ar q' 8 s = nI (tsz d s))
    rw [hf 3 (by decide), ha 8 (by decide)]
    exact hH
theorem c_letters (h : RC d q) {n : Nat} (hN : 1000 ≤ N) (hn : n < 2 ^ 64) : f8_letters N (lN n) q = if ff (bad8 n) 0 8 < 8 then some (-102, q) else bd2 (f6_append N (lN n) (nI (cn8 n 8)) q) fun r q => some (r, q) := by
  have := loop_find (fun n (p : Int64 × Int32 × Int32 × SS) => f8_letters_l5 N n p.1 p.2.1 p.2.2.1 p.2.2.2) (fun k p => f8_letters_l5_B N (fun x1 x2 x3 x4 => k (x1, x2, x3, x4)) p.1 p.2.1 p.2.2.1 p.2.2.2) (fun n p => rfl) (fun k => (lN n, nI (cn8 n k), nI k, q)) (bad8 n) 8 (fun k => if k < 8 then some (-102, q) else bd2 (f6_append N (lN n) (nI (cn8 n 8)) q) fun r q => some (r, q)) (c := 0) (by
    intro k _ hk kk
    have e := byte_nI hn hk
    have hle := cn8_le n k
    have hb := by8_lt n k
    have hs : cn8 n (k + 1) = cn8 n k + (if by8 n k = 0 then 0 else 1) := rfl
    dsimp only
    rw [hs, if_pos hk]
    unfold bad8 f8_letters_l5_B f8_letters_b41 f8_letters_b42 f8_letters_b67
    rw [if_neg (show ¬ (8 : Int32) ≤ nI k from nI_ge (b := 8) hk (by decide)), show (8 : Int32) * nI k = nI (8 * k) from by rw [li8, pk_mul], e, bn_e]
    generalize by8 n k = b at *
    generalize cn8 n k = c at *
    by_cases hb0 : b = 0
    · subst hb0
      have hd : decide (126 < 0 ∨ ((0 : Nat) ≠ 0 ∧ c < k)) = false := decide_eq_false (by omega)
      simp (disch := omega) only [bd_s, bd2_s, bn_e, ck_nI, dz_nI, cz_0, cz_1, ix_nI, le_t, le_f, lt_t, lt_f, eq_t, eq_f, if_true, if_false, nI_add, pk_sub, pk_mul, pk_div, hd, Bool.false_eq_true, Nat.add_zero, li0, li1, li2, li3, li4, li5, li6, li7, li8, li9, li10, li12, li15, li16, li20, li21, li24, li31, li32, li40, li41, li48, li53, li55, li56, li57, li63, li64, li100, li108, li112, li115, li126, li127, li255, li256, li576, li384]
    · by_cases hck : c < k
      · have hd : decide (126 < b ∨ (b ≠ 0 ∧ c < k)) = true := decide_eq_true (by omega)
        by_cases h126 : 126 < b
        · simp (disch := omega) only [bd_s, bd2_s, bn_e, ck_nI, dz_nI, cz_0, cz_1, ix_nI, le_t, le_f, lt_t, lt_f, eq_t, eq_f, if_true, if_false, nI_add, pk_sub, pk_mul, pk_div, hd, hb0, li0, li1, li2, li3, li4, li5, li6, li7, li8, li9, li10, li12, li15, li16, li20, li21, li24, li31, li32, li40, li41, li48, li53, li55, li56, li57, li63, li64, li100, li108, li112, li115, li126, li127, li255, li256, li576, li384]
        · simp (disch := omega) only [bd_s, bd2_s, bn_e, ck_nI, dz_nI, cz_0, cz_1, ix_nI, le_t, le_f, lt_t, lt_f, eq_t, eq_f, if_true, if_false, nI_add, pk_sub, pk_mul, pk_div, hd, hb0, li0, li1, li2, li3, li4, li5, li6, li7, li8, li9, li10, li12, li15, li16, li20, li21, li24, li31, li32, li40, li41, li48, li53, li55, li56, li57, li63, li64, li100, li108, li112, li115, li126, li127, li255, li256, li576, li384]
      · by_cases h126 : 126 < b
        · have hd : decide (126 < b ∨ (b ≠ 0 ∧ c < k)) = true := decide_eq_true (by omega)
          simp (disch := omega) only [bd_s, bd2_s, bn_e, ck_nI, dz_nI, cz_0, cz_1, ix_nI, le_t, le_f, lt_t, lt_f, eq_t, eq_f, if_true, if_false, nI_add, pk_sub, pk_mul, pk_div, hd, hb0, li0, li1, li2, li3, li4, li5, li6, li7, li8, li9, li10, li12, li15, li16, li20, li21, li24, li31, li32, li40, li41, li48, li53, li55, li56, li57, li63, li64, li100, li108, li112, li115, li126, li127, li255, li256, li576, li384]
        · have hd : decide (126 < b ∨ (b ≠ 0 ∧ c < k)) = false := decide_eq_false (by omega)
          simp (disch := omega) only [bd_s, bd2_s, bn_e, ck_nI, dz_nI, cz_0, cz_1, ix_nI, le_t, le_f, lt_t, lt_f, eq_t, eq_f, if_true, if_false, nI_add, pk_sub, pk_mul, pk_div, hd, hb0, Bool.false_eq_true, li0, li1, li2, li3, li4, li5, li6, li7, li8, li9, li10, li12, li15, li16, li20, li21, li24, li31, li32, li40, li41, li48, li53, li55, li56, li57, li63, li64, li100, li108, li112, li115, li126, li127, li255, li256, li576, li384]) (by
    intro kk
    dsimp only
    unfold f8_letters_l5_B
    simp (disch := omega) only [bd_s, bd2_s, bn_e, ck_nI, dz_nI, cz_0, cz_1, ix_nI, le_t, le_f, lt_t, lt_f, eq_t, eq_f, if_true, if_false, nI_add, pk_sub, pk_mul, pk_div, Nat.lt_irrefl, li0, li1, li2, li3, li4, li5, li6, li7, li8, li9, li10, li12, li15, li16, li20, li21, li24, li31, li32, li40, li41, li48, li53, li55, li56, li57, li63, li64, li100, li108, li112, li115, li126, li127, li255, li256, li576, li384]) 8 N 0 (by omega) (by omega) (by omega)
  exact this
theorem ok8_t {n k : Nat} (h : ∀ j, j < k → bad8 n j = false) : ok8 n k = 1 := if_pos h
theorem ok8_f {n k : Nat} (h : ¬ ∀ j, j < k → bad8 n j = false) : ok8 n k = 0 := if_neg h
theorem ok8_s (n k : Nat) : ok8 n (k + 1) = if ok8 n k = 1 ∧ bad8 n k = false then 1 else 0 := by
  by_cases h : ∀ j, j < k → bad8 n j = false
  · by_cases h2 : bad8 n k = false
    · rw [ok8_t h, if_pos ⟨rfl, h2⟩, ok8_t]
      intro j hj
      by_cases hjk : j = k
      · rw [hjk]; exact h2
      · exact h j (by omega)
    · rw [if_neg (fun z => h2 z.2), ok8_f (fun z => h2 (z k (by omega)))]
  · rw [ok8_f h, if_neg (fun z => absurd z.1 (by decide)), ok8_f (fun z => h (fun j hj => z j (by omega)))]
theorem ok8_le (n k : Nat) : ok8 n k ≤ 1 := by unfold ok8; split <;> omega
theorem m_letters (h : RMk d q) (hG : dG d ≤ 40) {n : Nat} (hN : 1000 ≤ N) (hn : n < 2 ^ 64) : f9_letters N (lN n) q = if ok8 n 8 = 0 then some (-102, q) else if dG d + cn8 n 8 ≤ 40 then f9_letters_l108 N N (lN n) (nI (cn8 n 8)) (nI 0) q else some (-104, q) := by
  have h5 := h.2.2.2.1
  have e0 : f9_letters N (lN n) q = f9_letters_l11 N N (lN n) (nI (cn8 n 0)) (nI (ok8 n 0)) (lN (n / 2 ^ (8 * 0))) (nI 0) q := by
    rw [ok8_t (k := 0) (fun j hj => by omega), Nat.mul_zero, Nat.pow_zero, Nat.div_one]
    rfl
  rw [e0]
  refine loop_run (fun n (p : Int64 × Int32 × Int32 × Int64 × Int32 × SS) => f9_letters_l11 N n p.1 p.2.1 p.2.2.1 p.2.2.2.1 p.2.2.2.2.1 p.2.2.2.2.2) (fun k p => f9_letters_l11_B N (fun x1 x2 x3 x4 x5 x6 => k (x1, x2, x3, x4, x5, x6)) p.1 p.2.1 p.2.2.1 p.2.2.2.1 p.2.2.2.2.1 p.2.2.2.2.2) (fun n p => rfl) (fun k => (lN n, nI (cn8 n k), nI (ok8 n k), lN (n / 2 ^ (8 * k)), nI k, q)) 8 _ (c := 0) ?_ ?_ N 0 (Nat.le_refl _) (Nat.zero_le _) (by omega)
  · intro k _ hk kk
    have hle := cn8_le n k
    have hb := by8_lt n k
    have hok := ok8_le n k
    have hs : cn8 n (k + 1) = cn8 n k + (if by8 n k = 0 then 0 else 1) := rfl
    have hdl : n / 2 ^ (8 * k) ≤ n := Nat.div_le_self _ _
    have e1 : Int64.toInt32 (lN (n / 2 ^ (8 * k)) &&& 255) = nI (by8 n k) := low8 (by omega)
    have e2 : jlushr (lN (n / 2 ^ (8 * k))) 8 = lN (n / 2 ^ (8 * (k + 1))) := by
      rw [li8, lushr_lN (by omega) (by decide), Nat.div_div_eq_div_mul, ← Nat.pow_add, show 8 * (k + 1) = 8 * k + 8 by omega]
    dsimp only
    rw [hs, ok8_s]
    unfold bad8 f9_letters_l11_B
    rw [if_neg (show ¬ (8 : Int32) ≤ nI k from nI_ge (b := 8) hk (by decide)), e1, bn_e, e2, bn_e]
    unfold f9_letters_b57 f9_letters_b61 f9_letters_b62 f9_letters_b75
    generalize by8 n k = b at *
    generalize cn8 n k = c at *
    generalize ok8 n k = o at *
    rcases (show o = 0 ∨ o = 1 by omega) with rfl | rfl
    · have hd : ¬ ((0 : Nat) = 1 ∧ decide (126 < b ∨ (b ≠ 0 ∧ c < k)) = false) := fun z => absurd z.1 (by decide)
      rw [if_neg hd]
      by_cases hb0 : b = 0
      · subst hb0
        simp (disch := omega) only [bd_s, bd2_s, bn_e, ck_nI, dz_nI, cz_0, cz_1, ix_nI, le_t, le_f, lt_t, lt_f, eq_t, eq_f, if_true, if_false, nI_add, pk_sub, pk_mul, pk_div, Nat.add_zero, li0, li1, li2, li3, li4, li5, li6, li7, li8, li9, li10, li12, li15, li16, li20, li21, li24, li31, li32, li40, li41, li48, li53, li55, li56, li57, li63, li64, li100, li108, li112, li115, li126, li127, li255, li256, li576, li384]
      · simp (disch := omega) only [bd_s, bd2_s, bn_e, ck_nI, dz_nI, cz_0, cz_1, ix_nI, le_t, le_f, lt_t, lt_f, eq_t, eq_f, if_true, if_false, nI_add, pk_sub, pk_mul, pk_div, hb0, li0, li1, li2, li3, li4, li5, li6, li7, li8, li9, li10, li12, li15, li16, li20, li21, li24, li31, li32, li40, li41, li48, li53, li55, li56, li57, li63, li64, li100, li108, li112, li115, li126, li127, li255, li256, li576, li384]
    · by_cases hb0 : b = 0
      · subst hb0
        have hd : (1 : Nat) = 1 ∧ decide (126 < 0 ∨ ((0 : Nat) ≠ 0 ∧ c < k)) = false := ⟨rfl, decide_eq_false (by omega)⟩
        rw [if_pos hd]
        simp (disch := omega) only [bd_s, bd2_s, bn_e, ck_nI, dz_nI, cz_0, cz_1, ix_nI, le_t, le_f, lt_t, lt_f, eq_t, eq_f, if_true, if_false, nI_add, pk_sub, pk_mul, pk_div, Nat.add_zero, li0, li1, li2, li3, li4, li5, li6, li7, li8, li9, li10, li12, li15, li16, li20, li21, li24, li31, li32, li40, li41, li48, li53, li55, li56, li57, li63, li64, li100, li108, li112, li115, li126, li127, li255, li256, li576, li384]
      · by_cases hbad : 126 < b ∨ (b ≠ 0 ∧ c < k)
        · have hd : ¬ ((1 : Nat) = 1 ∧ decide (126 < b ∨ (b ≠ 0 ∧ c < k)) = false) := fun z => absurd hbad (of_decide_eq_false z.2)
          rw [if_neg hd]
          by_cases h126 : 126 < b
          · simp (disch := omega) only [bd_s, bd2_s, bn_e, ck_nI, dz_nI, cz_0, cz_1, ix_nI, le_t, le_f, lt_t, lt_f, eq_t, eq_f, if_true, if_false, nI_add, pk_sub, pk_mul, pk_div, hb0, li0, li1, li2, li3, li4, li5, li6, li7, li8, li9, li10, li12, li15, li16, li20, li21, li24, li31, li32, li40, li41, li48, li53, li55, li56, li57, li63, li64, li100, li108, li112, li115, li126, li127, li255, li256, li576, li384]
          · simp (disch := omega) only [bd_s, bd2_s, bn_e, ck_nI, dz_nI, cz_0, cz_1, ix_nI, le_t, le_f, lt_t, lt_f, eq_t, eq_f, if_true, if_false, nI_add, pk_sub, pk_mul, pk_div, hb0, li0, li1, li2, li3, li4, li5, li6, li7, li8, li9, li10, li12, li15, li16, li20, li21, li24, li31, li32, li40, li41, li48, li53, li55, li56, li57, li63, li64, li100, li108, li112, li115, li126, li127, li255, li256, li576, li384]
        · have hd : (1 : Nat) = 1 ∧ decide (126 < b ∨ (b ≠ 0 ∧ c < k)) = false := ⟨rfl, decide_eq_false hbad⟩
          rw [if_pos hd]
          simp (disch := omega) only [bd_s, bd2_s, bn_e, ck_nI, dz_nI, cz_0, cz_1, ix_nI, le_t, le_f, lt_t, lt_f, eq_t, eq_f, if_true, if_false, nI_add, pk_sub, pk_mul, pk_div, hb0, li0, li1, li2, li3, li4, li5, li6, li7, li8, li9, li10, li12, li15, li16, li20, li21, li24, li31, li32, li40, li41, li48, li53, li55, li56, li57, li63, li64, li100, li108, li112, li115, li126, li127, li255, li256, li576, li384]
  · intro kk
    have hc := cn8_le n 8
    have hok := ok8_le n 8
    dsimp only
    unfold f9_letters_l11_B
    by_cases h0 : ok8 n 8 = 0
    · rw [h0]
      simp (disch := omega) only [bd_s, bd2_s, bn_e, ck_nI, dz_nI, cz_0, cz_1, ix_nI, le_t, le_f, lt_t, lt_f, eq_t, eq_f, if_true, if_false, nI_add, pk_sub, pk_mul, pk_div, li0, li1, li2, li3, li4, li5, li6, li7, li8, li9, li10, li12, li15, li16, li20, li21, li24, li31, li32, li40, li41, li48, li53, li55, li56, li57, li63, li64, li100, li108, li112, li115, li126, li127, li255, li256, li576, li384]
    · rw [show ok8 n 8 = 1 by omega]
      by_cases h40 : dG d + cn8 n 8 ≤ 40
      · simp (disch := omega) only [bd_s, bd2_s, bn_e, ck_nI, dz_nI, cz_0, cz_1, ix_nI, le_t, le_f, lt_t, lt_f, eq_t, eq_f, if_true, if_false, nI_add, pk_sub, pk_mul, pk_div, h5, h40, Nat.one_ne_zero, li0, li1, li2, li3, li4, li5, li6, li7, li8, li9, li10, li12, li15, li16, li20, li21, li24, li31, li32, li40, li41, li48, li53, li55, li56, li57, li63, li64, li100, li108, li112, li115, li126, li127, li255, li256, li576, li384]
      · simp (disch := omega) only [bd_s, bd2_s, bn_e, ck_nI, dz_nI, cz_0, cz_1, ix_nI, le_t, le_f, lt_t, lt_f, eq_t, eq_f, if_true, if_false, nI_add, pk_sub, pk_mul, pk_div, h5, h40, Nat.one_ne_zero, li0, li1, li2, li3, li4, li5, li6, li7, li8, li9, li10, li12, li15, li16, li20, li21, li24, li31, li32, li40, li41, li48, li53, li55, li56, li57, li63, li64, li100, li108, li112, li115, li126, li127, li255, li256, li576, li384]
theorem op_letters (hN : 1000 ≤ N) : Op_letters N Sim := by
  rintro a qC qM ⟨d, hw, hC, hM, hH⟩
  obtain ⟨n, hn, rfl⟩ := of_tnL a
  have hc8 := cn8_le n 8
  have hG := hw.2.2.2.2.2.2.2.2.1
  obtain ⟨f1, f2, f3, f4⟩ := ff_spec (bad8 n) 8 0
  rw [c_letters hC hN hn, m_letters hM hG hN hn]
  by_cases hbad : ff (bad8 n) 0 8 < 8
  · have : ok8 n 8 = 0 := ok8_f (fun z => by
      have h1 := f4 (by omega)
      rw [z _ hbad] at h1
      cases h1)
    exact ⟨-102, qC, qM, by rw [if_pos hbad], by rw [if_pos this], d, hw, hC, hM, hH⟩
  · have hok : ok8 n 8 = 1 := ok8_t (fun j hj => f3 j (by omega) (by omega))
    rw [if_neg hbad, if_neg (show ¬ ok8 n 8 = 0 by omega)]
    by_cases h40 : dG d + cn8 n 8 ≤ 40
    · obtain ⟨qC', g1, g2⟩ := c_append (N := N) hC hN hn hc8 h40
      obtain ⟨qM', k1, k2, k3⟩ := m_append (N := N) hM hH hN hn hc8 h40
      refine ⟨_, qC', qM', by rw [g1, bd2_s], by rw [if_pos h40]; exact k1, putG d (cn8 n 8) (by8 n), ?_, g2, k2, k3⟩
      obtain ⟨w0, w1, w2, w3, w4, w5, w6, w7, w8, w9, w10⟩ := hw
      refine ⟨w0, w1, w2, w3, w4, w5, w6, w7, h40, fun k => ?_, w10⟩
      show (if dG d ≤ k ∧ k < dG d + cn8 n 8 then by8 n (k - dG d) else dg d k) ≤ 126
      split
      · rename_i hk
        have h1 := f3 (k - dG d) (by omega) (by omega)
        have h2 := of_decide_eq_false h1
        omega
      · exact w9 k
    · refine ⟨-104, qC, qM, ?_, by rw [if_neg h40], d, hw, hC, hM, hH⟩
      unfold f6_append
      simp (disch := omega) only [bd_s, bd2_s, bn_e, ck_nI, dz_nI, cz_0, cz_1, ix_nI, le_t, le_f, lt_t, lt_f, eq_t, eq_f, if_true, if_false, nI_add, pk_sub, pk_mul, pk_div, hC.2.2.2.2.1, li0, li1, li2, li3, li4, li5, li6, li7, li8, li9, li10, li12, li15, li16, li20, li21, li24, li31, li32, li40, li41, li48, li53, li55, li56, li57, li63, li64, li100, li108, li112, li115, li126, li127, li255, li256, li576, li384]
end Letters
