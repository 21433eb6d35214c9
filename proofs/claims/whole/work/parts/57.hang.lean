/-! hanging -/
theorem shl1 {t : Nat} (ht : t < 31) : jshl 1 (nI t) = nI (2 ^ t) := by
  have h : 2 ^ t ≤ 2 ^ 30 := Nat.pow_le_pow_right (by decide) (by omega)
  have := shl_nI (a := 1) (b := t) (by omega) (by omega)
  rw [Nat.one_mul] at this
  exact this
theorem nz {n : Nat} (h : ¬ n = 0) (h2 : n < 2 ^ 31) : ¬ nI n = 0 := fun e => h ((nI_eq (b := 0) h2 (by decide)).mp e)
theorem nI_s (k : Nat) : nI k + 1 = nI (k + 1) := by rw [li1, nI_add]
theorem ff_cut {p : Nat → Bool} {n m : Nat} (hnm : n ≤ m) (h : ∀ u, n ≤ u → u < m → p u = false) : ff p 0 m = if ff p 0 n < n then ff p 0 n else m := by
  obtain ⟨f1, f2, f3, f4⟩ := ff_spec p n 0
  split
  · rename_i hlt
    exact ff_eq (by omega) (by omega) f3 (fun _ => f4 (by omega))
  · exact ff_eq (by omega) (by omega) (fun j _ hj => by
      by_cases hjn : j < n
      · exact f3 j (by omega) (by omega)
      · exact h j (by omega) hj) (fun z => by omega)
theorem andn_le (a b : Nat) : andn a b ≤ a := by
  have h : andn a b &&& a = andn a b := by
    apply Nat.eq_of_testBit_eq
    intro i
    rw [Nat.testBit_and, andn_bit]
    cases a.testBit i <;> simp
  rw [← h]
  exact Nat.and_le_right
theorem bit_lt {s n u : Nat} (hs : s < 2 ^ n) (hb : s.testBit u = true) : u < n := by
  rcases Nat.lt_or_ge u n with h | h
  · exact h
  · rw [Nat.testBit_lt_two_pow (Nat.lt_of_lt_of_le hs (Nat.pow_le_pow_right (by decide) h))] at hb
    cases hb
section Hang
variable {N : Nat} {d : DB} {q : SS}
def hkp (d : DB) (s t u : Nat) : Bool := (andn s (2 ^ t)).testBit u && decide (andn (dL d t &&& lS d (andn s (2 ^ t))) (dL d u) = 0)
def hn (d : DB) (s t : Nat) : Nat := ff (hkp d s t) 0 6
def iI (n : Nat) : Int32 := if n < 6 then nI n else -1
def gp (d : DB) (s t : Nat) : Bool := s.testBit t && (decide (s = 2 ^ t) || decide (hn d s t < 6))
def gn (d : DB) (s : Nat) : Nat := ff (gp d s) 0 6
theorem hkp_T {s t u : Nat} (hs : s < 2 ^ dT d) (hu : dT d ≤ u) : hkp d s t u = false := by
  unfold hkp
  rw [andn_bit, Nat.testBit_lt_two_pow (Nat.lt_of_lt_of_le hs (Nat.pow_le_pow_right (by decide) hu))]
  rfl
theorem gp_T {s t : Nat} (hs : s < 2 ^ dT d) (ht : dT d ≤ t) : gp d s t = false := by
  unfold gp
  rw [Nat.testBit_lt_two_pow (Nat.lt_of_lt_of_le hs (Nat.pow_le_pow_right (by decide) ht))]
  rfl
theorem s_lt (hw : WF d) {s : Nat} (hs : s < 2 ^ dT d) : s < 64 := Nat.lt_of_lt_of_le hs (two_pow_T hw)
theorem hn_cases (d : DB) (s t : Nat) : hn d s t ≤ 6 := by have := (ff_spec (hkp d s t) 6 0).2.1; exact (by show ff _ 0 6 ≤ 6; omega)
theorem gn_cases (d : DB) (s : Nat) : gn d s ≤ 6 := by have := (ff_spec (gp d s) 6 0).2.1; exact (by show ff _ 0 6 ≤ 6; omega)
theorem hn_lt {s t : Nat} (hs : s < 2 ^ dT d) (h : hn d s t < 6) : hn d s t < dT d ∧ hn d s t ≠ t := by
  have h1 := (ff_spec (hkp d s t) 6 0).2.2.2 (by show hn d s t < 0 + 6; omega)
  have h2 : hkp d s t (hn d s t) = true := h1
  unfold hkp at h2
  rw [Bool.and_eq_true, andn_bit, Bool.and_eq_true] at h2
  refine ⟨bit_lt hs h2.1.1, fun e => ?_⟩
  have h3 := h2.1.2
  rw [e, Nat.testBit_two_pow_self] at h3
  cases h3
theorem gn_lt {s : Nat} (hs : s < 2 ^ dT d) (h : gn d s < 6) : gn d s < dT d ∧ s.testBit (gn d s) = true ∧ (s = 2 ^ gn d s ∨ hn d s (gn d s) < 6) := by
  have h1 := (ff_spec (gp d s) 6 0).2.2.2 (by show gn d s < 0 + 6; omega)
  have h2 : gp d s (gn d s) = true := h1
  unfold gp at h2
  rw [Bool.and_eq_true, Bool.or_eq_true, decide_eq_true_iff, decide_eq_true_iff] at h2
  exact ⟨bit_lt hs h2.1, h2.1, h2.2⟩
theorem c_hook (hw : WF d) (h : RC d q) {s t : Nat} (hN : 1000 ≤ N) (hs : s < 2 ^ dT d) (ht : t < dT d) : f1_hookAmong N q (nI s) (nI t) = some (iI (hn d s t)) := by
  have hT := hw.1
  have hs6 := s_lt hw hs
  have h64 : 2 ^ t < 64 := pow_lt6 (by omega)
  have hle := andn_le s (2 ^ t)
  have hL := (hw.2.1 t ht).2.1
  have hand : dL d t &&& lS d (andn s (2 ^ t)) < 256 := Nat.lt_of_le_of_lt Nat.and_le_left hL
  have hlS := lS_lt hw (andn s (2 ^ t))
  unfold f1_hookAmong
  rw [shl1 (by omega), andn_nI (by omega) (by omega), bn_e, c_lettersOf hw h ht, bd_s, c_lettersOfSet hw h hN (by omega), bd_s, and_nI (by omega) (by omega), bn_e]
  have := loop_find (fun n (p : Int32 × Int32 × Int32) => f1_hookAmong_l30 N q n p.1 p.2.1 p.2.2) (fun k p => f1_hookAmong_l30_B N q (fun x1 x2 x3 => k (x1, x2, x3)) p.1 p.2.1 p.2.2) (fun n p => rfl) (fun u => (nI (andn s (2 ^ t)), nI (dL d t &&& lS d (andn s (2 ^ t))), nI u)) (hkp d s t) 6 (fun k => some (iI k)) (c := 0) (by
    intro u _ hu k
    dsimp only
    unfold f1_hookAmong_l30_B f1_hookAmong_b67
    have e1 := bit_nI (a := andn s (2 ^ t)) (b := u) (by omega) (by omega)
    unfold hkp
    rw [e1]
    cases hb : (andn s (2 ^ t)).testBit u
    · simp (disch := omega) only [bd_s, bd2_s, bn_e, ck_nI, dz_nI, cz_0, cz_1, ix_nI, le_t, le_f, lt_t, lt_f, eq_t, eq_f, if_true, if_false, nI_add, pk_sub, pk_mul, pk_div, Bool.toNat_false, Bool.false_and, Bool.false_eq_true, li0, li1, li2, li3, li4, li5, li6, li7, li8, li9, li10, li12, li15, li16, li20, li21, li24, li31, li32, li40, li41, li48, li53, li55, li56, li57, li63, li64, li100, li108, li112, li115, li126, li127, li255, li256, li576, li384]
    · have huT : u < dT d := bit_lt (Nat.lt_of_le_of_lt hle hs) hb
      have hLu := (hw.2.1 u huT).2.1
      rw [Bool.toNat_true, Bool.true_and, if_neg (show ¬ (6 : Int32) ≤ nI u from nI_ge (b := 6) hu (by decide)), if_pos (show nI 1 = 1 from rfl), c_lettersOf hw h huT, bd_s, andn_nI (by omega) (by omega)]
      have hle2 := andn_le (dL d t &&& lS d (andn s (2 ^ t))) (dL d u)
      by_cases hz : andn (dL d t &&& lS d (andn s (2 ^ t))) (dL d u) = 0
      · rw [hz, if_pos (show nI 0 = 0 from rfl), decide_eq_true rfl, if_pos rfl]
        unfold iI
        rw [if_pos hu]
      · rw [if_neg (nz hz (by omega)), decide_eq_false hz]
        simp (disch := omega) only [bd_s, bd2_s, bn_e, ck_nI, dz_nI, cz_0, cz_1, ix_nI, le_t, le_f, lt_t, lt_f, eq_t, eq_f, if_true, if_false, nI_add, pk_sub, pk_mul, pk_div, Bool.false_eq_true, li0, li1, li2, li3, li4, li5, li6, li7, li8, li9, li10, li12, li15, li16, li20, li21, li24, li31, li32, li40, li41, li48, li53, li55, li56, li57, li63, li64, li100, li108, li112, li115, li126, li127, li255, li256, li576, li384]) (by
    intro k
    dsimp only
    unfold f1_hookAmong_l30_B
    simp (disch := omega) only [bd_s, bd2_s, bn_e, ck_nI, dz_nI, cz_0, cz_1, ix_nI, le_t, le_f, lt_t, lt_f, eq_t, eq_f, if_true, if_false, nI_add, pk_sub, pk_mul, pk_div, li0, li1, li2, li3, li4, li5, li6, li7, li8, li9, li10, li12, li15, li16, li20, li21, li24, li31, li32, li40, li41, li48, li53, li55, li56, li57, li63, li64, li100, li108, li112, li115, li126, li127, li255, li256, li576, li384]
    rfl) 6 N 0 (by omega) (by omega) (by omega)
  exact this
theorem m_hook (hw : WF d) (h : RMk d q) {s t : Nat} (hN : 1000 ≤ N) (hs : s < 2 ^ dT d) (ht : t < dT d) : f9_holder N q (nI s) (nI t) = some (iI (hn d s t)) := by
  have hT := hw.1
  have hs6 := s_lt hw hs
  have h64 : 2 ^ t < 64 := pow_lt6 (by omega)
  have hle := andn_le s (2 ^ t)
  have hL := (hw.2.1 t ht).2.1
  have hand : dL d t &&& lS d (andn s (2 ^ t)) < 256 := Nat.lt_of_le_of_lt Nat.and_le_left hL
  have hlS := lS_lt hw (andn s (2 ^ t))
  have e1t := (h.2.2.2.2.2.1 t ht).1
  unfold f9_holder
  rw [shl1 (by omega), andn_nI (by omega) (by omega), m_lettersIn hw h hN (by omega), bd_s, ck_nI (by omega) (by decide), ix_nI (by omega), e1t, and_nI (by omega) (by omega), bn_e, Nat.and_comm (lS d _)]
  have := loop_find (fun n (p : Int32 × Int32 × Int32 × Int32) => f9_holder_l22 N q n p.1 p.2.1 p.2.2.1 p.2.2.2) (fun k p => f9_holder_l22_B N q (fun x1 x2 x3 x4 => k (x1, x2, x3, x4)) p.1 p.2.1 p.2.2.1 p.2.2.2) (fun n p => rfl) (fun u => (nI s, nI t, nI (dL d t &&& lS d (andn s (2 ^ t))), nI u)) (hkp d s t) (dT d) (fun k => some (if k < dT d then nI k else -1)) (c := 0) (by
    intro u _ hu k
    dsimp only
    unfold f9_holder_l22_B f9_holder_b64
    have e1 := bit_nI (a := s) (b := u) (by omega) (by omega)
    unfold hkp
    rw [andn_bit, Nat.testBit_two_pow, e1, h.1, if_neg (nI_ge hu (by omega))]
    by_cases hut : u = t
    · subst hut
      rw [if_pos rfl, decide_eq_true rfl, Bool.not_true, Bool.and_false, Bool.false_and]
      simp (disch := omega) only [bd_s, bd2_s, bn_e, ck_nI, dz_nI, cz_0, cz_1, ix_nI, le_t, le_f, lt_t, lt_f, eq_t, eq_f, if_true, if_false, nI_add, pk_sub, pk_mul, pk_div, Bool.false_eq_true, li0, li1, li2, li3, li4, li5, li6, li7, li8, li9, li10, li12, li15, li16, li20, li21, li24, li31, li32, li40, li41, li48, li53, li55, li56, li57, li63, li64, li100, li108, li112, li115, li126, li127, li255, li256, li576, li384]
    · rw [if_neg (fun e => hut ((nI_eq (by omega) (by omega)).mp e)), decide_eq_false (fun e => hut e.symm), Bool.not_false, Bool.and_true]
      cases hb : s.testBit u
      · simp (disch := omega) only [bd_s, bd2_s, bn_e, ck_nI, dz_nI, cz_0, cz_1, ix_nI, le_t, le_f, lt_t, lt_f, eq_t, eq_f, if_true, if_false, nI_add, pk_sub, pk_mul, pk_div, Bool.toNat_false, Bool.false_and, Bool.false_eq_true, li0, li1, li2, li3, li4, li5, li6, li7, li8, li9, li10, li12, li15, li16, li20, li21, li24, li31, li32, li40, li41, li48, li53, li55, li56, li57, li63, li64, li100, li108, li112, li115, li126, li127, li255, li256, li576, li384]
      · have hLu := (hw.2.1 u hu).2.1
        have e1u := (h.2.2.2.2.2.1 u hu).1
        rw [Bool.toNat_true, Bool.true_and, if_pos (show nI 1 = 1 from rfl), ck_nI (by omega) (by decide), ix_nI (by omega), e1u, andn_nI (by omega) (by omega)]
        have hle2 := andn_le (dL d t &&& lS d (andn s (2 ^ t))) (dL d u)
        by_cases hz : andn (dL d t &&& lS d (andn s (2 ^ t))) (dL d u) = 0
        · rw [hz, if_pos (show nI 0 = 0 from rfl), decide_eq_true rfl, if_pos rfl, if_pos hu]
        · rw [if_neg (nz hz (by omega)), decide_eq_false hz]
          simp (disch := omega) only [bd_s, bd2_s, bn_e, ck_nI, dz_nI, cz_0, cz_1, ix_nI, le_t, le_f, lt_t, lt_f, eq_t, eq_f, if_true, if_false, nI_add, pk_sub, pk_mul, pk_div, Bool.false_eq_true, li0, li1, li2, li3, li4, li5, li6, li7, li8, li9, li10, li12, li15, li16, li20, li21, li24, li31, li32, li40, li41, li48, li53, li55, li56, li57, li63, li64, li100, li108, li112, li115, li126, li127, li255, li256, li576, li384]) (by
    intro k
    dsimp only
    unfold f9_holder_l22_B
    rw [h.1, if_pos (nI_le (Nat.le_refl _) (by omega)), if_neg (Nat.lt_irrefl _)]) (dT d) N 0 (by omega) (by omega) (by omega)
  refine Eq.trans this ?_
  have e := ff_cut (p := hkp d s t) hT (fun u hu _ => hkp_T hs hu)
  unfold hn iI
  rw [e]
  by_cases hlt : ff (hkp d s t) 0 (dT d) < dT d
  · rw [if_pos hlt, if_pos hlt, if_pos (by omega)]
  · rw [if_neg hlt, if_neg hlt, if_neg (by decide)]
theorem iI_m1 {n : Nat} (h : n < 6) : ¬ iI n = -1 := by
  have key : ∀ n : Fin 6, ¬ iI n.1 = -1 := by decide
  exact key ⟨n, h⟩
theorem iI_6 {n : Nat} (h : ¬ n < 6) : iI n = -1 := if_neg h
theorem iI_lt {n : Nat} (h : n < 6) : iI n = nI n := if_pos h
theorem c_next (hw : WF d) (h : RC d q) {s : Nat} (hN : 1000 ≤ N) (hs : s < 2 ^ dT d) : f1_nextToGo N q (nI s) = some (iI (gn d s)) := by
  have hT := hw.1
  have hs6 := s_lt hw hs
  have := loop_find (fun n (p : Int32 × Int32) => f1_nextToGo_l2 N q n p.1 p.2) (fun k p => f1_nextToGo_l2_B N q (fun x1 x2 => k (x1, x2)) p.1 p.2) (fun n p => rfl) (fun u => (nI s, nI u)) (gp d s) 6 (fun k => some (iI k)) (c := 0) (by
    intro u _ hu k
    have h64 : 2 ^ u < 64 := pow_lt6 hu
    have e1 := bit_nI (a := s) (b := u) (by omega) (by omega)
    dsimp only
    unfold f1_nextToGo_l2_B f1_nextToGo_b22 f1_nextToGo_b46 gp
    rw [e1, iI_lt hu, if_neg (show ¬ (6 : Int32) ≤ nI u from nI_ge (b := 6) hu (by decide)), shl1 (by omega)]
    cases hb : s.testBit u
    · simp (disch := omega) only [bd_s, bd2_s, bn_e, ck_nI, dz_nI, cz_0, cz_1, ix_nI, le_t, le_f, lt_t, lt_f, eq_t, eq_f, if_true, if_false, nI_add, pk_sub, pk_mul, pk_div, Bool.toNat_false, Bool.false_and, Bool.false_eq_true, li0, li1, li2, li3, li4, li5, li6, li7, li8, li9, li10, li12, li15, li16, li20, li21, li24, li31, li32, li40, li41, li48, li53, li55, li56, li57, li63, li64, li100, li108, li112, li115, li126, li127, li255, li256, li576, li384]
    · have huT : u < dT d := bit_lt hs hb
      rw [Bool.toNat_true, Bool.true_and, if_pos (show nI 1 = 1 from rfl), if_neg (show ¬ (1 : Int32) = 0 by decide)]
      by_cases hsu : s = 2 ^ u
      · rw [if_pos (by rw [← hsu]), decide_eq_true hsu, Bool.true_or, if_pos rfl]
      · rw [if_neg (fun e => hsu ((nI_eq (by omega) (by omega)).mp e)), decide_eq_false hsu, Bool.false_or, c_hook hw h hN hs huT, bd_s]
        by_cases hh : hn d s u < 6
        · rw [if_neg (iI_m1 hh), decide_eq_true hh, if_pos rfl]
        · rw [iI_6 hh, if_pos rfl, decide_eq_false hh]
          simp (disch := omega) only [bd_s, bd2_s, bn_e, ck_nI, dz_nI, cz_0, cz_1, ix_nI, le_t, le_f, lt_t, lt_f, eq_t, eq_f, if_true, if_false, nI_add, pk_sub, pk_mul, pk_div, Bool.false_eq_true, li0, li1, li2, li3, li4, li5, li6, li7, li8, li9, li10, li12, li15, li16, li20, li21, li24, li31, li32, li40, li41, li48, li53, li55, li56, li57, li63, li64, li100, li108, li112, li115, li126, li127, li255, li256, li576, li384]) (by
    intro k
    dsimp only
    unfold f1_nextToGo_l2_B
    simp (disch := omega) only [bd_s, bd2_s, bn_e, ck_nI, dz_nI, cz_0, cz_1, ix_nI, le_t, le_f, lt_t, lt_f, eq_t, eq_f, if_true, if_false, nI_add, pk_sub, pk_mul, pk_div, li0, li1, li2, li3, li4, li5, li6, li7, li8, li9, li10, li12, li15, li16, li20, li21, li24, li31, li32, li40, li41, li48, li53, li55, li56, li57, li63, li64, li100, li108, li112, li115, li126, li127, li255, li256, li576, li384]
    rfl) 6 N 0 (by omega) (by omega) (by omega)
  exact this
theorem m_next (hw : WF d) (h : RMk d q) {s : Nat} (hN : 1000 ≤ N) (hs : s < 2 ^ dT d) (bk : Int32 → Int32 → SS → Option SS) : f9_takeAway_l45 N bk N (nI s) (-1) (nI (dT d) - 1) q = f9_takeAway_b105 N bk (nI s) (iI (gn d s)) (if gn d s < 6 then 1 else 0) q := by
  have hT := hw.1
  have hs6 := s_lt hw hs
  have e := ff_cut (p := gp d s) hT (fun u hu _ => gp_T hs hu)
  have hcut : gn d s = if ff (gp d s) 0 (dT d) < dT d then ff (gp d s) 0 (dT d) else 6 := e
  have e0 : f9_takeAway_l45 N bk N (nI s) (-1) (nI (dT d) - 1) q = f9_takeAway_l45 N bk N (nI s) (if ff (gp d s) (dT d - 0) 0 < dT d then nI (ff (gp d s) (dT d - 0) 0) else -1) (nI (dT d - 0) - 1) q := by
    rw [Nat.sub_zero, if_neg (show ¬ ff (gp d s) (dT d) 0 < dT d from Nat.lt_irrefl _)]
  rw [e0]
  refine loop_run (fun n (p : Int32 × Int32 × Int32 × SS) => f9_takeAway_l45 N bk n p.1 p.2.1 p.2.2.1 p.2.2.2) (fun k p => f9_takeAway_l45_B N bk (fun x1 x2 x3 x4 => k (x1, x2, x3, x4)) p.1 p.2.1 p.2.2.1 p.2.2.2) (fun n p => rfl) (fun j => (nI s, (if ff (gp d s) (dT d - j) j < dT d then nI (ff (gp d s) (dT d - j) j) else -1), nI (dT d - j) - 1, q)) (dT d) _ (c := 0) ?_ ?_ N 0 (Nat.le_refl _) (Nat.zero_le _) (by omega)
  · intro j _ hj k
    have h64 : 2 ^ (dT d - (j + 1)) < 64 := pow_lt6 (by omega)
    dsimp only
    obtain ⟨u, hu⟩ : ∃ u, u = dT d - (j + 1) := ⟨_, rfl⟩
    have e1 := bit_nI (a := s) (b := u) (by omega) (by omega)
    rw [← hu] at h64 ⊢
    rw [show dT d - j = u + 1 by omega, show nI (u + 1) - 1 = nI u from by rw [li1, pk_sub (by omega)]; rfl]
    have hstep : ff (gp d s) u (j + 1) = if gp d s u then u else ff (gp d s) (u + 1) j := rfl
    rw [hstep]
    have em : nI u + (-1) = nI u - 1 := by rw [Int32.sub_eq_add_neg]
    have hhk := m_hook (N := N) hw h hN hs (show u < dT d by omega)
    unfold f9_takeAway_l45_B f9_takeAway_b79 f9_takeAway_b84 f9_takeAway_b86
    rw [if_neg (show ¬ nI u < 0 from nI_nlt (b := 0) (Nat.zero_le _) (by omega)), e1, shl1 (by omega), em, hhk, bd_s]
    have r1 : gp d s u = true → (if (if gp d s u = true then u else ff (gp d s) (u + 1) j) < dT d then nI (if gp d s u = true then u else ff (gp d s) (u + 1) j) else (-1 : Int32)) = nI u := fun hg => by rw [if_pos hg, if_pos (by omega)]
    have r2 : gp d s u = false → (if (if gp d s u = true then u else ff (gp d s) (u + 1) j) < dT d then nI (if gp d s u = true then u else ff (gp d s) (u + 1) j) else (-1 : Int32)) = (if ff (gp d s) (u + 1) j < dT d then nI (ff (gp d s) (u + 1) j) else -1) := fun hg => by rw [hg, if_neg Bool.false_ne_true]
    cases hb : s.testBit u
    · have hg : gp d s u = false := by unfold gp; rw [hb]; rfl
      rw [r2 hg, Bool.toNat_false, if_neg (show ¬ nI 0 = 1 by decide), bn_e]
    · rw [Bool.toNat_true, if_pos (show nI 1 = 1 from rfl)]
      by_cases hsu : s = 2 ^ u
      · have hg : gp d s u = true := by unfold gp; rw [hb, decide_eq_true hsu]; rfl
        rw [r1 hg, if_pos (by rw [← hsu]), bn_e]
      · rw [if_neg (fun e => hsu ((nI_eq (by omega) (by omega)).mp e))]
        by_cases hh : hn d s u < 6
        · have hg : gp d s u = true := by unfold gp; rw [hb, decide_eq_true hh, Bool.or_true]; rfl
          rw [r1 hg, if_neg (iI_m1 hh), bn_e]
        · have hg : gp d s u = false := by unfold gp; rw [hb, decide_eq_false hh, decide_eq_false hsu]; rfl
          rw [r2 hg, iI_6 hh, if_pos rfl, bn_e]
  · intro k
    dsimp only
    unfold f9_takeAway_l45_B
    rw [Nat.sub_self, if_pos (show nI 0 - 1 < 0 by decide), hcut]
    by_cases hlt : ff (gp d s) 0 (dT d) < dT d
    · rw [if_pos hlt, if_pos hlt, if_pos (show ff (gp d s) 0 (dT d) < 6 by omega), iI_lt (by omega), if_neg]
      rw [← iI_lt (show ff (gp d s) 0 (dT d) < 6 by omega)]
      exact iI_m1 (by omega)
    · rw [if_neg hlt, if_neg hlt, if_neg (show ¬ 6 < 6 by decide), iI_6 (by decide), if_pos rfl]
/-! the tables go -/
def Sq (d : DB) (s : Nat) : Nat → Nat
  | 0 => s
  | k + 1 => if gn d (Sq d s k) < 6 then andn (Sq d s k) (2 ^ gn d (Sq d s k)) else Sq d s k
def tk (d : DB) (s k : Nat) : Nat := gn d (Sq d s k)
def hkk (d : DB) (s k : Nat) : Nat := hn d (Sq d s k) (tk d s k)
def KK (d : DB) (s : Nat) : Nat := ff (fun k => decide (tk d s k = 6)) 0 6
def hf (d : DB) (s : Nat) : Nat → Nat → Int32
  | 0, _ => -1
  | k + 1, t => if t = tk d s k then iI (hkk d s k) else hf d s k t
theorem Sq_le (d : DB) (s : Nat) : ∀ k, Sq d s k ≤ s
  | 0 => Nat.le_refl _
  | k + 1 => by
    have h1 := Sq_le d s k
    have h2 := andn_le (Sq d s k) (2 ^ gn d (Sq d s k))
    show (if gn d (Sq d s k) < 6 then _ else _) ≤ s
    split <;> omega
theorem KK_le (d : DB) (s : Nat) : KK d s ≤ 6 := by have := (ff_spec (fun k => decide (tk d s k = 6)) 6 0).2.1; exact (by show ff _ 0 6 ≤ 6; omega)
theorem KK_lt {s k : Nat} (hk : k < KK d s) : tk d s k < 6 := by
  have h1 := (ff_spec (fun k => decide (tk d s k = 6)) 6 0).2.2.1 k (Nat.zero_le _) hk
  have h2 := of_decide_eq_false h1
  have h3 := gn_cases d (Sq d s k)
  have h4 : tk d s k ≤ 6 := h3
  omega
theorem pc_andn {x t : Nat} (hx : x < 64) (ht : t < 6) (hb : x.testBit t = true) : pc (andn x (2 ^ t)) + 1 = pc x := by
  have key : ∀ x : Fin 64, ∀ t : Fin 6, x.1.testBit t.1 = true → pc (andn x.1 (2 ^ t.1)) + 1 = pc x.1 := by decide +kernel
  exact key ⟨x, hx⟩ ⟨t, ht⟩ hb
theorem pc6 {x : Nat} (hx : x < 64) : pc x ≤ 6 ∧ (pc x = 0 ↔ x = 0) := by
  have key : ∀ x : Fin 64, pc x.1 ≤ 6 ∧ (pc x.1 = 0 ↔ x.1 = 0) := by decide +kernel
  exact key ⟨x, hx⟩
theorem Sq_pc (hw : WF d) {s : Nat} (hs : s < 2 ^ dT d) : ∀ k, k ≤ KK d s → pc (Sq d s k) + k = pc s
  | 0, _ => rfl
  | k + 1, hk => by
    have h1 := Sq_pc hw hs k (by omega)
    have h2 := KK_lt (show k < KK d s by omega)
    have h3 := Sq_le d s k
    have h4 := gn_lt (d := d) (s := Sq d s k) (by omega) h2
    have h5 : Sq d s (k + 1) = andn (Sq d s k) (2 ^ gn d (Sq d s k)) := if_pos h2
    have h6 := s_lt hw hs
    have := pc_andn (x := Sq d s k) (t := gn d (Sq d s k)) (by omega) h2 h4.2.1
    rw [h5]
    omega
theorem gn_0 (d : DB) : gn d 0 = 6 := ff_eq (by omega) (by omega) (fun j _ _ => by unfold gp; rw [Nat.zero_testBit]; rfl) (fun h => by omega)
theorem KK_end (hw : WF d) {s : Nat} (hs : s < 2 ^ dT d) : tk d s (KK d s) = 6 := by
  have h1 := KK_le d s
  by_cases h : KK d s = 6
  · have h2 := Sq_pc hw hs (KK d s) (Nat.le_refl _)
    have h3 := Sq_le d s (KK d s)
    have h6 := s_lt hw hs
    have h4 := pc6 (x := s) (by omega)
    have h5 := pc6 (x := Sq d s (KK d s)) (by omega)
    have : Sq d s (KK d s) = 0 := h5.2.mp (by omega)
    show gn d _ = 6
    rw [this]
    exact gn_0 d
  · have := (ff_spec (fun k => decide (tk d s k = 6)) 6 0).2.2.2 (by show KK d s < 0 + 6; omega)
    exact of_decide_eq_true this
theorem c_fill28 {q : SS} (hN : 1000 ≤ N) : ∃ q', ((∀ j, fi q' j = fi q j) ∧ (∀ j, j ≠ 28 → ar q' j = ar q j) ∧ ∀ t, t < 6 → ar q' 28 t = -1) ∧ fJ7_fill_v28 N (-1) q = some q' :=
  loop_st (fun n (p : Int32 × Int32 × Int32 × SS) => fJ7_fill_v28_l5 N n p.1 p.2.1 p.2.2.1 p.2.2.2) (fun k p => fJ7_fill_v28_l5_B N (fun x1 x2 x3 x4 => k (x1, x2, x3, x4)) p.1 p.2.1 p.2.2.1 p.2.2.2) (fun n p => rfl) (fun k q => (-1, nI k, nI 6, q)) (fun k q' => (∀ j, fi q' j = fi q j) ∧ (∀ j, j ≠ 28 → ar q' j = ar q j) ∧ ∀ t, t < k → ar q' 28 t = -1) 0 6 (fun q' => some q') (by
    rintro k q1 - hk ⟨h1, h2, h3⟩
    refine ⟨sa q1 28 k (-1), ⟨fun j => h1 j, fun j hj => ?_, fun t ht => ?_⟩, fun kk => ?_⟩
    · funext m
      rw [ar_sa, if_neg hj, h2 j hj]
    · rw [ar_sa, if_pos rfl]
      by_cases htk : t = k
      · rw [if_pos htk]
      · rw [if_neg htk]; exact h3 t (by omega)
    · dsimp only
      unfold fJ7_fill_v28_l5_B
      rw [if_neg (nI_ge hk (by decide)), ck_nI hk (by decide), ix_nI (by omega), bn_e, li1, nI_add, bn_e]) (by
    rintro q1 - kk
    dsimp only
    unfold fJ7_fill_v28_l5_B
    rw [if_pos (nI_le (Nat.le_refl _) (by decide))]) N 0 q (by omega) (by omega) (by omega) ⟨fun _ => rfl, fun _ _ => rfl, fun t ht => by omega⟩
/-- what stands in the class's cells once the tables have gone -/
def TC (d : DB) (s : Nat) (q : SS) : Prop := fi q 15 = nI (KK d s) ∧ (∀ k, k < KK d s → ar q 27 k = nI (tk d s k)) ∧ ∀ t, t < 6 → ar q 28 t = hf d s (KK d s) t
def TM (d : DB) (s : Nat) (q : SS) : Prop := fi q 15 = nI (KK d s) ∧ (∀ k, k < KK d s → ar q 22 k = nI (tk d s k)) ∧ ∀ t, t < 6 → ar q 23 t = hf d s (KK d s) t
theorem Sq_s {s k : Nat} (hk : k < KK d s) : Sq d s (k + 1) = andn (Sq d s k) (2 ^ tk d s k) := if_pos (KK_lt hk)
theorem c_takeAway (hw : WF d) (h : RC d q) {s : Nat} (hN : 1000 ≤ N) (hs : s < 2 ^ dT d) : ∃ q', f1_takeAway N (nI s) q = some (if Sq d s (KK d s) = 0 then 1 else 0, q') ∧ sameC q q' ∧ TC d s q' := by
  have hT := hw.1
  have hs6 := s_lt hw hs
  have hK6 := KK_le d s
  have hKe := KK_end hw hs
  obtain ⟨q1, ⟨a1, a2, a3⟩, hrun1⟩ := c_fill28 (N := N) (q := sf q 15 0) hN
  have hsame : sameC q q1 := ⟨fun j hj => by rw [a1, fi_sf, if_neg (by omega)], fun j hj => by rw [a2 j (by omega), ar_sf]⟩
  have e15 : fi q1 15 = nI 0 := by rw [a1]; rfl
  obtain ⟨q2, ⟨g1, g2, g3, g4⟩, hrun2⟩ := loop_st (fun n (p : Int32 × Int32 × SS) => f1_takeAway_l17 N n p.1 p.2.1 p.2.2) (fun k p => f1_takeAway_l17_B N (fun x1 x2 x3 => k (x1, x2, x3)) p.1 p.2.1 p.2.2) (fun n p => rfl) (fun k q => (nI (Sq d s k), nI k, q)) (fun k q2 => sameC q q2 ∧ fi q2 15 = nI k ∧ (∀ j, j < k → ar q2 27 j = nI (tk d s j)) ∧ ∀ t, t < 6 → ar q2 28 t = hf d s k t) 0 (KK d s) (fun q2 => some (if Sq d s (KK d s) = 0 then 1 else 0, q2)) (by
    rintro k q2 - hk ⟨g1, g2, g3, g4⟩
    have hg := KK_lt hk
    have hle := Sq_le d s k
    have hSs : Sq d s k < 2 ^ dT d := by omega
    have hg2 := gn_lt hSs hg
    have htT : tk d s k < dT d := hg2.1
    have h64 : 2 ^ tk d s k < 64 := pow_lt6 hg
    have hne : ¬ Sq d s k = 0 := fun e => by have := hg2.2.1; rw [e, Nat.zero_testBit] at this; cases this
    have en := c_next hw (h.same g1) hN hSs
    have hs1 : sameC q (sa q2 27 k (nI (tk d s k))) := g1.sa (by omega) _ _
    have eh := c_hook hw (h.same hs1) hN hSs htT
    rw [show gn d (Sq d s k) = tk d s k from rfl] at en
    rw [Sq_s hk]
    refine ⟨sf (sa (sa q2 27 k (nI (tk d s k))) 28 (tk d s k) (iI (hkk d s k))) 15 (nI (k + 1)), ⟨(hs1.sa (by omega) _ _).sf (by omega) _, rfl, fun j hj => ?_, fun t ht => ?_⟩, fun kk => ?_⟩
    · rw [ar_sf, ar_sa, if_neg (by decide), ar_sa, if_pos rfl]
      by_cases hjk : j = k
      · rw [if_pos hjk, hjk]
      · rw [if_neg hjk]; exact g3 j (by omega)
    · rw [ar_sf, ar_sa, if_pos rfl, ar_sa, if_neg (show ¬ (28 : Nat) = 27 by decide), g4 t ht]
      rfl
    · dsimp only
      unfold f1_takeAway_l17_B
      rw [if_neg (show ¬ (6 : Int32) ≤ nI k from nI_ge (b := 6) (by omega) (by decide)), if_neg (nz hne (by omega)), en, bd_s, if_neg (iI_m1 hg), iI_lt hg, ck_nI (by omega) (by decide), ix_nI (by omega), bn_e, eh, bd_s, ck_nI hg (by decide), ix_nI (by omega), bn_e, nI_s, bn_e, shl1 (by omega), andn_nI (by omega) (by omega), bn_e, bn_e]
      rfl) (by
    rintro q2 ⟨g1, -⟩ kk
    have hle := Sq_le d s (KK d s)
    have hSs : Sq d s (KK d s) < 2 ^ dT d := by omega
    have en := c_next hw (h.same g1) hN hSs
    rw [show gn d (Sq d s (KK d s)) = 6 from hKe, iI_6 (by decide)] at en
    dsimp only
    unfold f1_takeAway_l17_B f1_takeAway_b86
    by_cases h0 : Sq d s (KK d s) = 0
    · rw [h0, if_pos (show nI 0 = 0 from rfl), if_pos rfl, if_pos (show nI 0 = 0 from rfl)]
      split <;> rfl
    · rw [if_neg (nz h0 (by omega)), if_neg (nz h0 (by omega)), if_neg h0, en, bd_s, if_pos rfl]
      split <;> rfl) N 0 q1 (by omega) (by omega) (by omega) ⟨hsame, e15, fun j hj => by omega, fun t ht => a3 t ht⟩
  refine ⟨q2, ?_, g1, g2, g3, g4⟩
  unfold f1_takeAway
  rw [bn_e, hrun1, bd_s]
  exact hrun2
theorem m_takeAway (hw : WF d) (h : RMk d q) {s : Nat} (hN : 1000 ≤ N) (hs : s < 2 ^ dT d) : ∃ q', f9_takeAway N (nI s) q = some q' ∧ sameM q q' ∧ TM d s q' := by
  have hT := hw.1
  have hs6 := s_lt hw hs
  have hK6 := KK_le d s
  have hKe := KK_end hw hs
  obtain ⟨q1, ⟨a1, a2, a3⟩, hrun1⟩ := loop_st (fun n (p : Int32 × Int32 × SS) => f9_takeAway_l9 N n p.1 p.2.1 p.2.2) (fun k p => f9_takeAway_l9_B N (fun x1 x2 x3 => k (x1, x2, x3)) p.1 p.2.1 p.2.2) (fun n p => rfl) (fun k q => (nI s, nI k, q)) (fun k q' => (∀ j, fi q' j = fi (sf q 15 0) j) ∧ (∀ j, j ≠ 23 → ar q' j = ar q j) ∧ ∀ t, t < k → ar q' 23 t = -1) 0 6 (fun q' => f9_takeAway_l30 N N (nI s) 1 q') (by
    rintro k q1 - hk ⟨h1, h2, h3⟩
    refine ⟨sa q1 23 k (-1), ⟨fun j => h1 j, fun j hj => ?_, fun t ht => ?_⟩, fun kk => ?_⟩
    · funext m
      rw [ar_sa, if_neg hj, h2 j hj]
    · rw [ar_sa, if_pos rfl]
      by_cases htk : t = k
      · rw [if_pos htk]
      · rw [if_neg htk]; exact h3 t (by omega)
    · dsimp only
      unfold f9_takeAway_l9_B
      rw [if_neg (show ¬ (6 : Int32) ≤ nI k from nI_ge (b := 6) hk (by decide)), ck_nI hk (by decide), ix_nI (by omega), bn_e, nI_s, bn_e]) (by
    rintro q1 - kk
    dsimp only
    unfold f9_takeAway_l9_B
    rw [if_pos (show (6 : Int32) ≤ nI 6 by decide)]) N 0 (sf q 15 0) (by omega) (by omega) (by omega) ⟨fun _ => rfl, fun _ _ => rfl, fun t ht => by omega⟩
  have hsame : sameM q q1 := ⟨fun j hj => by rw [a1, fi_sf, if_neg (by omega)], fun j hj => by rw [a2 j (by omega)]⟩
  have e15 : fi q1 15 = nI 0 := by rw [a1]; rfl
  obtain ⟨q2, ⟨g1, g2, g3, g4⟩, hrun2⟩ := loop_st (fun n (p : Int32 × Int32 × SS) => f9_takeAway_l30 N n p.1 p.2.1 p.2.2) (fun k p => f9_takeAway_l30_B N (fun x1 x2 x3 => k (x1, x2, x3)) p.1 p.2.1 p.2.2) (fun n p => rfl) (fun k q => (nI (Sq d s k), nI (if k ≤ KK d s then 1 else 0), q)) (fun k q2 => sameM q q2 ∧ fi q2 15 = nI (min k (KK d s)) ∧ (∀ j, j < min k (KK d s) → ar q2 22 j = nI (tk d s j)) ∧ ∀ t, t < 6 → ar q2 23 t = hf d s (min k (KK d s)) t) 0 (KK d s + 1) (fun q2 => some q2) (by
    rintro k q2 - hk1 ⟨g1, g2, g3, g4⟩
    have hle := Sq_le d s k
    have hSs : Sq d s k < 2 ^ dT d := by omega
    have hM := h.same g1
    have en : ∀ bk, f9_takeAway_l30_B N bk (nI (Sq d s k)) (nI 1) q2 = f9_takeAway_b105 N bk (nI (Sq d s k)) (iI (tk d s k)) (if tk d s k < 6 then 1 else 0) q2 := fun bk => by
      unfold f9_takeAway_l30_B
      rw [if_neg (show ¬ nI 1 = 0 by decide), hM.1, bn_e]
      exact m_next hw hM hN hSs bk
    rw [if_pos (show k ≤ KK d s by omega)]
    by_cases hk : k < KK d s
    · have hg := KK_lt hk
      have hg2 := gn_lt hSs hg
      have htT : tk d s k < dT d := hg2.1
      have h64 : 2 ^ tk d s k < 64 := pow_lt6 hg
      have eh := m_hook hw hM hN hSs htT
      rw [Nat.min_eq_left (show k ≤ KK d s by omega)] at g2 g3 g4
      rw [Sq_s hk, Nat.min_eq_left (show k + 1 ≤ KK d s by omega), if_pos (show k + 1 ≤ KK d s by omega)]
      refine ⟨sf (sa (sa q2 23 (tk d s k) (iI (hkk d s k))) 22 k (nI (tk d s k))) 15 (nI (k + 1)), ⟨((g1.sa (by omega) _ _).sa (by omega) _ _).sf (by omega) _, rfl, fun j hj => ?_, fun t ht => ?_⟩, fun kk => ?_⟩
      · rw [ar_sf, ar_sa, if_pos rfl]
        by_cases hjk : j = k
        · rw [if_pos hjk, hjk]
        · rw [if_neg hjk, ar_sa, if_neg (by decide)]; exact g3 j (by omega)
      · rw [ar_sf, ar_sa, if_neg (by decide), ar_sa, if_pos rfl, g4 t ht]
        rfl
      · refine (en _).trans ?_
        unfold f9_takeAway_b105 f9_takeAway_b154
        rw [if_pos hg, if_neg (show ¬ (1 : Int32) = 0 by decide), iI_lt hg, eh, bd_s, ck_nI hg (by decide), ix_nI (by omega), bn_e, fi_sa, g2, ck_nI (by omega) (by decide), ix_nI (by omega), bn_e, fi_sa, fi_sa, g2, nI_s, bn_e, shl1 (by omega), andn_nI (by omega) (by omega), bn_e]
        rfl
    · have hkK : k = KK d s := by omega
      subst hkK
      rw [if_neg (show ¬ KK d s + 1 ≤ KK d s by omega)]
      refine ⟨q2, ⟨g1, by rw [g2, Nat.min_self, Nat.min_eq_right (by omega)], by rw [Nat.min_self] at g3; rw [Nat.min_eq_right (by omega)]; exact g3, by rw [Nat.min_self] at g4; rw [Nat.min_eq_right (by omega)]; exact g4⟩, fun kk => ?_⟩
      refine (en _).trans ?_
      have hS : Sq d s (KK d s + 1) = Sq d s (KK d s) := if_neg (by rw [show gn d (Sq d s (KK d s)) = 6 from hKe]; decide)
      unfold f9_takeAway_b105 f9_takeAway_b154
      rw [if_neg (show ¬ tk d s (KK d s) < 6 by omega), if_pos rfl, hS]
      rfl) (by
    rintro q2 - kk
    dsimp only
    unfold f9_takeAway_l30_B
    rw [if_neg (show ¬ KK d s + 1 ≤ KK d s by omega), if_pos (show nI 0 = 0 from rfl)]) N 0 q1 (by omega) (by omega) (by omega) ⟨hsame, by rw [Nat.zero_min]; exact e15, fun j hj => by omega, fun t ht => by rw [Nat.zero_min]; exact a3 t ht⟩
  rw [Nat.min_eq_right (show KK d s ≤ KK d s + 1 by omega)] at g2 g3 g4
  refine ⟨q2, ?_, g1, g2, g3, g4⟩
  unfold f9_takeAway
  rw [bn_e]
  refine hrun1.trans ?_
  refine Eq.trans ?_ hrun2
  rfl
end Hang
