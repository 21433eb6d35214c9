/-! size, pages -/
section SizeOps
variable {N : Nat} {d : DB} {q : SS} {s : Nat}
def fr12 (q q' : SS) : Prop := (∀ j, fi q' j = fi q j) ∧ (∀ k, k ≠ 12 → ar q' k = ar q k) ∧ lo q' = lo q
theorem c_allow (hN : 1000 ≤ N) : ∃ q', f3_allowAllRows N q = some q' ∧ fr12 q q' ∧ ∀ u, u < 6 → ar q' 12 u = nI 255 := by
  obtain ⟨q', ⟨g1, g2⟩, hrun⟩ := loop_st (fun n (p : Int32 × Int32 × Int32 × SS) => fJ7_fill_v12_l5 N n p.1 p.2.1 p.2.2.1 p.2.2.2) (fun k p => fJ7_fill_v12_l5_B N (fun x1 x2 x3 x4 => k (x1, x2, x3, x4)) p.1 p.2.1 p.2.2.1 p.2.2.2) (fun n p => rfl) (fun k q => (nI 255, nI k, nI 6, q)) (fun k q' => fr12 q q' ∧ ∀ u, u < k → ar q' 12 u = nI 255) 0 6 (fun q' => some q') (by
    rintro k q1 - hk ⟨g1, g2⟩
    refine ⟨sa q1 12 k (nI 255), ⟨⟨fun j => g1.1 j, fun j hj => ?_, g1.2.2⟩, fun u hu => ?_⟩, fun kk => ?_⟩
    · funext m
      rw [ar_sa, if_neg hj, g1.2.1 j hj]
    · rw [ar_sa, if_pos rfl]
      by_cases huk : u = k
      · rw [if_pos huk]
      · rw [if_neg huk]; exact g2 u (by omega)
    · dsimp only
      unfold fJ7_fill_v12_l5_B
      rw [if_neg (nI_ge hk (by decide)), ck_nI hk (by decide), ix_nI (by omega), bn_e, nI_s, bn_e]) (by
    rintro q1 - kk
    dsimp only
    unfold fJ7_fill_v12_l5_B
    rw [if_pos (nI_le (Nat.le_refl _) (by decide))]) N 0 q (by omega) (by omega) (by omega) ⟨⟨fun _ => rfl, fun _ _ => rfl, rfl⟩, fun u hu => by omega⟩
  refine ⟨q', ?_, g1, g2⟩
  unfold f3_allowAllRows
  have : fJ7_fill_v12 N 255 q = some q' := hrun
  rw [this, bd_s]
/-- the count's own cells -/
def frS (q q' : SS) : Prop := (∀ j, fi q' j = fi q j) ∧ (∀ k, k ≠ 12 → k ≠ 13 → k ≠ 14 → k ≠ 15 → ar q' k = ar q k) ∧ lo q' = lo q
theorem frS.rf {q : SS} : frS q q := ⟨fun _ => rfl, fun _ _ _ _ _ => rfl, rfl⟩
theorem frS.tr {a b c : SS} (h : frS a b) (g : frS b c) : frS a c := ⟨fun k => (g.1 k).trans (h.1 k), fun k h1 h2 h3 h4 => (g.2.1 k h1 h2 h3 h4).trans (h.2.1 k h1 h2 h3 h4), g.2.2.trans h.2.2⟩
theorem frS.same {a b : SS} (h : frS a b) : sameC a b := ⟨fun k _ => h.1 k, fun k hk => h.2.1 k (by omega) (by omega) (by omega) (by omega)⟩
theorem fr12.S {a b : SS} (h : fr12 a b) : frS a b := ⟨h.1, fun k h1 _ _ _ => h.2.1 k h1, h.2.2⟩
theorem fr1314.S {a b : SS} (h : fr1314 a b) : frS a b := ⟨h.1, fun k _ h2 h3 _ => h.2.1 k h2 h3, h.2.2⟩
theorem bit255 {i : Nat} (h : i < 8) : (255 : Nat).testBit i = true := by
  have key : ∀ i : Fin 8, (255 : Nat).testBit i.1 = true := by decide
  exact key ⟨i, h⟩
theorem c_trueSize (hw : WF d) (h : RC d q) (hN : 1000 ≤ N) (hs : s < 2 ^ dT d) : ∃ q', (bd (f3_allowAllRows N q) fun q_12 => f3_counted N (nI s) q_12) = some (nI (tsz d s), q') ∧ frS q q' := by
  have hT := hw.1
  obtain ⟨q1, r1, f1, a1⟩ := c_allow (N := N) (q := q) hN
  obtain ⟨q2, r2, f2⟩ := c_counted (A := fun _ => 255) (N := N) hw (h.same f1.S.same) hN hs (fun _ => by decide) (fun u hu _ => a1 u (by omega))
  refine ⟨q2, ?_, f1.S.tr f2.S⟩
  rw [r1, bd_s, r2, enumA_all hw (fun t i hi => bit255 (Nat.lt_of_lt_of_le hi (R8 hw t)))]
  rfl
def szb (d : DB) (s b : Nat) : Nat := if b = 1 then fz d s else tsz d s
theorem c_sizeOf (hw : WF d) (h : RC d q) (hN : 1000 ≤ N) (hs : s < 2 ^ dT d) {b : Nat} (hb : b ≤ 1) : ∃ q', f3_sizeOf N (nI s) (nI b) q = some (nI (szb d s b), q') ∧ frS q q' := by
  unfold f3_sizeOf szb
  rcases (show b = 0 ∨ b = 1 by omega) with rfl | rfl
  · obtain ⟨q1, r1, f1⟩ := c_trueSize (N := N) hw h hN hs
    refine ⟨q1, ?_, f1⟩
    rw [if_neg (show ¬ nI 0 = 1 by decide), if_neg (by decide)]
    rw [show (bd (f3_allowAllRows N q) fun q_12 => bd2 (f3_counted N (nI s) q_12) fun r_17 q_17 => some (r_17, q_17)) = bd2 (bd (f3_allowAllRows N q) fun q_12 => f3_counted N (nI s) q_12) fun r_17 q_17 => some (r_17, q_17) from by
      cases f3_allowAllRows N q <;> rfl, r1, bd2_s]
  · refine ⟨q, ?_, frS.rf⟩
    rw [if_pos (show nI 1 = 1 from rfl), if_pos rfl, c_foretold hw h hN hs, bd_s]
theorem m_sizeOf (hw : WF d) (h : RMk d q) (hH : CH d q) (hN : 2 ^ 40 ≤ N) (hs1 : 1 ≤ s) (hs : s < 2 ^ dT d) {b : Nat} (hb : b ≤ 1) : ∃ q', f9_sizeOf N (nI s) (nI b) q = some (nI (szb d s b), q') ∧ frT q q' ∧ CH d q' := by
  unfold f9_sizeOf szb
  rcases (show b = 0 ∨ b = 1 by omega) with rfl | rfl
  · obtain ⟨q1, r1, f1, f2⟩ := m_trueSize hw h hH hN hs1 hs
    refine ⟨q1, ?_, f1, f2⟩
    rw [if_pos (show nI 0 = 0 from rfl), if_neg (by decide), r1, bd2_s]
  · refine ⟨q, ?_, frT.rf, hH⟩
    rw [if_neg (show ¬ nI 1 = 0 by decide), if_pos rfl, m_foretold hw h (by omega) hs, bd_s]
theorem by_case (b : Int32) : (∃ k, k ≤ 1 ∧ b = nI k ∧ f8_isBy b = some 1 ∧ f9_in b.toInt64 0 1 = some 1) ∨ (f8_isBy b = some 0 ∧ f9_in b.toInt64 0 1 = some 0) := by
  unfold f8_isBy f8_isBy_b9
  rcases rcase b 0 (hi := 1) (by decide) with ⟨k, -, k2, rfl⟩ | hb
  · left
    refine ⟨k, k2, rfl, ?_, m_in_ok (lo := 0) (hi := 1) (Nat.zero_le _) k2 (by decide)⟩
    rcases (show k = 0 ∨ k = 1 by omega) with rfl | rfl
    · rw [if_pos (show nI 0 = 0 from rfl)]
    · rw [if_neg (show ¬ nI 1 = 0 by decide), if_pos (show nI 1 = 1 from rfl)]
  · right
    refine ⟨?_, m_in_no (lo := 0) (hi := 1) (by decide) (by decide) hb⟩
    rw [if_neg, if_neg]
    · intro e
      rw [e] at hb
      exact absurd hb (by decide)
    · intro e
      rw [e] at hb
      exact absurd hb (by decide)
theorem op_size (hN : 2 ^ 40 ≤ N) : Op_size N Sim := by
  rintro a b qC qM ⟨d, hw, hC, hM, hH⟩
  have h2 := two_pow_T hw
  unfold f8_size f9_size
  rcases scase a (n := 2 ^ dT d) (by omega) with ⟨s, hs1, hs, rfl⟩ | ha
  · rw [c_isSet hw hC hs1 hs, bd_s, if_neg (show ¬ (1 : Int32) = 0 by decide), m_isSet hw hM hs1 hs, bd_s, if_neg (show ¬ (1 : Int32) = 0 by decide)]
    rcases by_case b with ⟨k, hk, rfl, e1, e2⟩ | ⟨e1, e2⟩
    · obtain ⟨qC', r1, f1⟩ := c_sizeOf (N := N) hw hC (by omega) hs hk
      obtain ⟨qM', r2, f2, f3⟩ := m_sizeOf hw hM hH hN hs1 hs hk
      refine ⟨nI (szb d s k), qC', qM', ?_, ?_, d, hw, hC.same f1.same, f2.rm hM, f3⟩
      · rw [e1, bd_s, if_neg (show ¬ (1 : Int32) = 0 by decide), r1, bd2_s]
      · rw [e2, bd_s, if_neg (show ¬ (1 : Int32) = 0 by decide), r2, bd2_s]
    · exact ⟨-102, qC, qM, by rw [e1, bd_s, if_pos rfl], by rw [e2, bd_s, if_pos rfl], d, hw, hC, hM, hH⟩
  · refine ⟨-102, _, _, ?_, ?_, d, hw, hC, hM, hH⟩
    · rw [c_isSet_f hw hC ha, bd_s, if_pos rfl]
    · rw [m_isSet_f hw hM ha, bd_s, if_pos rfl]
theorem fz_le (hw : WF d) : fz d s ≤ 262144 := by
  have := Rp_6 (s := s) hw
  unfold fz
  split
  · omega
  · exact Nat.le_trans (Nat.div_le_self _ _) this
theorem szb_le (hw : WF d) (b : Nat) : szb d s b ≤ 262144 := by
  unfold szb
  split
  · exact fz_le hw
  · exact tsz_le hw s
/-- pages of a set -/
def pgs (d : DB) (s b : Nat) : Nat := if pc s = 1 then pg1 d (tz s) else (szb d s b + dW d - 1) / dW d
theorem pc1 {s : Nat} (h : s < 64) : pc s = 1 ↔ s = 2 ^ tz s ∧ tz s < 6 := by
  have key : ∀ s : Fin 64, pc s.1 = 1 ↔ s.1 = 2 ^ tz s.1 ∧ tz s.1 < 6 := by decide +kernel
  exact key ⟨s, h⟩
theorem c_pagesOf (hw : WF d) (h : RC d q) (hN : 1000 ≤ N) (hs1 : 1 ≤ s) (hs : s < 2 ^ dT d) {b : Nat} (hb : b ≤ 1) : ∃ q', f3_pagesOf N (nI s) (nI b) q = some (nI (pgs d s b), q') ∧ frS q q' := by
  have hs6 := s_lt hw hs
  have hW1 := hw.2.2.2.2.1
  have hW2 := hw.2.2.2.2.2.1
  unfold pgs
  by_cases h1 : pc s = 1
  · have h2 := (pc1 hs6).mp h1
    have htT : tz s < dT d := bit_lt hs (by rw [show s.testBit (tz s) = (2 ^ tz s).testBit (tz s) from by rw [← h2.1], Nat.testBit_two_pow_self])
    refine ⟨q, ?_, frS.rf⟩
    rw [if_pos h1]
    conv => lhs; rw [h2.1]
    exact c_pages1 hw h htT _
  · obtain ⟨q', r1, f1⟩ := c_sizeOf (N := N) hw h hN hs hb
    have hz := szb_le (s := s) hw b
    refine ⟨q', ?_, f1⟩
    have ew : f7_wide q' = some (nI (dW d)) := by
      unfold f7_wide
      rw [f1.1 2, h.2.2.1]
    have hp := pc_le (s := s)
    unfold f3_pagesOf
    rw [bitCount_ok (by omega), bd_s, if_neg (show ¬ nI (pc s) = 1 from fun e => h1 ((nI_eq (b := 1) (by omega) (by decide)).mp e)), r1, bd2_s, ew, bd_s, c_roundedUp hW1 (by omega), bd_s, if_neg h1]
theorem m_pagesOf (hw : WF d) (h : RMk d q) (hH : CH d q) (hN : 2 ^ 40 ≤ N) (hs1 : 1 ≤ s) (hs : s < 2 ^ dT d) {b : Nat} (hb : b ≤ 1) : ∃ q', f9_pagesOf N (nI s) (nI b) q = some (nI (pgs d s b), q') ∧ frT q q' ∧ CH d q' := by
  have hT := hw.1
  have hs6 := s_lt hw hs
  have hW1 := hw.2.2.2.2.1
  have hW2 := hw.2.2.2.2.2.1
  obtain ⟨q', r1, f1, f2⟩ := m_sizeOf hw h hH hN hs1 hs hb
  have hz := szb_le (s := s) hw b
  have := loop_find (fun n (p : Int32 × Int32 × Int32 × SS) => f9_pagesOf_l2 N n p.1 p.2.1 p.2.2.1 p.2.2.2) (fun k p => f9_pagesOf_l2_B N (fun x1 x2 x3 x4 => k (x1, x2, x3, x4)) p.1 p.2.1 p.2.2.1 p.2.2.2) (fun n p => rfl) (fun u => (nI s, nI b, nI u, q)) (fun u => decide (s = 2 ^ u)) (dT d) (fun u => if u < dT d then some (nI (pg1 d u), q) else some (nI ((szb d s b + dW d - 1) / dW d), q')) (c := 0) (by
    intro u _ hu k
    have h64 : 2 ^ u < 64 := pow_lt6 (by omega)
    obtain ⟨-, -, -, hp1, hp4, hR⟩ := hw.2.1 u hu
    dsimp only
    unfold f9_pagesOf_l2_B
    rw [h.1, if_neg (nI_ge hu (by omega)), shl1 (by omega), if_pos hu, nI_s, bn_e]
    by_cases hsu : s = 2 ^ u
    · rw [if_pos (by rw [← hsu]), decide_eq_true hsu, if_pos rfl, ck_nI (by omega) (by decide), ck_nI (by omega) (by decide), ix_nI (by omega), h.2.2.2.2.2.2.1 u (by omega), (h.2.2.2.2.2.1 u hu).2, m_up hp1 (by omega), bd_s]
      rfl
    · rw [if_neg (fun e => hsu ((nI_eq (by omega) (by omega)).mp e)), decide_eq_false hsu, if_neg Bool.false_ne_true]) (by
    intro k
    dsimp only
    unfold f9_pagesOf_l2_B
    rw [h.1, if_pos (nI_le (Nat.le_refl _) (by omega)), r1, bd2_s, f1.1 1 (by decide) (by decide), h.2.1, m_up hW1 (by omega), bd_s, if_neg (Nat.lt_irrefl _)]) (dT d) N 0 (by omega) (by omega) (by omega)
  obtain ⟨g1, g2, g3, g4⟩ := ff_spec (fun u => decide (s = 2 ^ u)) (dT d) 0
  unfold pgs
  by_cases h1 : pc s = 1
  · have h2 := (pc1 hs6).mp h1
    have htT : tz s < dT d := bit_lt hs (by rw [show s.testBit (tz s) = (2 ^ tz s).testBit (tz s) from by rw [← h2.1], Nat.testBit_two_pow_self])
    have hff : ff (fun u => decide (s = 2 ^ u)) 0 (dT d) = tz s := ff_eq (by omega) (by omega) (fun j _ hj => decide_eq_false (fun e => by
      have : 2 ^ j < 2 ^ tz s := Nat.pow_lt_pow_right (by decide) hj
      rw [← h2.1] at this
      omega)) (fun _ => decide_eq_true h2.1)
    refine ⟨q, ?_, frT.rf, hH⟩
    rw [if_pos h1]
    refine Eq.trans this ?_
    rw [hff, if_pos htT]
  · have hff : ff (fun u => decide (s = 2 ^ u)) 0 (dT d) = dT d := by
      rcases Nat.lt_or_ge (ff (fun u => decide (s = 2 ^ u)) 0 (dT d)) (dT d) with z | z
      · exfalso
        have h3 := of_decide_eq_true (g4 (by omega))
        apply h1
        rw [h3]
        exact pc_pow (by omega)
      · omega
    refine ⟨q', ?_, f1, f2⟩
    rw [if_neg h1]
    refine Eq.trans this ?_
    rw [hff, if_neg (Nat.lt_irrefl _)]
theorem op_pages (hN : 2 ^ 40 ≤ N) : Op_pages N Sim := by
  rintro a b qC qM ⟨d, hw, hC, hM, hH⟩
  have h2 := two_pow_T hw
  unfold f8_pages f9_pages
  rcases scase a (n := 2 ^ dT d) (by omega) with ⟨s, hs1, hs, rfl⟩ | ha
  · rw [c_isSet hw hC hs1 hs, bd_s, if_neg (show ¬ (1 : Int32) = 0 by decide), m_isSet hw hM hs1 hs, bd_s, if_neg (show ¬ (1 : Int32) = 0 by decide)]
    rcases by_case b with ⟨k, hk, rfl, e1, e2⟩ | ⟨e1, e2⟩
    · obtain ⟨qC', r1, f1⟩ := c_pagesOf (N := N) hw hC (by omega) hs1 hs hk
      obtain ⟨qM', r2, f2, f3⟩ := m_pagesOf hw hM hH hN hs1 hs hk
      refine ⟨nI (pgs d s k), qC', qM', ?_, ?_, d, hw, hC.same f1.same, f2.rm hM, f3⟩
      · rw [e1, bd_s, if_neg (show ¬ (1 : Int32) = 0 by decide), r1, bd2_s]
      · rw [e2, bd_s, if_neg (show ¬ (1 : Int32) = 0 by decide), r2, bd2_s]
    · exact ⟨-102, qC, qM, by rw [e1, bd_s, if_pos rfl], by rw [e2, bd_s, if_pos rfl], d, hw, hC, hM, hH⟩
  · refine ⟨-102, _, _, ?_, ?_, d, hw, hC, hM, hH⟩
    · rw [c_isSet_f hw hC ha, bd_s, if_pos rfl]
    · rw [m_isSet_f hw hM ha, bd_s, if_pos rfl]
end SizeOps
