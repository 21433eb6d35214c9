/-! hangs, goes, on -/
section HangOps
variable {N : Nat} {d : DB} {q : SS}
theorem hang_iff (hw : WF d) {s : Nat} (hs : s < 2 ^ dT d) : (Sq d s (KK d s) = 0) ↔ KK d s = pc s := by
  have h2 := Sq_pc hw hs (KK d s) (Nat.le_refl _)
  have h3 := Sq_le d s (KK d s)
  have h6 := s_lt hw hs
  have h5 := pc6 (x := Sq d s (KK d s)) (by omega)
  rw [← h5.2]
  omega
theorem m_doesHang (hw : WF d) (h : RMk d q) {s : Nat} (hN : 1000 ≤ N) (hs : s < 2 ^ dT d) : ∃ q', f9_doesHang N (nI s) q = some (if Sq d s (KK d s) = 0 then 1 else 0, q') ∧ sameM q q' ∧ TM d s q' := by
  obtain ⟨q', h1, h2, h3⟩ := m_takeAway hw h hN hs
  refine ⟨q', ?_, h2, h3⟩
  have h6 := s_lt hw hs
  have hK := KK_le d s
  have hp := pc6 h6
  unfold f9_doesHang
  rw [h1, bd_s, m_bitsOf hN (by omega), bd_s, h3.1]
  by_cases hh : Sq d s (KK d s) = 0
  · rw [if_pos hh, if_pos (by rw [(hang_iff hw hs).mp hh])]
  · rw [if_neg hh, if_neg (fun e => hh ((hang_iff hw hs).mpr ((nI_eq (by omega) (by omega)).mp e)))]
theorem op_hangs (hN : 1000 ≤ N) : Op_hangs N Sim := by
  rintro a qC qM ⟨d, hw, hC, hM, hH⟩
  have hT := hw.1
  have h2 := two_pow_T hw
  unfold f8_hangs f9_hangs
  rcases scase a (n := 2 ^ dT d) (by omega) with ⟨s, hs1, hs, rfl⟩ | ha
  · obtain ⟨qC', c1, c2, c3⟩ := c_takeAway hw hC hN hs
    obtain ⟨qM', m1, m2, m3⟩ := m_doesHang hw hM hN hs
    refine ⟨if Sq d s (KK d s) = 0 then 1 else 0, qC', qM', ?_, ?_, d, hw, hC.same c2, hM.same m2, hH.same m2⟩
    · rw [c_isSet hw hC hs1 hs, bd_s, if_neg (show ¬ (1 : Int32) = 0 by decide), c1, bd2_s]
      by_cases hh : Sq d s (KK d s) = 0
      · rw [if_pos hh, if_neg (show ¬ (1 : Int32) = 0 by decide)]
      · rw [if_neg hh, if_pos rfl]
    · rw [m_isSet hw hM hs1 hs, bd_s, if_neg (show ¬ (1 : Int32) = 0 by decide), m1, bd2_s]
      by_cases hh : Sq d s (KK d s) = 0
      · rw [if_pos hh, if_neg (show ¬ (1 : Int32) = 0 by decide)]
      · rw [if_neg hh, if_pos rfl]
  · refine ⟨-102, _, _, ?_, ?_, d, hw, hC, hM, hH⟩
    · rw [c_isSet_f hw hC ha, bd_s, if_pos rfl]
    · rw [m_isSet_f hw hM ha, bd_s, if_pos rfl]
theorem op_goes (hN : 1000 ≤ N) : Op_goes N Sim := by
  rintro a b qC qM ⟨d, hw, hC, hM, hH⟩
  have hT := hw.1
  have h2 := two_pow_T hw
  unfold f8_goes f9_goes
  rcases scase a (n := 2 ^ dT d) (by omega) with ⟨s, hs1, hs, rfl⟩ | ha
  · obtain ⟨qC', c1, c2, c3⟩ := c_takeAway hw hC hN hs
    obtain ⟨qM', m1, m2, m3⟩ := m_takeAway hw hM hN hs
    have hK := KK_le d s
    rw [c_isSet hw hC hs1 hs, bd_s, if_neg (show ¬ (1 : Int32) = 0 by decide), c1, bd2_s, m_isSet hw hM hs1 hs, bd_s, if_neg (show ¬ (1 : Int32) = 0 by decide), m1, bd_s, m3.1]
    unfold f1_goneAt
    rw [c3.1]
    rcases tcase b (n := KK d s) (by omega) with ⟨k, hk, rfl⟩ | hb
    · refine ⟨nI (tk d s k), qC', qM', ?_, ?_, d, hw, hC.same c2, hM.same m2, hH.same m2⟩
      · rw [if_neg (show ¬ nI k < 0 from nI_nlt (b := 0) (Nat.zero_le _) (by omega)), if_neg (nI_ge hk (by omega)), ck_nI (by omega) (by decide), ix_nI (by omega), c3.2.1 k hk, bd_s]
      · rw [m_in_t (by rw [nI_toInt (by omega), lit0L]; omega) (by rw [nI_toInt (by omega), pred_toInt (by omega)]; omega), bd_s, if_neg (show ¬ (1 : Int32) = 0 by decide), ck_nI (by omega) (by decide), ix_nI (by omega), m3.2.1 k hk]
    · refine ⟨-1, qC', qM', ?_, ?_, d, hw, hC.same c2, hM.same m2, hH.same m2⟩
      · rcases hb with hb | ⟨hb1, hb2⟩
        · rw [if_pos hb, bd_s]
        · rw [if_neg hb1, if_pos hb2, bd_s]
      · have := tc_int (by omega) hb
        rw [m_in_f (by rw [lit0L, pred_toInt (by omega)]; omega), bd_s, if_pos rfl]
  · refine ⟨-102, _, _, ?_, ?_, d, hw, hC, hM, hH⟩
    · rw [c_isSet_f hw hC ha, bd_s, if_pos rfl]
    · rw [m_isSet_f hw hM ha, bd_s, if_pos rfl]
/-- a set and one of its tables, or the refusal that both sides give -/
theorem member_both {qC qM : SS} (hw : WF d) (hC : RC d qC) (hM : RMk d qM) (a b : Int32) : (∃ s t, 1 ≤ s ∧ s < 2 ^ dT d ∧ t < dT d ∧ s.testBit t = true ∧ a = nI s ∧ b = nI t ∧ f8_refusalOfMember qC a b = some 0 ∧ f9_isSet qM a = some 1 ∧ f9_isIn qM a b = some 1) ∨ (f8_refusalOfMember qC a b = some (-102) ∧ f9_isSet qM a = some 0) ∨ (f8_refusalOfMember qC a b = some (-101) ∧ f9_isSet qM a = some 1 ∧ f9_isIn qM a b = some 0) := by
  have hT := hw.1
  have h2 := two_pow_T hw
  unfold f8_refusalOfMember f8_refusalOfMember_b38 f8_refusalOfMember_b39 f9_isIn
  rcases scase a (n := 2 ^ dT d) (by omega) with ⟨s, hs1, hs, rfl⟩ | ha
  · have hs6 := s_lt hw hs
    rw [c_isSet hw hC hs1 hs, m_isSet hw hM hs1 hs, bd_s, if_neg (show ¬ (1 : Int32) = 0 by decide)]
    rcases tcase b (n := dT d) (by omega) with ⟨t, ht, rfl⟩ | hb
    · have e1 := bit_nI (a := s) (b := t) (by omega) (by omega)
      rw [c_holds hw hC ht, m_isTable hw hM ht, bd_s, if_neg (show ¬ (1 : Int32) = 0 by decide), bd_s, if_neg (show ¬ (1 : Int32) = 0 by decide), e1]
      cases hbit : s.testBit t
      · right; right
        exact ⟨by rw [Bool.toNat_false, if_neg (show ¬ nI 0 = 1 by decide), if_pos rfl], rfl, by rw [Bool.toNat_false, if_neg (show ¬ nI 0 = 1 by decide)]; exact if_neg (by decide)⟩
      · left
        exact ⟨s, t, hs1, hs, ht, hbit, rfl, rfl, by rw [Bool.toNat_true, if_pos (show nI 1 = 1 from rfl)], rfl, by rw [Bool.toNat_true, if_pos (show nI 1 = 1 from rfl)]; exact if_neg (by decide)⟩
    · right; right
      exact ⟨by rw [c_holds_f hC hb, bd_s, if_pos rfl, if_pos rfl], rfl, by rw [m_isTable_f hw hM hb, bd_s, if_pos rfl]⟩
  · right; left
    exact ⟨by rw [c_isSet_f hw hC ha, bd_s, if_pos rfl], m_isSet_f hw hM ha⟩
theorem op_on (hN : 1000 ≤ N) : Op_on N Sim := by
  rintro a b qC qM ⟨d, hw, hC, hM, hH⟩
  have hT := hw.1
  unfold f8_on f9_on
  rcases member_both hw hC hM a b with ⟨s, t, hs1, hs, ht, hbit, rfl, rfl, r1, r2, r3⟩ | ⟨r1, r2⟩ | ⟨r1, r2, r3⟩
  · obtain ⟨qC', c1, c2, c3⟩ := c_takeAway hw hC hN hs
    obtain ⟨qM', m1, m2, m3⟩ := m_takeAway hw hM hN hs
    refine ⟨hf d s (KK d s) t, qC', qM', ?_, ?_, d, hw, hC.same c2, hM.same m2, hH.same m2⟩
    · unfold f1_hookOf
      rw [r1, bd_s, if_pos rfl, c1, bd2_s, if_neg (show ¬ nI t < 0 from nI_nlt (b := 0) (Nat.zero_le _) (by omega)), if_neg (show ¬ (6 : Int32) ≤ nI t from nI_ge (b := 6) (by omega) (by decide)), ck_nI (by omega) (by decide), ix_nI (by omega), c3.2.2 t (by omega), bd_s]
    · rw [r2, bd_s, if_neg (show ¬ (1 : Int32) = 0 by decide), r3, bd_s, if_neg (show ¬ (1 : Int32) = 0 by decide), m1, bd_s, ck_nI (by omega) (by decide), ix_nI (by omega), m3.2.2 t (by omega)]
  · refine ⟨-102, _, _, ?_, ?_, d, hw, hC, hM, hH⟩
    · rw [r1, bd_s, if_neg (by decide)]
    · rw [r2, bd_s, if_pos rfl]
  · refine ⟨-101, _, _, ?_, ?_, d, hw, hC, hM, hH⟩
    · rw [r1, bd_s, if_neg (by decide)]
    · rw [r2, bd_s, if_neg (show ¬ (1 : Int32) = 0 by decide), r3, bd_s, if_pos rfl]
end HangOps
