/-! best -/
section Best
variable {N : Nat} {d : DB}
theorem lcase (x : Int32) : (∃ e, e ≤ 8 ∧ x = nI e - 1 ∧ f9_in x.toInt64 (-1) 7 = some 1 ∧ (x = -1 ∨ f8_isLetter x = some 1)) ∨ (f9_in x.toInt64 (-1) 7 = some 0 ∧ ¬ x = -1 ∧ f8_isLetter x = some 0) := by
  have em : (-1 : Int64).toInt = -1 := by decide
  have e7 : (7 : Int64).toInt = 7 := by decide
  by_cases h1 : x = -1
  · left
    refine ⟨0, by decide, by rw [h1]; decide, ?_, Or.inl h1⟩
    apply m_in_t
    · rw [em, h1]; decide
    · rw [e7, h1]; decide
  · rcases rcase x 0 (hi := 7) (by decide) with ⟨l, -, l7, rfl⟩ | hx
    · left
      refine ⟨l + 1, by omega, (nI_p l).symm, ?_, Or.inr (c_isLetter (by omega))⟩
      apply m_in_t
      · rw [em, nI_toInt (by omega)]; omega
      · rw [e7, nI_toInt (by omega)]; omega
    · right
      refine ⟨?_, h1, ?_⟩
      · apply m_in_f
        rw [em, e7]
        rcases hx with hx | hx
        · left
          have hne : x.toInt ≠ -1 := fun z => h1 (Int32.toInt_inj.mp (by rw [z]; decide))
          omega
        · right; omega
      · apply c_isLetter_f
        rw [lt0_toInt]
        rcases hx with hx | hx
        · left; omega
        · right
          refine ⟨by omega, ?_⟩
          rw [geI (by decide)]
          omega
/-- both know what may be asked -/
theorem ask_both (hw : WF d) {qC qM : SS} (hC : RC d qC) (hM : RMk d qM) (a1 a2 a3 a4 : Int32) : (∃ s sp b e, 1 ≤ s ∧ s < 2 ^ dT d ∧ sp ≤ 1 ∧ b ≤ 1 ∧ e ≤ 8 ∧ a1 = nI s ∧ a2 = nI sp ∧ a3 = nI b ∧ a4 = nI e - 1 ∧ f8_refusalOfChoice qC a1 a2 a3 a4 = some (if dD d < 60 then 0 else -103) ∧ f9_isAsked qM a1 a2 a3 a4 = some 1) ∨ (f8_refusalOfChoice qC a1 a2 a3 a4 = some (-102) ∧ f9_isAsked qM a1 a2 a3 a4 = some 0) := by
  have h2 := two_pow_T hw
  have hD := hw.2.2.2.2.2.2.2.2.2.2
  /- the shape -/
  obtain ⟨v, hv1, hv2, hv3⟩ : ∃ v : Bool, (v = true → ∃ sp, sp ≤ 1 ∧ a2 = nI sp) ∧ f8_refusalOfChoice qC a1 a2 a3 a4 = f8_refusalOfChoice_b14 qC a1 a3 a4 (nI v.toNat) ∧ f9_in a2.toInt64 0 1 = some (nI v.toNat) := by
    unfold f8_refusalOfChoice f8_refusalOfChoice_b9
    rcases rcase a2 0 (hi := 1) (by decide) with ⟨k, -, k2, rfl⟩ | hb
    · refine ⟨true, fun _ => ⟨k, k2, rfl⟩, ?_, m_in_ok (lo := 0) (hi := 1) (Nat.zero_le _) k2 (by decide)⟩
      rcases (show k = 0 ∨ k = 1 by omega) with rfl | rfl
      · rw [if_pos (show nI 0 = 0 from rfl)]
        rfl
      · rw [if_neg (show ¬ nI 1 = 0 by decide), if_pos (show nI 1 = 1 from rfl)]
        rfl
    · refine ⟨false, fun z => absurd z Bool.false_ne_true, ?_, m_in_no (lo := 0) (hi := 1) (by decide) (by decide) hb⟩
      rw [if_neg, if_neg]
      · rfl
      · intro z
        rw [z] at hb
        exact absurd hb (by decide)
      · intro z
        rw [z] at hb
        exact absurd hb (by decide)
  /- the letter -/
  obtain ⟨y, hy1, hy2, hy3⟩ : ∃ y : Bool, (y = true → ∃ e, e ≤ 8 ∧ a4 = nI e - 1) ∧ f8_refusalOfChoice_b14 qC a1 a3 a4 (nI v.toNat) = f8_refusalOfChoice_b35 qC a1 a3 (nI v.toNat) (nI y.toNat) ∧ f9_in a4.toInt64 (-1) 7 = some (nI y.toNat) := by
    unfold f8_refusalOfChoice_b14 f8_refusalOfChoice_b30
    rcases lcase a4 with ⟨e, e1, e2, e3, e4⟩ | ⟨e1, e2, e3⟩
    · refine ⟨true, fun _ => ⟨e, e1, e2⟩, ?_, e3⟩
      by_cases z : a4 = -1
      · rw [if_pos z]
        rfl
      · rw [if_neg z, e4.resolve_left z, bd_s, if_neg (show ¬ (1 : Int32) = 0 by decide)]
        rfl
    · refine ⟨false, fun z => absurd z Bool.false_ne_true, ?_, e1⟩
      rw [if_neg e2, e3, bd_s, if_pos rfl]
      rfl
  rw [hv2, hy2]
  unfold f8_refusalOfChoice_b35 f9_isAsked
  rw [hv3, bd_s, hy3, bd_s]
  rcases scase a1 (n := 2 ^ dT d) (by omega) with ⟨s, hs1, hs, rfl⟩ | ha
  · rw [c_isSet hw hC hs1 hs, bd_s, if_neg (show ¬ (1 : Int32) = 0 by decide), m_isSet hw hM hs1 hs, bd_s, if_neg (show ¬ (1 : Int32) = 0 by decide)]
    cases v with
    | false => exact Or.inr ⟨by rw [if_pos (show nI (false).toNat = 0 from rfl)], by rw [if_pos (show nI (false).toNat = 0 from rfl)]⟩
    | true =>
      rw [if_neg (show ¬ nI (true).toNat = 0 by decide), if_neg (show ¬ nI (true).toNat = 0 by decide)]
      rcases by_case a3 with ⟨b, hb, rfl, e1, e2⟩ | ⟨e1, e2⟩
      · rw [e1, bd_s, if_neg (show ¬ (1 : Int32) = 0 by decide), e2, bd_s, if_neg (show ¬ (1 : Int32) = 0 by decide)]
        cases y with
        | false => exact Or.inr ⟨by rw [if_pos (show nI (false).toNat = 0 from rfl)], by rw [if_pos (show nI (false).toNat = 0 from rfl)]⟩
        | true =>
          obtain ⟨sp, sp1, sp2⟩ := hv1 rfl
          obtain ⟨e, e1, e2⟩ := hy1 rfl
          refine Or.inl ⟨s, sp, b, e, hs1, hs, sp1, hb, e1, rfl, sp2, rfl, e2, ?_, ?_⟩
          · rw [if_neg (show ¬ nI (true).toNat = 0 by decide), hC.1]
            by_cases z : dD d < 60
            · rw [if_pos (show nI (dD d) < 60 from nI_lt (b := 60) z (by decide)), if_pos z]
            · rw [if_neg (show ¬ nI (dD d) < 60 from nI_nlt (b := 60) (by omega) (by omega)), if_neg z]
          · rw [if_neg (show ¬ nI (true).toNat = 0 by decide)]
      · exact Or.inr ⟨by rw [e1, bd_s, if_pos rfl], by rw [e2, bd_s, if_pos rfl]⟩
  · exact Or.inr ⟨by rw [c_isSet_f hw hC ha, bd_s, if_pos rfl], by rw [m_isSet_f hw hM ha, bd_s, if_pos rfl]⟩
theorem c_want (hw : WF d) {q : SS} {b s e : Nat} {R : Nat → Nat} (hs1 : 1 ≤ s) (hs : s < 2 ^ dT d) (he : e ≤ 8) (hR : RG R s) (h : RowC q s R) (e25 : ar q 25 s = nI (srb d b s)) : f0_costFor q (nI s) (nI e - 1) = some (nI ((if e = 0 then R 8 else wl d b R s (e - 1)) / 18446744073709551616)) ∧ f0_keyFor q (nI s) (nI e - 1) = some (lN ((if e = 0 then R 8 else wl d b R s (e - 1)) % 18446744073709551616)) := by
  by_cases c : e = 0
  · rw [if_pos c, c, show nI 0 - 1 = -1 by decide]
    exact c_none hw hs1 hs hR h
  · obtain ⟨l, hl⟩ : ∃ l, e = l + 1 := ⟨e - 1, by omega⟩
    rw [if_neg c, hl, nI_p, Nat.add_sub_cancel]
    exact c_for hw hs1 hs (by omega) hR h e25
theorem andn_self (s : Nat) : andn s s = 0 := by
  apply Nat.eq_of_testBit_eq
  intro i
  rw [andn_bit, Nat.zero_testBit]
  cases s.testBit i <;> rfl
/-- both find the same best plan -/
theorem both_best (hw : WF d) {qC qM : SS} (hC : RC d qC) (hM : RMk d qM) (hH : CH d qM) (hN : 2 ^ 40 ≤ N) {s sp b e : Nat} (hs1 : 1 ≤ s) (hs : s < 2 ^ dT d) (hsp : sp ≤ 1) (hb : b ≤ 1) (he : e ≤ 8) : ∃ (qC' qM0 qM' : SS) (W o : Nat) (l : List Nat), f0_choose N (nI s) (nI sp) (nI b) qC = some qC' ∧ frH qC qC' ∧ f0_costFor qC' (nI s) (nI e - 1) = some (nI (W / 18446744073709551616)) ∧ f0_keyFor qC' (nI s) (nI e - 1) = some (lN (W % 18446744073709551616)) ∧ f9_findBest N (nI s) (nI sp) (nI b) qM = some qM0 ∧ f9_bestOrder N (nI s) (nI e - 1) qM0 = some (nI o, qM') ∧ RMk d qM' ∧ CH d qM' ∧ LPg d b qM' ∧ ar qM' 21 = ar qM 21 ∧ fi qM' 14 = nI (W / 18446744073709551616) ∧ o < 9 ∧ isPl (dT d) s l ∧ keyF 0 l = W % 18446744073709551616 ∧ (∀ k, k < l.length → ar qM' 19 (21 * (9 * s + o) + k) = nI (mj l k)) ∧ W % 18446744073709551616 < 9223372036854775808 ∧ ∃ M c, SpM d b sp s (s + 1) M ∧ rowsM d s (s + 1) M qM0 ∧ c ≤ CB s ∧ M s o = c * 18446744073709551616 + keyF 0 l := by
  have hT := hw.1
  have hs6 := s_lt hw hs
  have p6 := (pc6 hs6).1
  have hsr := srb_le (b := b) hw hs
  obtain ⟨qC', C, r1, f1, c1, c2⟩ := c_choose (N := N) hw hC (by omega) hb hsp hs1 hs
  obtain ⟨qM0, M, r2, f2, h2, l2, m1, m2⟩ := m_findBest (N := N) hw hM hH hN hb hsp hs1 hs
  have hM0 := f2.rm hM
  have ss := andn_self s
  have hEQ := dp_eq hw hs c1 m1 (s + 1) s (by omega) hs1 (by omega) ss
  have hRG := SpC_RG hw hs c1 (s + 1) s (by omega) hs1 (by omega) ss
  obtain ⟨k1, k2, k3⟩ := c2 s hs1 (by omega) ss
  obtain ⟨w1, w2⟩ := c_want (b := b) hw hs1 hs he hRG k1 k3
  have hrow := m2 s hs1 (by omega) ss
  obtain ⟨o0, o1, o2⟩ := hEQ.2.1
  obtain ⟨o, qM', r3, f3, x1, x2, x3, x4⟩ := m_bestOrder (N := N) (e := e) hw hM0 (by omega) hs1 hs he l2 hrow ⟨o0, o1, by rw [← o2]; exact hRG.2⟩
  have hwv := wv_eq hw hs he hRG hEQ x1 x2 x4
  rcases hrow o x1 with ⟨z, -⟩ | ⟨c, l, i1, i2, i3, i4, i5⟩
  · exact absurd z x2
  have hkey := i1.key_lt hT hs
  have h16 : 16 ^ (3 * pc s - 2) ≤ 18446744073709551616 := Nat.le_trans (Nat.pow_le_pow_right (by decide) (show 3 * pc s - 2 ≤ 16 by omega)) (by decide)
  refine ⟨qC', qM0, qM', _, o, l, r1, f1, w1, w2, r2, r3, hM0.same f3.same, h2.same f3.same, fun t t1 t2 => by rw [f3.2]; exact l2 t t1 t2, ?_, ?_, x1, i1, ?_, fun k hk => by rw [f3.2]; exact i5 k hk, ?_, M, c, m1, m2, i2, i3⟩
  · rw [f3.2, f2.2 21 (by decide) (by decide) (by decide) (by decide) (by decide)]
  · rw [x3, hwv]
  · rw [← hwv]
    unfold wv
    rw [i3]
    omega
  · have p1 := pc_pos hs1 hs6
    split
    · exact GV_lt p1 p6 (hRG.1 8 (by decide) hRG.2)
    · exact GV_lt p1 p6 (wl_GV (b := b) hw hs (by omega) hRG)
theorem op_best (hN : 2 ^ 40 ≤ N) : Op_best N Sim := by
  rintro a1 a2 a3 a4 qC qM ⟨d, hw, hC, hM, hH⟩
  have hD := hw.2.2.2.2.2.2.2.2.2.2
  unfold f8_best f9_best
  rcases ask_both hw hC hM a1 a2 a3 a4 with ⟨s, sp, b, e, hs1, hs, hsp, hb, he, rfl, rfl, rfl, rfl, e1, e2⟩ | ⟨e1, e2⟩
  · rw [e1, bd_s, e2, bd_s, if_neg (show ¬ (1 : Int32) = 0 by decide), hM.2.2.2.2.1]
    by_cases c : dD d < 60
    · obtain ⟨w0, w1, w2, w3, w4, w5, w6, w7, w8, w9, w10⟩ := hw
      obtain ⟨c0, c1, c2, c3, c4, c5, c6, c7, c8⟩ := hC
      obtain ⟨m0, m1, m2, m3, m4, m5, m6, m7, m8⟩ := hM
      have hw' : WF (setD d (dD d + 1)) := ⟨w0, w1, w2, w3, w4, w5, w6, w7, w8, w9, by show dD d + 1 ≤ 60; omega⟩
      have hC' : RC (setD d (dD d + 1)) (sf qC 0 (nI (dD d + 1))) := ⟨rfl, c1, c2, c3, c4, c5, c6, c7, c8⟩
      have hM' : RMk (setD d (dD d + 1)) (sf qM 12 (nI (dD d + 1))) := ⟨m0, m1, m2, m3, rfl, m5, m6, m7, m8⟩
      have hH' : CH (setD d (dD d + 1)) (sf qM 12 (nI (dD d + 1))) := hH
      obtain ⟨qC1, qM1, qM2, W, o, l, g1, g2, g3, g4, g5, g6, g7, g8, g9, g10, g11, -⟩ := both_best (N := N) (sp := sp) (b := b) (e := e) hw' hC' hM' hH' hN hs1 hs hsp hb he
      refine ⟨nI (W / 18446744073709551616), qC1, qM2, ?_, ?_, setD d (dD d + 1), hw', hC'.same g2.same, g7, g8⟩
      · rw [if_pos c, if_pos rfl, c0, nI_s, bn_e, g1, bd_s, g3, bd_s]
      · rw [if_neg (show ¬ nI (dD d) = 60 from fun z => by
          have := (nI_eq (b := 60) (by omega) (by decide)).mp z
          omega), nI_s, bn_e, g5, bd_s, g6, bd2_s, g11]
    · refine ⟨-103, qC, qM, ?_, ?_, d, hw, hC, hM, hH⟩
      · rw [if_neg c, if_neg (show ¬ (-103 : Int32) = 0 by decide)]
      · rw [if_pos (show nI (dD d) = 60 by rw [show dD d = 60 by omega]; rfl)]
  · refine ⟨-102, qC, qM, ?_, ?_, d, hw, hC, hM, hH⟩
    · rw [e1, bd_s, if_neg (show ¬ (-102 : Int32) = 0 by decide)]
    · rw [e2, bd_s, if_pos rfl]
end Best
