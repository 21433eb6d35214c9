/-! good -/
section Good
variable {N : Nat} {d : DB}
theorem read_both (hw : WF d) (hN : 1000 ≤ N) (hT0 : 1 ≤ dT d) : ∀ (n k fC fM : Nat) (st : List Nat) (u dn : Nat) (qC qM : SS), k + n = dG d → n < fC → n < fM → RC d qC → RMk d qM → PO (dT d) st u dn → PC st u dn qC → PM st u dn qM → ∃ r qC' qM', f6_readable_l27 N fC (nI (dT d)) (nI k) qC = some (r, qC') ∧ f9_goodOf_l22 N fM (nI k) qM = some (r, qM') ∧ frP qC qC' ∧ frG qM qM' := by
  have hT := hw.1
  have hG := hw.2.2.2.2.2.2.2.2.1
  have hg := hw.2.2.2.2.2.2.2.2.2.1
  intro n
  induction n with
  | zero =>
    intro k fC fM st u dn qC qM hk hfC hfM hC hM _ _ _
    obtain ⟨fC, rfl⟩ : ∃ m, fC = m + 1 := ⟨fC - 1, by omega⟩
    obtain ⟨fM, rfl⟩ : ∃ m, fM = m + 1 := ⟨fM - 1, by omega⟩
    refine ⟨nI (dG d), qC, qM, ?_, ?_, frP.rf, frG.rf⟩
    · show f6_readable_l27_B N (f6_readable_l27 N fC) _ _ _ = _
      unfold f6_readable_l27_B
      rw [hC.2.2.2.2.1, if_pos (nI_le (by omega) (by omega))]
    · show f9_goodOf_l22_B N (f9_goodOf_l22 N fM) _ _ = _
      unfold f9_goodOf_l22_B
      rw [hM.1, if_neg (show ¬ nI (dT d) ≤ 0 from nI_ge (a := 0) (by omega) (by omega)), hM.2.2.2.1, if_pos (nI_le (by omega) (by omega)), show k = dG d by omega]
  | succ n ih =>
    intro k fC fM st u dn qC qM hk hfC hfM hC hM hO hPC hPM
    obtain ⟨fC, rfl⟩ : ∃ m, fC = m + 1 := ⟨fC - 1, by omega⟩
    obtain ⟨fM, rfl⟩ : ∃ m, fM = m + 1 := ⟨fM - 1, by omega⟩
    have uC : f6_readable_l27 N (fC + 1) (nI (dT d)) (nI k) qC = bd2 (f6_takes (nI (dg d k)) (nI (dT d)) qC) fun r q => if r = 0 then some (nI k, q) else f6_readable_l27 N fC (nI (dT d)) (nI (k + 1)) q := by
      show f6_readable_l27_B N (f6_readable_l27 N fC) _ _ _ = _
      unfold f6_readable_l27_B
      rw [hC.2.2.2.2.1, if_neg (nI_ge (by omega) (by omega)), ck_nI (by omega) (by decide), ix_nI (by omega), hC.2.2.2.2.2.2.2.2 k (by omega), nI_s]
      rfl
    have uM : f9_goodOf_l22 N (fM + 1) (nI k) qM = bd2 (f9_go N (nI (dg d k)) qM) fun r q => if r = 0 then some (nI k, q) else f9_goodOf_l22 N fM (nI (k + 1)) q := by
      show f9_goodOf_l22_B N (f9_goodOf_l22 N fM) _ _ = _
      unfold f9_goodOf_l22_B
      rw [hM.1, if_neg (show ¬ nI (dT d) ≤ 0 from nI_ge (a := 0) (by omega) (by omega)), hM.2.2.2.1, if_neg (nI_ge (by omega) (by omega)), ck_nI (by omega) (by decide), ix_nI (by omega), hM.2.2.2.2.2.2.2.2 k (by omega), nI_s]
      rfl
    rw [uC, uM]
    have hstep := fun st' u' dn' => stepS_ok (st' := st') (u' := u') (dn' := dn') (x := dg d k) hT hO
    obtain ⟨qM1, f1, hm⟩ := m_go (N := N) hw hM hN hO hPM (hg k)
    rcases c_takes hT hO hPC (hg k) with ⟨s1, c1⟩ | ⟨st', u', dn', qC1, s1, c1, f2, c2⟩
    · rcases hm with ⟨s2, m1⟩ | ⟨a, b, c, s2, -⟩
      · exact ⟨nI k, qC, qM1, by rw [c1, bd2_s, if_pos rfl], by rw [m1, bd2_s, if_pos rfl], frP.rf, f1⟩
      · rw [s1] at s2; cases s2
    · rcases hm with ⟨s2, m1⟩ | ⟨a, b, c, s2, m1, m2⟩
      · rw [s1] at s2; cases s2
      · rw [s1] at s2
        have s2 := Option.some.inj s2
        have e1 : st' = a := congrArg Prod.fst s2
        have e2 : u' = b := congrArg (fun p => p.2.1) s2
        have e3 : dn' = c := congrArg (fun p => p.2.2) s2
        subst e1 e2 e3
        obtain ⟨r, qC', qM', k1, k2, k3, k4⟩ := ih (k + 1) fC fM st' u' dn' qC1 qM1 (by omega) (by omega) (by omega) (hC.same f2.same) (hM.same f1.same) (hstep _ _ _ s1) c2 m2
        exact ⟨r, qC', qM', by rw [c1, bd2_s, if_neg (show ¬ (1 : Int32) = 0 by decide)]; exact k1, by rw [m1, bd2_s, if_neg (show ¬ (1 : Int32) = 0 by decide)]; exact k2, f2.tr k3, f1.tr k4⟩
theorem op_good (hN : 1000 ≤ N) : Op_good N Sim := by
  rintro qC qM ⟨d, hw, hC, hM, hH⟩
  have hT := hw.1
  have hG := hw.2.2.2.2.2.2.2.2.1
  have hg := hw.2.2.2.2.2.2.2.2.2.1
  obtain ⟨qC0, hC0⟩ : ∃ x, x = sf (sf (sf (sf (sf qC 5 0) 6 1) 7 0) 8 0) 9 0 := ⟨_, rfl⟩
  obtain ⟨qM0, hM0⟩ : ∃ x, x = sf (sf (sf (sf qM 6 0) 7 0) 8 1) 9 0 := ⟨_, rfl⟩
  have fC : frP qC qC0 := by rw [hC0]; exact ((((frP.rf.sf (by omega) _).sf (by omega) _).sf (by omega) _).sf (by omega) _).sf (by omega) _
  have fM : frG qM qM0 := by rw [hM0]; exact (((frG.rf.sf (by omega) _).sf (by omega) _).sf (by omega) _).sf (by omega) _
  have pC : PC [] 0 0 qC0 := by rw [hC0]; exact ⟨rfl, rfl, rfl, rfl, rfl⟩
  have pM : PM [] 0 0 qM0 := by rw [hM0]; exact ⟨rfl, rfl, rfl, rfl, fun k hk => absurd hk (Nat.not_lt_zero _)⟩
  have hC1 := hC.same fC.same
  have hM1 := hM.same fM.same
  have uC : f8_good N qC = bd2 (f6_readable_l27 N N (nI (dT d)) (nI 0) qC0) fun r q => some (r, q) := by
    unfold f8_good f7_tablesMade f6_readable
    rw [hC.2.1, bd_s, bn_e, bn_e, bn_e, bn_e, bn_e, hC0]
    rfl
  have uM : f9_good N qM = bd2 (f9_goodOf_l22 N N (nI 0) qM0) fun r q => some (r, q) := by
    unfold f9_good f9_goodOf
    rw [bn_e, bn_e, bn_e, bn_e, hM0]
    rfl
  rw [uC, uM]
  by_cases hT0 : dT d = 0
  · obtain ⟨m, hm⟩ : ∃ m, N = m + 1 := ⟨N - 1, by omega⟩
    refine ⟨nI 0, qC0, qM0, ?_, ?_, d, hw, hC1, hM1, hH.same fM.same⟩
    · have : f6_readable_l27 N N (nI (dT d)) (nI 0) qC0 = some (nI 0, qC0) := by
        conv => lhs; rw [hm]
        show f6_readable_l27_B (m + 1) (f6_readable_l27 (m + 1) m) _ _ _ = _
        unfold f6_readable_l27_B
        rw [hC1.2.2.2.2.1]
        by_cases hG0 : dG d = 0
        · rw [hG0, if_pos (nI_le (Nat.le_refl _) (by decide))]
        · have htk : f6_takes (nI (dg d 0)) (nI (dT d)) qC0 = some (0, qC0) := by
            unfold f6_takes f6_takesOpen f6_takesTable
            rw [pC.2.2.2.2, if_pos (show nI (endd [] 0) = 0 from rfl), pC.1, pC.2.1, hT0, bitCount_ok (by decide), bd_s, if_neg (show ¬ nI (pc 0) + nI (dueS [] 0) + 1 ≤ nI 0 by decide)]
            by_cases h40 : nI (dg d 0) = 40
            · rw [if_pos h40, bd2_s]
              exact cz_0
            · rw [if_neg h40]
              by_cases h48 : nI (dg d 0) - 48 < 0
              · rw [if_pos h48, bd2_s]
                exact cz_0
              · rw [if_neg h48, if_pos (show nI 0 ≤ nI (dg d 0) - 48 by rw [show (nI 0 : Int32) = 0 from rfl]; exact Int32.not_lt.mp h48), bd2_s]
                exact cz_0
          rw [if_neg (nI_ge (by omega) (by omega)), ck_nI (by decide) (by decide), ix_nI (by decide), hC1.2.2.2.2.2.2.2.2 0 (by omega), htk, bd2_s, if_pos rfl]
      rw [this, bd2_s]
    · have : f9_goodOf_l22 N N (nI 0) qM0 = some (nI 0, qM0) := by
        conv => lhs; rw [hm]
        show f9_goodOf_l22_B (m + 1) (f9_goodOf_l22 (m + 1) m) _ _ = _
        unfold f9_goodOf_l22_B
        rw [hM1.1, hT0, if_pos (show nI 0 ≤ 0 by decide)]
      rw [this, bd2_s]
  · obtain ⟨r, qC', qM', k1, k2, k3, k4⟩ := read_both (N := N) hw hN (by omega) (dG d) 0 N N [] 0 0 qC0 qM0 (by omega) (by omega) (by omega) hC1 hM1 ⟨by decide, fun z => absurd rfl z, fun j hj => absurd hj (Nat.not_lt_zero _), Nat.two_pow_pos _, Nat.zero_le _, show pc 0 + 1 ≤ dT d by rw [show pc 0 = 0 by decide]; omega⟩ pC pM
    exact ⟨r, qC', qM', by rw [k1, bd2_s], by rw [k2, bd2_s], d, hw, hC1.same k3.same, hM1.same k4.same, (hH.same fM.same).same k4.same⟩
end Good
