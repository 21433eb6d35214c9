/-! good -/
section Good
variable {N : Nat} {d : DB}
theorem read_both (hw : WF d) (hN : 1000 ≤ N) (hT0 : 1 ≤ dT d) : ∀ (n k fC fM : Nat) (st : List Nat) (u dn : Nat) (qC qM : SS), k + n = dG d → n < fC → n < fM → RC d qC → RMk d qM → PO (dT d) st u dn → PC st u dn qC → PM st u dn qM → ∃ r qC' qM', f6_readable_l27 N fC (nI (dT d)) (nI k) qC = some (r, qC') ∧ f9_goodOf_l22 N fM (nI k) qM = some (r, qM') ∧ frP qC qC' ∧ frG qM qM' := by
  have hT := hw.1
  have hG := hw.2.2.2.2.2.2.2.2.1
  have hg := hw.2.2.2.2.2.2.2.2.2.1
  intro n
  induction n with
  | zero =>
    intro k fC fM st u dn qC qM hk hfC hfM hC hM _ _ _
    obtain ⟨fC, rfl⟩ : ∃ m, fC = m + 1 := ⟨fC - 1, by omega⟩
    obtain ⟨fM, rfl⟩ : ∃ m, fM = m + 1 := ⟨fM - 1, by omega⟩
    refine ⟨nI (dG d), qC, qM, ?_, ?_, frP.rf, frG.rf⟩
    · show f6_readable_l27_B N (f6_readable_l27 N fC) _ _ _ = _
      unfold f6_readable_l27_B
      rw [hC.2.2.2.2.1, if_pos (nI_le (by omega) (by omega))]
    · show f9_goodOf_l22_B N (f9_goodOf_l22 N fM) _ _ = _
      unfold f9_goodOf_l22_B
      rw [hM.1, if_neg (show ¬ nI (dT d) ≤ 0 from nI_ge (a := 0) (by omega) (by omega)), hM.2.2.2.1, if_pos (nI_le (by omega) (by omega)), show k = dG d by omega]
  | succ n ih =>
    intro k fC fM st u dn qC qM hk hfC hfM hC hM hO hPC hPM
    obtain ⟨fC, rfl⟩ : ∃ m, fC = m + 1 := ⟨fC - 1, by omega⟩
    obtain ⟨fM, rfl⟩ : ∃ m, fM = m + 1 := ⟨fM - 1, by omega⟩
    have uC : f6_readable_l27 N (fC + 1) (nI (dT d)) (nI k) qC = bd2 (f6_takes (nI (dg d k)) (nI (dT d)) qC) fun r q => if r = 0 then some (nI k, q) else f6_readable_l27 N fC (nI (dT d)) (nI (k + 1)) q := by
      show f6_readable_l27_B N (f6_readable_l27 N fC) _ _ _ = _
      unfold f6_readable_l27_B
      rw [hC.2.2.2.2.1, if_neg (nI_ge (by omega) (by omega)), ck_nI (by omega) (by decide), ix_nI (by omega), hC.2.2.2.2.2.2.2.2 k (by omega), nI_s]
      rfl
    have uM : f9_goodOf_l22 N (fM + 1) (nI k) qM = bd2 (f9_go N (nI (dg d k)) qM) fun r q => if r = 0 then some (nI k, q) else f9_goodOf_l22 N fM (nI (k + 1)) q := by
      show f9_goodOf_l22_B N (f9_goodOf_l22 N fM) _ _ = _
      unfold f9_goodOf_l22_B
      rw [hM.1, if_neg (show ¬ nI (dT d) ≤ 0 from nI_ge (a := 0) (by omega) (by omega)), hM.2.2.2.1, if_neg (nI_ge (by omega) (by omega)), ck_nI (by omega) (by decide), ix_nI (by omega), hM.2.2.2.2.2.2.2.2 k (by omega), nI_s]
      rfl
    rw [uC, uM]
    have hstep := fun st' u' dn' => stepS_ok (st' := st') (u' := u') (dn' := dn') (x := dg d k) hT hO
    obtain ⟨qM1, f1, hm⟩ := m_go (N := N) hw hM hN hO hPM (hg k)
    rcases c_takes hT hO hPC (hg k) with ⟨s1, c1⟩ | ⟨st', u', dn', qC1, s1, c1, f2, c2⟩
    · rcases hm with ⟨s2, m1⟩ | ⟨a, b, c, s2, -⟩
      · exact ⟨nI k, qC, qM1, by rw [c1, bd2_s, if_pos rfl], by rw [m1, bd2_s, if_pos rfl], frP.rf, f1⟩
      · rw [s1] at s2; cases s2
    · rcases hm with ⟨s2, m1⟩ | ⟨a, b, c, s2, m1, m2⟩
      · rw [s1] at s2; cases s2
      · rw [s1] at s2
        have s2 := Option.some.inj s2
        have e1 : st' = a := congrArg Prod.fst s2
        have e2 : u' = b := congrArg (fun p => p.2.1) s2
        have e3 : dn' = c := congrArg (fun p => p.2.2) s2
        subst e1 e2 e3
        obtain ⟨r, qC', qM', k1, k2, k3, k4⟩ := ih (k + 1) fC fM st' u' dn' qC1 qM1 (by omega) (by omega) (by omega) (hC.same f2.same) (hM.same f1.same) (hstep _ _ _ s1) c2 m2
        exact ⟨r, qC', qM', by rw [c1, bd2_s, if_neg (show ¬ (1 : Int32) = 0 by decide)]; exact k1, by rw [m1, bd2_s, if_neg (show ¬ (1 : Int32) = 0 by decide)]; exact k2, f2.tr k3, f1.tr k4⟩
end Good
