/-! plan -/
section Plan
variable {N : Nat} {d : DB} {q : SS}
theorem read_all (hw : WF d) (hN : 1000 ≤ N) (hT0 : 1 ≤ dT d) : ∀ (l : List Nat) (k fC fM : Nat) (st : List Nat) (u dn : Nat) (qC qM : SS), k + l.length = dG d → (∀ i, i < l.length → dg d (k + i) = mj l i) → l.length < fC → l.length < fM → RC d qC → RMk d qM → PO (dT d) st u dn → PC st u dn qC → PM st u dn qM → ∃ (qC' qM' : SS) (r : Nat), f6_readable_l27 N fC (nI (dT d)) (nI k) qC = some (nI r, qC') ∧ f9_goodOf_l22 N fM (nI k) qM = some (nI r, qM') ∧ frP qC qC' ∧ frG qM qM' ∧ ((runL (dT d) l (st, u, dn) = none ∧ r < dG d) ∨ ∃ st' u' dn', runL (dT d) l (st, u, dn) = some (st', u', dn') ∧ r = dG d ∧ PO (dT d) st' u' dn' ∧ PC st' u' dn' qC' ∧ PM st' u' dn' qM') := by
  have hT := hw.1
  have hG := hw.2.2.2.2.2.2.2.2.1
  have hg := hw.2.2.2.2.2.2.2.2.2.1
  intro l
  induction l with
  | nil =>
    intro k fC fM st u dn qC qM hk _ hfC hfM hC hM hO hPC hPM
    obtain ⟨fC, rfl⟩ : ∃ m, fC = m + 1 := ⟨fC - 1, by omega⟩
    obtain ⟨fM, rfl⟩ : ∃ m, fM = m + 1 := ⟨fM - 1, by omega⟩
    have hk : k = dG d := hk
    refine ⟨qC, qM, dG d, ?_, ?_, frP.rf, frG.rf, Or.inr ⟨st, u, dn, rfl, rfl, hO, hPC, hPM⟩⟩
    · show f6_readable_l27_B N (f6_readable_l27 N fC) _ _ _ = _
      unfold f6_readable_l27_B
      rw [hC.2.2.2.2.1, if_pos (nI_le (by omega) (by omega))]
    · show f9_goodOf_l22_B N (f9_goodOf_l22 N fM) _ _ = _
      unfold f9_goodOf_l22_B
      rw [hM.1, if_neg (show ¬ nI (dT d) ≤ 0 from nI_ge (a := 0) (by omega) (by omega)), hM.2.2.2.1, if_pos (nI_le (by omega) (by omega)), hk]
  | cons x l ih =>
    intro k fC fM st u dn qC qM hk hl hfC hfM hC hM hO hPC hPM
    rw [List.length_cons] at hk hfC hfM hl
    obtain ⟨fC, rfl⟩ : ∃ m, fC = m + 1 := ⟨fC - 1, by omega⟩
    obtain ⟨fM, rfl⟩ : ∃ m, fM = m + 1 := ⟨fM - 1, by omega⟩
    have hx : dg d k = x := hl 0 (by omega)
    have uC : f6_readable_l27 N (fC + 1) (nI (dT d)) (nI k) qC = bd2 (f6_takes (nI x) (nI (dT d)) qC) fun r q => if r = 0 then some (nI k, q) else f6_readable_l27 N fC (nI (dT d)) (nI (k + 1)) q := by
      show f6_readable_l27_B N (f6_readable_l27 N fC) _ _ _ = _
      unfold f6_readable_l27_B
      rw [hC.2.2.2.2.1, if_neg (nI_ge (by omega) (by omega)), ck_nI (by omega) (by decide), ix_nI (by omega), hC.2.2.2.2.2.2.2.2 k (by omega), nI_s, hx]
      rfl
    have uM : f9_goodOf_l22 N (fM + 1) (nI k) qM = bd2 (f9_go N (nI x) qM) fun r q => if r = 0 then some (nI k, q) else f9_goodOf_l22 N fM (nI (k + 1)) q := by
      show f9_goodOf_l22_B N (f9_goodOf_l22 N fM) _ _ = _
      unfold f9_goodOf_l22_B
      rw [hM.1, if_neg (show ¬ nI (dT d) ≤ 0 from nI_ge (a := 0) (by omega) (by omega)), hM.2.2.2.1, if_neg (nI_ge (by omega) (by omega)), ck_nI (by omega) (by decide), ix_nI (by omega), hM.2.2.2.2.2.2.2.2 k (by omega), nI_s, hx]
      rfl
    rw [uC, uM]
    have hx6 : x ≤ 126 := by rw [← hx]; exact hg k
    have hstep := fun st' u' dn' => stepS_ok (st' := st') (u' := u') (dn' := dn') (x := x) hT hO
    have hrun : ∀ p', stepS (dT d) st u dn x = p' → runL (dT d) (x :: l) (st, u, dn) = match p' with
      | none => none
      | some p' => runL (dT d) l p' := fun p' e => by rw [← e]; rfl
    obtain ⟨qM1, f1, hm⟩ := m_go (N := N) hw hM hN hO hPM hx6
    rcases c_takes hT hO hPC hx6 with ⟨s1, c1⟩ | ⟨st', u', dn', qC1, s1, c1, f2, c2⟩
    · rcases hm with ⟨s2, m1⟩ | ⟨a, b, c, s2, -⟩
      · exact ⟨qC, qM1, k, by rw [c1, bd2_s, if_pos rfl], by rw [m1, bd2_s, if_pos rfl], frP.rf, f1, Or.inl ⟨hrun _ s1, by omega⟩⟩
      · rw [s1] at s2; cases s2
    · rcases hm with ⟨s2, m1⟩ | ⟨a, b, c, s2, m1, m2⟩
      · rw [s1] at s2; cases s2
      · rw [s1] at s2
        have s2 := Option.some.inj s2
        have e1 : st' = a := congrArg Prod.fst s2
        have e2 : u' = b := congrArg (fun p => p.2.1) s2
        have e3 : dn' = c := congrArg (fun p => p.2.2) s2
        subst e1 e2 e3
        obtain ⟨qC', qM', r, k1, k2, k3, k4, k5⟩ := ih (k + 1) fC fM st' u' dn' qC1 qM1 (by omega) (fun i hi => by rw [show k + 1 + i = k + (i + 1) by omega]; exact hl (i + 1) (by omega)) (by omega) (by omega) (hC.same f2.same) (hM.same f1.same) (hstep _ _ _ s1) c2 m2
        refine ⟨qC', qM', r, by rw [c1, bd2_s, if_neg (show ¬ (1 : Int32) = 0 by decide)]; exact k1, by rw [m1, bd2_s, if_neg (show ¬ (1 : Int32) = 0 by decide)]; exact k2, f2.tr k3, f1.tr k4, ?_⟩
        rw [hrun _ s1]
        exact k5
/-- the page as a list -/
def pgL (d : DB) : List Nat := (List.range (dG d)).map (dg d)
theorem pgL_len (d : DB) : (pgL d).length = dG d := by unfold pgL; rw [List.length_map, List.length_range]
theorem pgL_at (d : DB) {i : Nat} (h : i < dG d) : mj (pgL d) i = dg d i := by
  unfold mj pgL
  rw [List.getD_eq_getElem?_getD, List.getElem?_map, List.getElem?_range h]
  rfl
theorem PO_0 (hT0 : 1 ≤ dT d) : PO (dT d) [] 0 0 := ⟨by decide, fun z => absurd rfl z, fun j hj => absurd hj (Nat.not_lt_zero _), Nat.two_pow_pos _, Nat.zero_le _, show pc 0 + 1 ≤ dT d by rw [show pc 0 = 0 by decide]; omega⟩
/-- both know whether the page is a plan -/
theorem plan_is (hw : WF d) {qC qM : SS} (hN : 1000 ≤ N) (hC : RC d qC) (hM : RMk d qM) : ∃ (qC' qM' : SS) (r : Nat), frP qC qC' ∧ frG qM qM' ∧ r ≤ dG d ∧ f9_goodOf N qM = some (nI r, qM') ∧ ((∃ u', runL (dT d) (pgL d) ([], 0, 0) = some ([], u', 1) ∧ 1 ≤ dT d ∧ r = dG d ∧ fi qM' 9 = 1 ∧ f6_isPlan N (nI (dT d)) qC = some (1, qC')) ∨ ((r < dG d ∨ fi qM' 9 = 0) ∧ f6_isPlan N (nI (dT d)) qC = some (0, qC'))) := by
  have hT := hw.1
  have hG := hw.2.2.2.2.2.2.2.2.1
  obtain ⟨qC0, hC0⟩ : ∃ x, x = sf (sf (sf (sf (sf qC 5 0) 6 1) 7 0) 8 0) 9 0 := ⟨_, rfl⟩
  obtain ⟨qM0, hM0⟩ : ∃ x, x = sf (sf (sf (sf qM 6 0) 7 0) 8 1) 9 0 := ⟨_, rfl⟩
  have fC : frP qC qC0 := by rw [hC0]; exact ((((frP.rf.sf (by omega) _).sf (by omega) _).sf (by omega) _).sf (by omega) _).sf (by omega) _
  have fM : frG qM qM0 := by rw [hM0]; exact (((frG.rf.sf (by omega) _).sf (by omega) _).sf (by omega) _).sf (by omega) _
  have pC : PC [] 0 0 qC0 := by rw [hC0]; exact ⟨rfl, rfl, rfl, rfl, rfl⟩
  have pM : PM [] 0 0 qM0 := by rw [hM0]; exact ⟨rfl, rfl, rfl, rfl, fun k hk => absurd hk (Nat.not_lt_zero _)⟩
  have hC1 := hC.same fC.same
  have hM1 := hM.same fM.same
  have uC : f6_readable N (nI (dT d)) qC = f6_readable_l27 N N (nI (dT d)) (nI 0) qC0 := by
    unfold f6_readable
    rw [bn_e, bn_e, bn_e, bn_e, bn_e, hC0]
    rfl
  have uM : f9_goodOf N qM = f9_goodOf_l22 N N (nI 0) qM0 := by
    unfold f9_goodOf
    rw [bn_e, bn_e, bn_e, bn_e, hM0]
    rfl
  unfold f6_isPlan
  rw [uC, uM]
  by_cases hT0 : dT d = 0
  · obtain ⟨m, hm⟩ : ∃ m, N = m + 1 := ⟨N - 1, by omega⟩
    have x1 : f6_readable_l27 N N (nI (dT d)) (nI 0) qC0 = some (nI 0, qC0) := by
      conv => lhs; rw [hm]
      show f6_readable_l27_B (m + 1) (f6_readable_l27 (m + 1) m) _ _ _ = _
      unfold f6_readable_l27_B
      rw [hC1.2.2.2.2.1]
      by_cases hG0 : dG d = 0
      · rw [hG0, if_pos (nI_le (Nat.le_refl _) (by decide))]
      · have htk : f6_takes (nI (dg d 0)) (nI (dT d)) qC0 = some (0, qC0) := by
          unfold f6_takes f6_takesOpen f6_takesTable
          rw [pC.2.2.2.2, if_pos (show nI (endd [] 0) = 0 from rfl), pC.1, pC.2.1, hT0, bitCount_ok (by decide), bd_s, if_neg (show ¬ nI (pc 0) + nI (dueS [] 0) + 1 ≤ nI 0 by decide)]
          by_cases h40 : nI (dg d 0) = 40
          · rw [if_pos h40, bd2_s]
            exact cz_0
          · rw [if_neg h40]
            by_cases h48 : nI (dg d 0) - 48 < 0
            · rw [if_pos h48, bd2_s]
              exact cz_0
            · rw [if_neg h48, if_pos (show nI 0 ≤ nI (dg d 0) - 48 by rw [show (nI 0 : Int32) = 0 from rfl]; exact Int32.not_lt.mp h48), bd2_s]
              exact cz_0
        rw [if_neg (nI_ge (by omega) (by omega)), ck_nI (by decide) (by decide), ix_nI (by decide), hC1.2.2.2.2.2.2.2.2 0 (by omega), htk, bd2_s, if_pos rfl]
    have x2 : f9_goodOf_l22 N N (nI 0) qM0 = some (nI 0, qM0) := by
      conv => lhs; rw [hm]
      show f9_goodOf_l22_B (m + 1) (f9_goodOf_l22 (m + 1) m) _ _ = _
      unfold f9_goodOf_l22_B
      rw [hM1.1, hT0, if_pos (show nI 0 ≤ 0 by decide)]
    refine ⟨qC0, qM0, 0, fC, fM, Nat.zero_le _, x2, Or.inr ⟨Or.inr pM.2.2.2.1, ?_⟩⟩
    rw [x1, bd2_s, hC1.2.2.2.2.1, pC.2.2.2.2, if_pos (show nI (endd [] 0) = 0 from rfl)]
    split <;> rfl
  · obtain ⟨qC', qM', r, k1, k2, k3, k4, k5⟩ := read_all (N := N) hw hN (by omega) (pgL d) 0 N N [] 0 0 qC0 qM0 (by rw [pgL_len]; omega) (fun i hi => by
      rw [pgL_len] at hi
      rw [pgL_at d hi, Nat.zero_add]) (by rw [pgL_len]; omega) (by rw [pgL_len]; omega) hC1 hM1 (PO_0 (by omega)) pC pM
    have hC2 := hC1.same k3.same
    rcases k5 with ⟨-, hr⟩ | ⟨st', u', dn', g1, g2, g3, g4, g5⟩
    · refine ⟨qC', qM', r, fC.tr k3, fM.tr k4, by omega, k2, Or.inr ⟨Or.inl hr, ?_⟩⟩
      rw [k1, bd2_s, hC2.2.2.2.2.1, if_neg (fun e => by
        have := (nI_eq (by omega) (by omega)).mp e
        omega)]
    · subst g2
      by_cases hst : st' = []
      · subst hst
        have e9 : fi qC' 9 = nI dn' := g4.2.2.2.2
        have e7 : fi qC' 7 = nI 0 := g4.2.2.1
        have hdn : dn' ≤ 1 := g3.1
        rcases (show dn' = 0 ∨ dn' = 1 by omega) with rfl | rfl
        · refine ⟨qC', qM', dG d, fC.tr k3, fM.tr k4, Nat.le_refl _, k2, Or.inr ⟨Or.inr g5.2.2.2.1, ?_⟩⟩
          rw [k1, bd2_s, hC2.2.2.2.2.1, if_pos rfl, e9, if_pos (show nI 0 = 0 from rfl)]
        · refine ⟨qC', qM', dG d, fC.tr k3, fM.tr k4, Nat.le_refl _, k2, Or.inl ⟨u', g1, by omega, rfl, g5.2.2.2.1, ?_⟩⟩
          rw [k1, bd2_s, hC2.2.2.2.2.1, if_pos rfl, e9, if_neg (show ¬ nI 1 = 0 by decide), e7, if_pos (show nI 0 = 0 from rfl)]
      · have hdn : dn' = 0 := g3.2.1 hst
        subst hdn
        have hlen := PO_len hT g3
        have hl0 : ¬ st'.length = 0 := fun e => hst (List.eq_nil_of_length_eq_zero e)
        refine ⟨qC', qM', dG d, fC.tr k3, fM.tr k4, Nat.le_refl _, k2, Or.inr ⟨Or.inr g5.2.2.2.1, ?_⟩⟩
        rw [k1, bd2_s, hC2.2.2.2.2.1, if_pos rfl, g4.2.2.1, if_neg (nz hl0 (by omega))]
        split <;> rfl
/-- all pages are laid -/
def frL (q q' : SS) : Prop := (∀ j, j ≠ 3 → j ≠ 4 → fi q' j = fi q j) ∧ ∀ k, k ≠ 8 → k ≠ 9 → k ≠ 10 → k ≠ 13 → ar q' k = ar q k
theorem frL.rm {a b : SS} (h : frL a b) (m : RMk d a) : RMk d b := by
  obtain ⟨h0, h1, h2, h3, h4, h5, h6, h7, h8⟩ := m
  exact ⟨by rw [h.1 0 (by decide) (by decide)]; exact h0, by rw [h.1 1 (by decide) (by decide)]; exact h1, by rw [h.1 2 (by decide) (by decide)]; exact h2, by rw [h.1 5 (by decide) (by decide)]; exact h3, by rw [h.1 12 (by decide) (by decide)]; exact h4,
    fun t ht => by rw [h.2 1 (by decide) (by decide) (by decide) (by decide), h.2 2 (by decide) (by decide) (by decide) (by decide)]; exact h5 t ht, fun t ht => by rw [h.2 3 (by decide) (by decide) (by decide) (by decide)]; exact h6 t ht, fun t i l ht hi hl hb => by rw [h.2 4 (by decide) (by decide) (by decide) (by decide)]; exact h7 t i l ht hi hl hb, fun k hk => by rw [h.2 11 (by decide) (by decide) (by decide) (by decide)]; exact h8 k hk⟩
theorem m_layPages (hw : WF d) (hM : RMk d q) (hH : CH d q) (hN : 2 ^ 40 ≤ N) {b : Nat} (hb : b ≤ 1) : ∃ q', f9_layPages N (nI b) q = some q' ∧ frL q q' ∧ CH d q' ∧ LPg d b q' := by
  have h2 := two_pow_T hw
  have h1 := two_pow_T1 hw
  obtain ⟨q', ⟨g1, g2, g3⟩, hrun⟩ := loop_st (fun n (p : Int32 × Int32 × SS) => f9_layPages_l2 N n p.1 p.2.1 p.2.2) (fun k p => f9_layPages_l2_B N (fun x1 x2 x3 => k (x1, x2, x3)) p.1 p.2.1 p.2.2) (fun n p => rfl) (fun s q => (nI b, nI s, q)) (fun s q' => frL q q' ∧ CH d q' ∧ ∀ v, 1 ≤ v → v < s → ar q' 13 v = nI (pgs d v b)) 1 (2 ^ dT d) (fun q' => some q') (by
    rintro s q1 hs1 hs ⟨g1, g2, g3⟩
    have hM1 := g1.rm hM
    obtain ⟨q2, r2, f2, c2⟩ := m_pagesOf hw hM1 g2 hN hs1 hs hb
    have hs6 := s_lt hw hs
    refine ⟨sa q2 13 s (nI (pgs d s b)), ⟨⟨fun j h3 h4 => ?_, fun k k1 k2 k3 k4 => ?_⟩, ?_, fun v v1 v2 => ?_⟩, fun k => ?_⟩
    · rw [fi_sa, f2.1 j h3 h4, g1.1 j h3 h4]
    · rw [gk _ _ _ _ k4, f2.2 k k1 k2 k3, g1.2 k k1 k2 k3 k4]
    · exact c2.same ⟨fun _ _ => rfl, fun k hk => gk _ _ _ _ (by omega)⟩
    · by_cases hv : v = s
      · subst hv; rw [ga]
      · rw [gi _ _ _ _ hv, f2.2 13 (by decide) (by decide) (by decide)]
        exact g3 v v1 (by omega)
    · dsimp only
      unfold f9_layPages_l2_B
      rw [hM1.1, shl1_T hw, if_neg (nI_ge hs (by omega)), r2, bd2_s, ck_nI hs6 (by decide), ix_nI (by omega), bn_e, nI_s, bn_e]) (by
    rintro q1 ⟨g1, g2, g3⟩ k
    have hM1 := g1.rm hM
    dsimp only
    unfold f9_layPages_l2_B
    rw [hM1.1, shl1_T hw, if_pos (nI_le (Nat.le_refl _) (by omega))]) N 1 q (by omega) (by omega) (by omega) ⟨⟨fun _ _ _ => rfl, fun _ _ _ _ _ => rfl⟩, hH, fun v v1 v2 => by omega⟩
  exact ⟨q', hrun, g1, g2, g3⟩
theorem op_plan (hN : 2 ^ 40 ≤ N) : Op_plan N Sim := by
  rintro a b qC qM ⟨d, hw, hC, hM, hH⟩
  have hT := hw.1
  have hG := hw.2.2.2.2.2.2.2.2.1
  unfold f8_plan f9_plan
  rcases by_case a with ⟨k, hk, rfl, e1, e2⟩ | ⟨e1, e2⟩
  · rw [e1, bd_s, if_neg (show ¬ (1 : Int32) = 0 by decide), e2, bd_s, if_neg (show ¬ (1 : Int32) = 0 by decide)]
    rcases rcase b 0 (hi := 3) (by decide) with ⟨v, -, v2, rfl⟩ | hb
    · rw [if_neg (show ¬ nI v < 0 from nI_nlt (b := 0) (Nat.zero_le _) (by omega)), if_pos (show nI v ≤ 3 from nI_le (b := 3) v2 (by decide)), show f9_in (nI v).toInt64 0 3 = some 1 from m_in_ok (lo := 0) (hi := 3) (Nat.zero_le _) v2 (by decide), bd_s, if_neg (show ¬ (1 : Int32) = 0 by decide)]
      have etm : f7_tablesMade qC = some (nI (dT d)) := by unfold f7_tablesMade; rw [hC.2.1]
      obtain ⟨qC1, qM1, r, f1, f2, hr, g2, g3⟩ := plan_is (N := N) hw (by omega) hC hM
      have hC1 := hC.same f1.same
      have hM1 := hM.same f2.same
      have hH1 := hH.same f2.same
      rw [etm, bd_s, g2, bd2_s, hM1.2.2.2.1]
      rcases g3 with ⟨u', k1, k2, k3, k4, k5⟩ | ⟨k1, k2⟩
      · rw [k5, bd2_s, if_neg (show ¬ (1 : Int32) = 0 by decide), k3, if_neg (nI_nlt (Nat.le_refl _) (by omega)), k4, if_neg (show ¬ (1 : Int32) = 0 by decide)]
        obtain ⟨qM2, r2, l1, l2, l3⟩ := m_layPages (N := N) hw hM1 hH1 hN hk
        have hM2 := l1.rm hM1
        obtain ⟨qC3, hq3⟩ : ∃ x, x = sf (sf (sf (sf qC1 10 0) 11 0) 12 0) 13 1 := ⟨_, rfl⟩
        obtain ⟨qM3, hqM3⟩ : ∃ x, x = sf (sf qM2 10 1) 11 0 := ⟨_, rfl⟩
        have w3 : frW qC1 qC3 := by rw [hq3]; exact (((frW.rf.sf (by omega) _).sf (by omega) _).sf (by omega) _).sf (by omega) _
        have v3 : frV qM2 qM3 := by rw [hqM3]; exact (frV.rf.sf (by omega) _).sf (by omega) _
        have hC3 := hC1.same w3.same
        have hM3 := hM2.same v3.same
        obtain ⟨qC', qM', S', O', W', K', ok', j', c1, c2, c3, c4, c5, c6, -⟩ := work_v16 (N := N) (b := k) (L := dG d) hw (by omega) hk hG (pgL d) 0 N N ([], 0, 0) u' qC3 qM3 (fun _ => 0) (fun _ => 0) (fun _ => 0) (fun _ => 0) true 0 [] [] (by rw [pgL_len]; omega) (by rw [pgL_len]; omega) (by rw [pgL_len]; omega) hC3 hM3 (fun s s1 s2 => by rw [v3.2 13 (by decide)]; exact l3 s s1 s2) (fun i hi => by
          rw [pgL_len] at hi
          rw [pgL_at d hi, Nat.zero_add]
          exact ⟨hC3.2.2.2.2.2.2.2.2 i hi, hM3.2.2.2.2.2.2.2.2 i hi⟩) (PO_0 k2) k1 ⟨fun i hi => absurd hi (Nat.not_lt_zero _), fun i hi => absurd hi (Nat.not_lt_zero _), Nat.zero_le _⟩ (by
          rw [hq3]
          exact ⟨⟨rfl, rfl, rfl, rfl, fun i hi => absurd hi (Nat.not_lt_zero _), fun i hi => absurd hi (Nat.not_lt_zero _)⟩, fun i hi => absurd hi (Nat.not_lt_zero _)⟩) (by
          rw [hqM3]
          exact ⟨rfl, rfl, fun i hi => absurd hi (Nat.not_lt_zero _), fun i hi => absurd hi (Nat.not_lt_zero _)⟩) ⟨rfl, fun i hi => absurd hi (Nat.not_lt_zero _)⟩ ⟨rfl, fun i hi => absurd hi (Nat.not_lt_zero _)⟩
        have eL : f6_length qC1 = some (nI (dG d)) := by unfold f6_length; rw [hC1.2.2.2.2.1]
        have eR : f2_read_v16 N (nI (dG d)) (nI k) qC1 = some qC' := by
          unfold f2_read_v16
          rw [bn_e, bn_e, bn_e, bn_e, ← hq3]
          exact c1
        have eW : f9_workOff_v11 N 0 (fi qM2 5) qM2 = some qM' := by
          unfold f9_workOff_v11
          rw [bn_e, bn_e, ← hqM3, hM2.2.2.2.1]
          exact c2
        have sim : Sim qC' qM' := ⟨d, hw, hC3.same c3.same, hM3.same c4.same, (l2.same v3.same).same c4.same⟩
        rw [eL, bd_s, eR, bd_s, r2, bd_s, eW, bd_s]
        obtain ⟨⟨j10, j11, j12, j13, jI, j21⟩, j20⟩ := c5
        obtain ⟨n10, n11, nI', n17⟩ := c6
        have jI := jI 0 (by decide)
        have nI' := nI' 0 (by decide)
        unfold f9_plan_b73 f2_tablesRead f2_canBeDone f2_costRead f2_letterRead f2_stepsRead
        rw [j13, n10]
        rcases (show v = 0 ∨ v = 1 ∨ v = 2 ∨ v = 3 by omega) with rfl | rfl | rfl | rfl
        · refine ⟨nI (S' 0), qC', qM', ?_, ?_, sim⟩
          · rw [if_pos (show nI 0 = 0 from rfl)]
            have := jI.1
            simp (disch := omega) only [bd_s, bd2_s, bn_e, ck_nI, dz_nI, cz_0, cz_1, ix_nI, le_t, le_f, lt_t, lt_f, eq_t, eq_f, if_true, if_false, nI_add, pk_sub, pk_mul, pk_div, this, li0, li1, li2, li3, li4, li5, li6, li7, li8, li9, li10, li12, li15, li16, li20, li21, li24, li31, li32, li40, li41, li48, li53, li55, li56, li57, li63, li64, li100, li108, li112, li115, li126, li127, li255, li256, li576, li384]
          · rw [if_pos (show nI 0 = 0 from rfl), if_pos (show nI 0 = 0 from rfl), show ix (0 : Int32) = 0 from by decide, nI'.1]
        · cases ok' with
          | false =>
            refine ⟨-2, qC', qM', ?_, ?_, sim⟩
            · rw [if_neg (show ¬ nI 1 = 0 by decide), if_pos (show nI 1 = 1 from rfl)]
              rfl
            · rw [if_neg (show ¬ nI 1 = 0 by decide), if_neg (show ¬ nI 1 = 3 by decide)]
              rfl
          | true =>
            refine ⟨K' 0, qC', qM', ?_, ?_, sim⟩
            · rw [if_neg (show ¬ nI 1 = 0 by decide), if_pos (show nI 1 = 1 from rfl)]
              have := (jI.2.2 rfl).1
              rw [← this]
              rfl
            · rw [if_neg (show ¬ nI 1 = 0 by decide), if_neg (show ¬ nI 1 = 3 by decide), if_neg (show ¬ nI (true).toNat = 0 by decide), if_pos (show nI 1 = 1 from rfl), show ix (0 : Int32) = 0 from by decide, nI'.2.2 rfl]
        · cases ok' with
          | false =>
            refine ⟨-2, qC', qM', ?_, ?_, sim⟩
            · rw [if_neg (show ¬ nI 2 = 0 by decide), if_neg (show ¬ nI 2 = 1 by decide), if_pos (show nI 2 = 2 from rfl)]
              rfl
            · rw [if_neg (show ¬ nI 2 = 0 by decide), if_neg (show ¬ nI 2 = 3 by decide)]
              rfl
          | true =>
            refine ⟨nI (O' 0) - 1, qC', qM', ?_, ?_, sim⟩
            · rw [if_neg (show ¬ nI 2 = 0 by decide), if_neg (show ¬ nI 2 = 1 by decide), if_pos (show nI 2 = 2 from rfl)]
              have := (jI.2.2 rfl).2
              rw [← this]
              rfl
            · rw [if_neg (show ¬ nI 2 = 0 by decide), if_neg (show ¬ nI 2 = 3 by decide), if_neg (show ¬ nI (true).toNat = 0 by decide), if_neg (show ¬ nI 2 = 1 by decide), show ix (0 : Int32) = 0 from by decide, nI'.2.1]
        · refine ⟨nI j', qC', qM', ?_, ?_, sim⟩
          · rw [if_neg (show ¬ nI 3 = 0 by decide), if_neg (show ¬ nI 3 = 1 by decide), if_neg (show ¬ nI 3 = 2 by decide), j12, bd_s]
          · rw [if_neg (show ¬ nI 3 = 0 by decide), if_pos (show nI 3 = 3 from rfl), n11, if_neg (show ¬ nI 3 = 0 by decide)]
      · refine ⟨-103, qC1, qM1, ?_, ?_, d, hw, hC1, hM1, hH1⟩
        · rw [k2, bd2_s, if_pos rfl]
        · by_cases hr2 : r < dG d
          · rw [if_pos (nI_lt hr2 (by omega))]
          · rw [if_neg (nI_nlt (by omega) (by omega)), if_pos (k1.resolve_left hr2)]
    · refine ⟨-102, qC, qM, ?_, ?_, d, hw, hC, hM, hH⟩
      · by_cases h1 : b < 0
        · rw [if_pos h1]
        · rw [if_neg h1, if_neg]
          rw [show (3 : Int32) = nI 3 from rfl, leI (by decide)]
          rw [lt0_toInt] at h1
          omega
      · rw [show f9_in b.toInt64 0 3 = some 0 from m_in_no (lo := 0) (hi := 3) (by decide) (by decide) hb, bd_s, if_pos rfl]
  · refine ⟨-102, qC, qM, ?_, ?_, d, hw, hC, hM, hH⟩
    · rw [e1, bd_s, if_pos rfl]
    · rw [e2, bd_s, if_pos rfl]
end Plan
