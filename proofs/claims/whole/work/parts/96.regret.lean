/-! regret -/
section Regret
variable {N : Nat} {d : DB} {q : SS}
theorem m_keepText (hN : 1000 ≤ N) {s sp o : Nat} {l : List Nat} (hs6 : s < 64) (p1 : 1 ≤ pc s) (p6 : pc s ≤ 6) (ho : o < 9) (hl : l.length = 4 * pc s - 3) (hx : ∀ k, k < l.length → ar q 19 (21 * (9 * s + o) + k) = nI (mj l k)) : ∃ q', f9_regret_l60 N N (nI s) (nI sp) (nI o) (nI 0) q = (bd (f9_findBest N (nI s) (nI sp) (0 : Int32) q') fun q_103 => bd2 (f9_bestOrder N (nI s) (-1 : Int32) q_103) fun _ q_109 => bd (f9_workOff_v21 N (0 : Int32) (nI l.length) q_109) fun q_123 => some ((ar q_123 15 0) - (fi q_123 14), q_123)) ∧ (∀ j, fi q' j = fi q j) ∧ (∀ k, k ≠ 21 → ar q' k = ar q k) ∧ ∀ k, k < l.length → ar q' 21 k = nI (mj l k) := by
  obtain ⟨q', ⟨g1, g2, g3⟩, hrun⟩ := loop_st (fun n (p : Int32 × Int32 × Int32 × Int32 × SS) => f9_regret_l60 N n p.1 p.2.1 p.2.2.1 p.2.2.2.1 p.2.2.2.2) (fun k p => f9_regret_l60_B N (fun x1 x2 x3 x4 x5 => k (x1, x2, x3, x4, x5)) p.1 p.2.1 p.2.2.1 p.2.2.2.1 p.2.2.2.2) (fun n p => rfl) (fun k q => (nI s, nI sp, nI o, nI k, q)) (fun m q' => (∀ j, fi q' j = fi q j) ∧ (∀ k, k ≠ 21 → ar q' k = ar q k) ∧ ∀ k, k < m → ar q' 21 k = nI (mj l k)) 0 l.length (fun q' => bd (f9_findBest N (nI s) (nI sp) (0 : Int32) q') fun q_103 => bd2 (f9_bestOrder N (nI s) (-1 : Int32) q_103) fun _ q_109 => bd (f9_workOff_v21 N (0 : Int32) (nI l.length) q_109) fun q_123 => some ((ar q_123 15 0) - (fi q_123 14), q_123)) (by
    rintro k q1 - hk ⟨g1, g2, g3⟩
    refine ⟨sa q1 21 k (nI (mj l k)), ⟨fun j => g1 j, fun j hj => ?_, fun j hj => ?_⟩, fun kk => ?_⟩
    · rw [gk _ _ _ _ hj]; exact g2 j hj
    · by_cases e : j = k
      · subst e; rw [ga]
      · rw [gi _ _ _ _ e]; exact g3 j (by omega)
    · dsimp only
      unfold f9_regret_l60_B
      rw [m_signsOf hN hs6 p1, bd_s, if_neg (nI_ge (by omega) (by omega)), li21, li9, pk_mul, nI_add, pk_mul, nI_add, ck_nI (by omega) (by decide), ck_nI (by omega) (by decide), ix_nI (by omega), ix_nI (by omega), g2 19 (by decide), hx k hk, bn_e, nI_s, bn_e]) (by
    rintro q1 - kk
    dsimp only
    unfold f9_regret_l60_B
    rw [m_signsOf hN hs6 p1, bd_s, if_pos (nI_le (by omega) (by omega)), show ix (0 : Int32) = 0 from by decide, hl]
    simp only [bd_s]) N 0 q (by omega) (by omega) (by omega) ⟨fun _ => rfl, fun _ _ => rfl, fun k hk => by omega⟩
  exact ⟨q', hrun, g1, g2, g3⟩
theorem op_regret (hN : 2 ^ 40 ≤ N) : Op_regret N Sim := by
  rintro a1 a2 qC qM ⟨d, hw, hC, hM, hH⟩
  have hD := hw.2.2.2.2.2.2.2.2.2.2
  have h2T := two_pow_T hw
  unfold f8_regret f9_regret
  rcases ask_both hw hC hM a1 a2 0 (-1) with ⟨s, sp, b0, e0, hs1, hs, hsp, -, -, rfl, rfl, -, -, e1, e2⟩ | ⟨e1, e2⟩
  · rw [e1, bd_s, m_isSet hw hM hs1 hs, bd_s, if_neg (show ¬ (1 : Int32) = 0 by decide), show f9_in (nI sp).toInt64 0 1 = some 1 from m_in_ok (lo := 0) (hi := 1) (Nat.zero_le _) hsp (by decide), bd_s, if_neg (show ¬ (1 : Int32) = 0 by decide), hM.2.2.2.2.1]
    by_cases c : dD d < 60
    · obtain ⟨w0, w1, w2, w3, w4, w5, w6, w7, w8, w9, w10⟩ := hw
      obtain ⟨c0, c1, c2, c3, c4, c5, c6, c7, c8⟩ := hC
      obtain ⟨m0, m1, m2, m3, m4, m5, m6, m7, m8⟩ := hM
      have hw' : WF (setD d (dD d + 1)) := ⟨w0, w1, w2, w3, w4, w5, w6, w7, w8, w9, by show dD d + 1 ≤ 60; omega⟩
      have hC' : RC (setD d (dD d + 1)) (sf qC 0 (nI (dD d + 1))) := ⟨rfl, c1, c2, c3, c4, c5, c6, c7, c8⟩
      have hM' : RMk (setD d (dD d + 1)) (sf qM 12 (nI (dD d + 1))) := ⟨m0, m1, m2, m3, rfl, m5, m6, m7, m8⟩
      have hH' : CH (setD d (dD d + 1)) (sf qM 12 (nI (dD d + 1))) := hH
      have hs' : s < 2 ^ dT (setD d (dD d + 1)) := hs
      generalize setD d (dD d + 1) = D at hw' hC' hM' hH' hs'
      have hT' := hw'.1
      have hs6 := s_lt hw' hs'
      have p1 := pc_pos hs1 hs6
      have p6 := (pc6 hs6).1
      have em1 : nI 0 - 1 = -1 := by decide
      /- the plan by foretold sizes -/
      obtain ⟨qC1, qMa, qM1, W1, o, l, g1, g2, g3, g4, g5, g6, g7, g8, g9, g10, g11, g12, g13, g14, g15, g16, M, cc, g17, g18, g19, g20⟩ := both_best (N := N) (sp := sp) (b := 1) (e := 0) hw' hC' hM' hH' hN hs1 hs' hsp (by decide) (by decide)
      rw [em1] at g3 g4 g6
      have hlen := g13.1
      obtain ⟨qC2, r2, wr, fz⟩ := c_write (N := N) (q := qC1) hw' (by omega) hs1 hs' g13 (show W1 % 18446744073709551616 < 2 ^ 63 by omega) g14 g4
      have hC2 := (hC'.same g2.same).same fz.same
      obtain ⟨qM2, x1, x2, x3, x4⟩ := m_keepText (N := N) (sp := sp) (q := qM1) (by omega) hs6 p1 p6 g12 hlen g15
      have s12 : sameM qM1 qM2 := ⟨fun k _ => x2 k, fun k hk => x3 k (by omega)⟩
      have hM2 := g7.same s12
      have hH2 := g8.same s12
      /- the reference's plan by true sizes -/
      obtain ⟨-, qMb, qM5, W2, o2, l2, -, -, -, -, y5, y6, y7, y8, y9, y10, y11, -⟩ := both_best (N := N) (sp := sp) (b := 0) (e := 0) hw' hC2 hM2 hH2 hN hs1 hs' hsp (by decide) (by decide)
      rw [em1] at y6
      /- both read the text -/
      obtain ⟨qC3, hq3⟩ : ∃ x, x = sf (sf (sf (sf qC2 10 0) 11 0) 12 0) 13 1 := ⟨_, rfl⟩
      obtain ⟨qM6, hqM6⟩ : ∃ x, x = sf (sf qM5 10 1) 11 0 := ⟨_, rfl⟩
      have fw : frW qC2 qC3 := by rw [hq3]; exact (((frW.rf.sf (by omega) _).sf (by omega) _).sf (by omega) _).sf (by omega) _
      have fv : frV qM5 qM6 := by rw [hqM6]; exact (frV.rf.sf (by omega) _).sf (by omega) _
      have hC3 := hC2.same fw.same
      have hM6 := y7.same fv.same
      have hT1 : 1 ≤ dT D := by
        rcases Nat.eq_zero_or_pos (dT D) with z | z
        · rw [z] at hs'
          have : s < 1 := hs'
          omega
        · exact z
      obtain ⟨qC4, qM7, S', O', W', K', ok', j', k1, k2, k3, k4, k5, k6, k7⟩ := work_v26 (N := N) (b := 0) (L := l.length) hw' (by omega) (by decide) (by omega) l 0 N N ([], 0, 0) s qC3 qM6 (fun _ => 0) (fun _ => 0) (fun _ => 0) (fun _ => 0) true 0 [] [] (by omega) (by omega) (by omega) hC3 hM6 (fun t t1 t2 => by rw [fv.2 13 (by decide)]; exact y9 t t1 t2) (fun i hi => by
        rw [Nat.zero_add, fw.2.1 26 (by decide), fv.2 21 (by decide), y10]
        exact ⟨wr.2 i hi, x4 i hi⟩) (PO_0 hT1) (g13.run hT' hs') ⟨fun i hi => absurd hi (Nat.not_lt_zero _), fun i hi => absurd hi (Nat.not_lt_zero _), Nat.zero_le _⟩ (by
        rw [hq3]
        exact ⟨⟨rfl, rfl, rfl, rfl, fun i hi => absurd hi (Nat.not_lt_zero _), fun i hi => absurd hi (Nat.not_lt_zero _)⟩, fun i hi => absurd hi (Nat.not_lt_zero _)⟩) (by
        rw [hqM6]
        exact ⟨rfl, rfl, fun i hi => absurd hi (Nat.not_lt_zero _), fun i hi => absurd hi (Nat.not_lt_zero _)⟩) ⟨rfl, fun i hi => absurd hi (Nat.not_lt_zero _)⟩ ⟨rfl, fun i hi => absurd hi (Nat.not_lt_zero _)⟩
      have hcb := CB_lt p6
      have hdo := all_do hw' hs' g17 g18 (s + 1) s (by omega) hs1 (by omega) (andn_self s) o cc l g12 g13 (by omega) g20 [] [] [] true
      rw [List.append_nil] at hdo
      rw [hdo] at k7
      have k7 : ok' = true := k7
      have hC4 := hC3.same k3.same
      /- the class's plan by true sizes -/
      obtain ⟨qC5, qMb3, qM53, W3, o3, l3, z1, z2, z3, z4, z5, z6, -, -, -, -, z11, -⟩ := both_best (N := N) (sp := sp) (b := 0) (e := 0) hw' hC4 hM2 hH2 hN hs1 hs' hsp (by decide) (by decide)
      rw [em1] at z3 z6
      have eMb : qMb3 = qMb := Option.some.inj (z5.symm.trans y5)
      subst eMb
      have eM5 : qM53 = qM5 := congrArg Prod.snd (Option.some.inj (z6.symm.trans y6))
      subst eM5
      obtain ⟨⟨j10, j11, j12, j13, jI, j21⟩, j20⟩ := k5
      obtain ⟨n10, n11, nI', n17⟩ := k6
      have jc := ((jI 0 (by decide)).2.2 k7).1
      have nc := (nI' 0 (by decide)).2.2 k7
      have hn60 : ¬ nI (dD d) = 60 := fun z => by
        have := (nI_eq (b := 60) (by omega) (by decide)).mp z
        omega
      have eR : f2_read_v26 N (nI l.length) 0 qC2 = some qC4 := by
        unfold f2_read_v26
        rw [bn_e, bn_e, bn_e, bn_e, ← hq3]
        exact k1
      have eW : f9_workOff_v21 N 0 (nI l.length) qM53 = some qM7 := by
        unfold f9_workOff_v21
        rw [bn_e, bn_e, ← hqM6]
        exact k2
      have e14 : fi qM7 14 = nI (W3 / 18446744073709551616) := by rw [k4.1 14 (by decide) (by decide), fv.1 14 (by decide) (by decide), z11]
      refine ⟨K' 0 - nI (W3 / 18446744073709551616), qC5, qM7, ?_, ?_, D, hw', hC4.same z2.same, hM6.same k4.same, (y8.same fv.same).same k4.same⟩
      · have g1' : f0_choose N (nI s) (nI sp) (1 : Int32) (sf qC 0 (nI (dD d + 1))) = some qC1 := g1
        have z1' : f0_choose N (nI s) (nI sp) (0 : Int32) qC4 = some qC5 := z1
        unfold f2_costRead
        rw [if_pos c, if_pos rfl, c0, nI_s, bn_e, g1', bd_s, r2, bd2_s, eR, bd_s, z1', bd_s, z3]
        have e18 : ar qC5 18 0 = K' 0 := by rw [z2.2 18 (by decide)]; exact jc
        rw [bd_s, bd_s, show ix (0 : Int32) = 0 from by decide, e18]
      · have g5' : f9_findBest N (nI s) (nI sp) (1 : Int32) (sf qM 12 (nI (dD d + 1))) = some qMa := g5
        have y5' : f9_findBest N (nI s) (nI sp) (0 : Int32) qM2 = some qMb3 := y5
        rw [if_neg hn60, nI_s, bn_e, g5', bd_s, g6, bd2_s]
        refine Eq.trans x1 ?_
        rw [y5', bd_s, y6, bd2_s, eW, bd_s, nc, e14]
    · refine ⟨-103, qC, qM, ?_, ?_, d, hw, hC, hM, hH⟩
      · rw [if_neg c, if_neg (show ¬ (-103 : Int32) = 0 by decide)]
      · rw [if_pos (show nI (dD d) = 60 by rw [show dD d = 60 by omega]; rfl)]
  · refine ⟨-102, qC, qM, ?_, ?_, d, hw, hC, hM, hH⟩
    · rw [e1, bd_s, if_neg (show ¬ (-102 : Int32) = 0 by decide)]
    · rcases scase a1 (n := 2 ^ dT d) (by omega) with ⟨s, hs1, hs, rfl⟩ | ha
      · rw [m_isSet hw hM hs1 hs, bd_s, if_neg (show ¬ (1 : Int32) = 0 by decide)]
        rcases rcase a2 0 (hi := 1) (by decide) with ⟨k, -, hk2, rfl⟩ | hb
        · exfalso
          unfold f9_isAsked at e2
          rw [m_isSet hw hM hs1 hs, bd_s, if_neg (show ¬ (1 : Int32) = 0 by decide), show f9_in (nI k).toInt64 0 1 = some 1 from m_in_ok (lo := 0) (hi := 1) (Nat.zero_le _) hk2 (by decide), bd_s, if_neg (show ¬ (1 : Int32) = 0 by decide), show f9_in (0 : Int32).toInt64 0 1 = some 1 from by decide, bd_s, if_neg (show ¬ (1 : Int32) = 0 by decide), show f9_in (-1 : Int32).toInt64 (-1) 7 = some 1 from by decide, bd_s, if_neg (show ¬ (1 : Int32) = 0 by decide)] at e2
          exact absurd e2 (by decide)
        · rw [show f9_in a2.toInt64 0 1 = some 0 from m_in_no (lo := 0) (hi := 1) (by decide) (by decide) hb, bd_s, if_pos rfl]
      · rw [m_isSet_f hw hM ha, bd_s, if_pos rfl]
end Regret
