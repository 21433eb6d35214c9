/-! value -/
section Value
variable {N : Nat} {d : DB} {s : Nat}
theorem fix_same {E : Nat → Nat} {u v l : Nat} (hE : FixE d s E 6) (huv : u < v) (hv : v < 6) (hu : s.testBit u = true) (hb : s.testBit v = true) (hl : l < 8) (h1 : (dL d u).testBit l = true) (h2 : (dL d v).testBit l = true) : dV d u (E u) l = dV d v (E v) l := by
  have h3 := (hE v hv hb).2
  unfold fitP at h3
  rw [List.all_eq_true] at h3
  have h4 := h3 (u, E u) (by
    unfold accT
    refine List.mem_map.mpr ⟨u, ?_, rfl⟩
    unfold memTo
    exact List.mem_filter.mpr ⟨List.mem_range.mpr huv, hu⟩)
  exact fitL_iff.mp h4 l hl h1 h2
theorem op_value (hN : 2 ^ 40 ≤ N) : Op_value N Sim := by
  rintro a b c qC qM ⟨d, hw, hC, hM, hH⟩
  have hT := hw.1
  have h2T := two_pow_T hw
  unfold f8_value f9_value
  rcases scase a (n := 2 ^ dT d) (by omega) with ⟨s, hs1, hs, rfl⟩ | ha
  · have hs6 := s_lt hw hs
    have hl6 : (mem s).length ≤ 6 := memTo_len s 6
    have hok := okM_mem hw hs1 hs
    rw [c_isSet hw hC hs1 hs, bd_s, if_neg (show ¬ (1 : Int32) = 0 by decide), m_isSet hw hM hs1 hs, bd_s, if_neg (show ¬ (1 : Int32) = 0 by decide)]
    rcases tcase c (n := 8) (by decide) with ⟨l, hl, rfl⟩ | hc
    · obtain ⟨qC', qM', f1, f2, hh⟩ := find_both hw hC hM hN hs1 hs b
      have hlS := lS_lt hw s
      have e1 := bit_nI (a := lS d s) (b := l) (by omega) (by omega)
      have hM' := hM.same f2.same
      rw [c_isLetter hl, bd_s, if_neg (show ¬ (1 : Int32) = 0 by decide), c_lettersOfSet hw hC (by omega) (by omega), bd_s, e1, in07 hl, bd_s, if_neg (show ¬ (1 : Int32) = 0 by decide)]
      unfold f8_value_b45
      cases hbit : (lS d s).testBit l
      · have hno : ∀ j, j < (mem s).length → (dL d (mj (mem s) j)).testBit l = false := fun j hj => by
          rw [Bool.eq_false_iff]
          intro z
          have h1 : (lS d s).testBit l = true := (lS_bit s l).mpr ⟨mj (mem s) j, hok.2.2 j hj, (mem_bit.mp (mj_mem hj)).2, z⟩
          rw [hbit] at h1
          cases h1
        refine ⟨-1, qC, qM', ?_, ?_, d, hw, hC, hM', hH.same f2.same⟩
        · rw [if_neg (show ¬ nI (false).toNat = 1 by decide), if_pos rfl]
        · rcases hh with ⟨-, h2⟩ | ⟨E, -, h2, -, -, h5, h6⟩
          · rw [h2, bd2_s, if_pos rfl]
          · rw [h2, bd2_s, if_neg (show ¬ (1 : Int32) = 0 by decide)]
            refine loop_run (fun n (p : Int32 × Int32 × SS) => f9_value_l40 N n p.1 p.2.1 p.2.2) (fun k p => f9_value_l40_B N (fun x1 x2 x3 => k (x1, x2, x3)) p.1 p.2.1 p.2.2) (fun n p => rfl) (fun i => (nI l, nI i, qM')) (mem s).length _ (c := 0) ?_ ?_ N 0 (Nat.le_refl _) (Nat.zero_le _) (by omega)
            · intro i _ hi k
              have h7 := hok.2.2 i hi
              dsimp only
              unfold f9_value_l40_B
              rw [h5.1, if_neg (nI_ge hi (by omega)), ck_nI (by omega) (by decide), ix_nI (by omega), h5.2 i hi, m_has hw hM' h7 (by omega), bd_s, hno i hi, if_pos (show nI (false).toNat = 0 from rfl), nI_s, bn_e]
            · intro k
              dsimp only
              unfold f9_value_l40_B
              rw [h5.1, if_pos (nI_le (Nat.le_refl _) (by omega))]
      · rw [if_pos (show nI (true).toNat = 1 from rfl), if_neg (show ¬ (1 : Int32) = 0 by decide)]
        rcases hh with ⟨h1, h2⟩ | ⟨E, h1, h2, h3, h4, h5, h6⟩
        · exact ⟨-1, qC', qM', by rw [h1, bd2_s, if_pos rfl], by rw [h2, bd2_s, if_pos rfl], d, hw, hC.same f1.same, hM', hH.same f2.same⟩
        · -- the first table with the letter
          obtain ⟨t0, ht0, hbt0, hlt0⟩ := (lS_bit s l).mp hbit
          obtain ⟨p1, p2, p3, p4⟩ := ff_spec (fun u => s.testBit u && (dL d u).testBit l) 6 0
          have hu6 : ff (fun u => s.testBit u && (dL d u).testBit l) 0 6 < 6 := by
            rcases Nat.lt_or_ge (ff (fun u => s.testBit u && (dL d u).testBit l) 0 6) 6 with z | z
            · exact z
            · have := p3 t0 (by omega) (by omega)
              rw [hbt0, hlt0] at this
              cases this
          generalize hu0 : ff (fun u => s.testBit u && (dL d u).testBit l) 0 6 = u at *
          have hpu := p4 (by omega)
          rw [Bool.and_eq_true] at hpu
          have huT : u < dT d := bit_lt hs hpu.1
          have hEu := (h3 u hu6 hpu.1).1
          have hC' := hC.same f1.same
          refine ⟨nI (dV d u (E u) l), qC', qM', ?_, ?_, d, hw, hC', hM', hH.same f2.same⟩
          · rw [h1, bd2_s, if_neg (show ¬ (1 : Int32) = 0 by decide)]
            have : f3_numberFound N qC' (nI s) (nI l) = some (nI (dV d u (E u) l)) := by
              refine loop_run (fun n (p : Int32 × Int32 × Int32) => f3_numberFound_l2 N qC' n p.1 p.2.1 p.2.2) (fun k p => f3_numberFound_l2_B N qC' (fun x1 x2 x3 => k (x1, x2, x3)) p.1 p.2.1 p.2.2) (fun n p => rfl) (fun v => (nI s, nI l, nI v)) u _ (c := 0) ?_ ?_ N 0 (Nat.le_refl _) (Nat.zero_le _) (by omega)
              · intro v _ hv k
                have e2 := bit_nI (a := s) (b := v) (by omega) (by omega)
                have hpv := p3 v (by omega) hv
                dsimp only
                unfold f3_numberFound_l2_B f3_numberFound_b48
                rw [if_neg (show ¬ (6 : Int32) ≤ nI v from nI_ge (b := 6) (by omega) (by decide)), e2, nI_s, bn_e]
                cases hbv : s.testBit v
                · rw [if_neg (show ¬ nI (false).toNat = 1 by decide)]
                · rw [hbv, Bool.true_and] at hpv
                  rw [if_pos (show nI (true).toNat = 1 from rfl), c_has hw hC' (bit_lt hs hbv) hl, bd_s, hpv, if_pos (show nI (false).toNat = 0 from rfl)]
              · intro k
                have e2 := bit_nI (a := s) (b := u) (by omega) (by omega)
                have e3 := c_number hw (t := u) (i := E u) hl
                rw [show cdf d u (E u) l = dV d u (E u) l from if_pos hpu.2] at e3
                dsimp only
                unfold f3_numberFound_l2_B
                rw [if_neg (show ¬ (6 : Int32) ≤ nI u from nI_ge (b := 6) (by omega) (by decide)), e2, hpu.1, if_pos (show nI (true).toNat = 1 from rfl), c_has hw hC' huT hl, bd_s, hpu.2, if_neg (show ¬ nI (true).toNat = 0 by decide), ck_nI (by omega) (by decide), ix_nI (by omega), h4 u hu6 hpu.1, c_codeAt hw hC' huT hEu, bd_s, e3, bd_s]
            rw [this, bd_s]
          · rw [h2, bd2_s, if_neg (show ¬ (1 : Int32) = 0 by decide)]
            obtain ⟨g1, g2, g3, g4⟩ := ff_spec (fun i => (dL d (mj (mem s) i)).testBit l) (mem s).length 0
            obtain ⟨j, hj, hjt, -⟩ := mem_pos (s := s) hu6 hpu.1
            have hlt : ff (fun i => (dL d (mj (mem s) i)).testBit l) 0 (mem s).length < (mem s).length := by
              rcases Nat.lt_or_ge (ff (fun i => (dL d (mj (mem s) i)).testBit l) 0 (mem s).length) (mem s).length with z | z
              · exact z
              · have := g3 j (by omega) (by omega)
                rw [hjt, hpu.2] at this
                cases this
            generalize ff (fun i => (dL d (mj (mem s) i)).testBit l) 0 (mem s).length = j0 at *
            have hv := mem_bit.mp (mj_mem hlt)
            have hvl := g4 (by omega)
            have hvT := hok.2.2 j0 hlt
            have hsame : dV d u (E u) l = dV d (mj (mem s) j0) (E (mj (mem s) j0)) l := by
              rcases Nat.lt_trichotomy u (mj (mem s) j0) with z | z | z
              · exact fix_same h3 z hv.1 hpu.1 hv.2 hl hpu.2 hvl
              · rw [← z]
              · have := p3 (mj (mem s) j0) (by omega) z
                rw [hv.2, hvl] at this
                cases this
            have hEv := (h3 _ hv.1 hv.2).1
            have hR8 := R8 hw (mj (mem s) j0)
            rw [hsame]
            refine loop_run (fun n (p : Int32 × Int32 × SS) => f9_value_l40 N n p.1 p.2.1 p.2.2) (fun k p => f9_value_l40_B N (fun x1 x2 x3 => k (x1, x2, x3)) p.1 p.2.1 p.2.2) (fun n p => rfl) (fun i => (nI l, nI i, qM')) j0 _ (c := 0) ?_ ?_ N 0 (Nat.le_refl _) (Nat.zero_le _) (by omega)
            · intro i _ hi k
              have h7 := hok.2.2 i (by omega)
              have h8 := g3 i (by omega) hi
              dsimp only
              unfold f9_value_l40_B
              rw [h5.1, if_neg (nI_ge (by omega) (by omega)), ck_nI (by omega) (by decide), ix_nI (by omega), h5.2 i (by omega), m_has hw hM' h7 (by omega), bd_s, h8, if_pos (show nI (false).toNat = 0 from rfl), nI_s, bn_e]
            · intro k
              dsimp only
              unfold f9_value_l40_B
              rw [h5.1, if_neg (nI_ge (by omega) (by omega)), ck_nI (by omega) (by decide), ix_nI (by omega), h5.2 j0 hlt, m_has hw hM' hvT (by omega), bd_s, hvl, if_neg (show ¬ nI (true).toNat = 0 by decide), h6 j0 hlt]
              have a1 : (64 : Int32) * nI (mj (mem s) j0) + 8 * nI (E (mj (mem s) j0)) + nI l = nI (64 * mj (mem s) j0 + 8 * E (mj (mem s) j0) + l) := by simp (disch := omega) only [bd_s, bd2_s, bn_e, ck_nI, dz_nI, cz_0, cz_1, ix_nI, le_t, le_f, lt_t, lt_f, eq_t, eq_f, if_true, if_false, nI_add, pk_sub, pk_mul, pk_div, li0, li1, li2, li3, li4, li5, li6, li7, li8, li9, li10, li12, li15, li16, li20, li21, li24, li31, li32, li40, li41, li48, li53, li55, li56, li57, li63, li64, li100, li108, li112, li115, li126, li127, li255, li256, li576, li384]
              rw [a1, ck_nI (by omega) (by decide), ck_nI (by omega) (by decide), ck_nI (by omega) (by decide), ix_nI (by omega), m_addr hw hM' hvT hEv hl hvl]
    · refine ⟨-101, _, _, ?_, ?_, d, hw, hC, hM, hH⟩
      · rw [c_isLetter_f hc, bd_s, if_pos rfl]
      · rw [in07_f hc, bd_s, if_pos rfl]
  · refine ⟨-102, _, _, ?_, ?_, d, hw, hC, hM, hH⟩
    · rw [c_isSet_f hw hC ha, bd_s, if_pos rfl]
    · rw [m_isSet_f hw hM ha, bd_s, if_pos rfl]
end Value
