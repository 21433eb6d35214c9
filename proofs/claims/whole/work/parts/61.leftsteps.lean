/-! left, steps -/
section LeftSteps
variable {N : Nat} {d : DB} {q : SS}
theorem TC.fr {s : Nat} {q q' : SS} (h : TC d s q) (f : frC q q') : TC d s q' := ⟨by rw [f.1 15 (by decide)]; exact h.1, fun k hk => by rw [f.2 27 (by decide)]; exact h.2.1 k hk, fun t ht => by rw [f.2 28 (by decide)]; exact h.2.2 t ht⟩
theorem TM.fr {s : Nat} {q q' : SS} (h : TM d s q) (f : frM q q') : TM d s q' := ⟨by rw [f.1 15]; exact h.1, fun k hk => by rw [f.2 22 (by decide)]; exact h.2.1 k hk, fun t ht => by rw [f.2 23 (by decide)]; exact h.2.2 t ht⟩
theorem pc_full {n : Nat} (h : n ≤ 8) : pc (2 ^ n - 1) = n := by
  have key : ∀ n : Fin 9, pc (2 ^ n.1 - 1) = n.1 := by decide +kernel
  exact key ⟨n, by omega⟩
theorem cost0 (hw : WF d) : cost d (lf0 d) = 0 := by
  have : ∀ n, bsum (fun u => dR d u - pc (lf0 d u)) n = 0 := by
    intro n
    induction n with
    | zero => rfl
    | succ n ih =>
      show bsum _ n + (dR d n - pc (lf0 d n)) = 0
      rw [ih]
      unfold lf0
      rw [pc_full (R8 hw n)]
      omega
  exact this 6
theorem KK_pos {s : Nat} (hs1 : 1 ≤ s) (hh : Sq d s (KK d s) = 0) : 1 ≤ KK d s := by
  rcases Nat.eq_zero_or_pos (KK d s) with h | h
  · rw [h] at hh
    have : s = 0 := hh
    omega
  · exact h
theorem hookOf_tk {s k : Nat} (hs : s < 2 ^ dT d) (h : TC d s q) (hk : k < KK d s) : f1_hookOf q (ar q 27 (ix (nI k))) = some (iI (hkk d s k)) := by
  have hK := KK_le d s
  have h6 := KK_lt hk
  unfold f1_hookOf
  rw [ix_nI (by omega), h.2.1 k hk, if_neg (show ¬ nI (tk d s k) < 0 from nI_nlt (b := 0) (Nat.zero_le _) (by omega)), if_neg (show ¬ (6 : Int32) ≤ nI (tk d s k) from nI_ge (b := 6) (by omega) (by decide)), ck_nI h6 (by decide), ix_nI (by omega), h.2.2 _ h6, hf_tk hs _ (Nat.le_refl _) hk]
theorem cut_no1 {x : Int32} (h : RC d q) : f1_cut N (-1) x q = some q := by
  unfold f1_cut
  rw [c_holds_f h (Or.inl (by decide)), bd_s, if_pos rfl]
theorem cut_no2 (hw : WF d) (h : RC d q) {t : Nat} (ht : t < dT d) : f1_cut N (nI t) (-1) q = some q := by
  unfold f1_cut
  rw [c_holds hw h ht, bd_s, if_neg (by decide), c_holds_f h (Or.inl (by decide)), bd_s, if_pos rfl]
theorem c_fullCut (hw : WF d) (h : RC d q) {s : Nat} (hN : 1000 ≤ N) (hs1 : 1 ≤ s) (hs : s < 2 ^ dT d) : ∃ q', f1_fullCut N (nI s) q = some (if Sq d s (KK d s) = 0 then 1 else 0, q') ∧ sameC q q' ∧ (Sq d s (KK d s) = 0 → LC d (lfB d s (KK d s - 1)) q') := by
  have hT := hw.1
  have hK6 := KK_le d s
  obtain ⟨q1, r1, s1, t1⟩ := c_takeAway hw h hN hs
  unfold f1_fullCut
  rw [r1, bd2_s]
  by_cases hh : Sq d s (KK d s) = 0
  · have hK1 := KK_pos hs1 hh
    rw [if_pos hh, if_neg (show ¬ (1 : Int32) = 0 by decide), bn_e]
    -- all rows
    obtain ⟨q2, ⟨a1, a2⟩, e2⟩ := loop_st (fun n (p : Int32 × SS) => f1_fullCut_l17 N n p.1 p.2) (fun k p => f1_fullCut_l17_B N (fun x1 x2 => k (x1, x2)) p.1 p.2) (fun n p => rfl) (fun u q => (nI u, q)) (fun u q2 => frC q1 q2 ∧ fi q2 16 = nI 0 ∧ ∀ v, v < u → ar q2 29 v = nI (lf0 d v)) 0 6 (fun q2 => f1_fullCut_l49 N N 0 q2) (by
      rintro u q2 - hu ⟨a1, a2, a3⟩
      have hR := R8 hw u
      have hp := pow8 hR
      have hp1 : 1 ≤ 2 ^ dR d u := Nat.one_le_two_pow
      refine ⟨sa q2 29 u (nI (lf0 d u)), ⟨⟨fun j hj => a1.1 j hj, fun j hj => ?_⟩, a2, fun v hv => ?_⟩, fun kk => ?_⟩
      · funext m
        rw [ar_sa, if_neg hj, a1.2 j hj]
      · rw [ar_sa, if_pos rfl]
        by_cases hvu : v = u
        · rw [if_pos hvu, hvu]
        · rw [if_neg hvu]; exact a3 v (by omega)
      · dsimp only
        unfold f1_fullCut_l17_B
        rw [if_neg (show ¬ (6 : Int32) ≤ nI u from nI_ge (b := 6) hu (by decide)), c_rowsOf hw (h.same (s1.tr a1.same)) (by omega), bd_s, ck_nI hu (by decide), ix_nI (by omega), shl1 (by omega), show nI (2 ^ dR d u) - 1 = nI (lf0 d u) from by rw [li1, pk_sub hp1]; rfl, bn_e, nI_s, bn_e]) (by
      rintro q2 - kk
      dsimp only
      unfold f1_fullCut_l17_B
      rw [if_pos (show (6 : Int32) ≤ nI 6 by decide)]) N 0 (sf q1 16 0) (by omega) (by omega) (by omega) ⟨⟨fun j hj => by rw [fi_sf, if_neg hj], fun j _ => rfl⟩, rfl, fun v hv => by omega⟩
    have L0 : LC d (lf0 d) q2 := ⟨a2.2, by rw [cost0 hw]; exact a2.1⟩
    -- forth
    obtain ⟨q3, ⟨b1, b2⟩, e3⟩ := loop_st (fun n (p : Int32 × SS) => f1_fullCut_l49 N n p.1 p.2) (fun k p => f1_fullCut_l49_B N (fun x1 x2 => k (x1, x2)) p.1 p.2) (fun n p => rfl) (fun k q => (nI k, q)) (fun k q3 => frC q1 q3 ∧ LC d (lfF d s (min k (KK d s - 1))) q3) 0 (KK d s) (fun q3 => f1_fullCut_l90 N N (nI (KK d s) - 1) q3) (by
      rintro k q3 - hk ⟨b1, b2⟩
      have hRC := h.same (s1.tr b1.same)
      have hTC := t1.fr b1
      have eh := hookOf_tk hs hTC hk
      have et := hTC.2.1 k hk
      have htT := (tk_bit hs hk).1
      by_cases hk1 : k + 1 < KK d s
      · have hhk := hk_T hs hk1
        obtain ⟨q4, c1, c2, c3⟩ := c_cut (N := N) hw hRC (LFF d s k) hN hhk.1 htT hhk.2 (by rw [Nat.min_eq_left (by omega)] at b2; exact b2)
        refine ⟨q4, ⟨b1.tr c2, ?_⟩, fun kk => ?_⟩
        · rw [Nat.min_eq_left (by omega)]; exact c3
        · dsimp only
          unfold f1_fullCut_l49_B
          rw [hTC.1, if_neg (nI_ge hk (by omega)), ck_nI (by omega) (by decide), eh, bd_s, ck_nI (by omega) (by decide), ix_nI (by omega), et, iI_lt (by omega), c1, bd_s, nI_s, bn_e]
      · refine ⟨q3, ⟨b1, ?_⟩, fun kk => ?_⟩
        · rw [show min (k + 1) (KK d s - 1) = min k (KK d s - 1) by omega]; exact b2
        · dsimp only
          unfold f1_fullCut_l49_B
          rw [hTC.1, if_neg (nI_ge hk (by omega)), ck_nI (by omega) (by decide), eh, bd_s, ck_nI (by omega) (by decide), hk_out hh (by omega), iI_6 (by decide), cut_no1 hRC, bd_s, nI_s, bn_e]) (by
      rintro q3 ⟨b1, b2⟩ kk
      dsimp only
      unfold f1_fullCut_l49_B
      rw [(t1.fr b1).1, if_pos (nI_le (Nat.le_refl _) (by omega)), bn_e]) N 0 q2 (by omega) (by omega) (by omega) ⟨a1, by rw [Nat.zero_min]; exact L0⟩
    rw [Nat.min_eq_right (show KK d s - 1 ≤ KK d s by omega)] at b2
    -- and back
    obtain ⟨q5, ⟨d1, d2⟩, e5⟩ := loop_st (fun n (p : Int32 × SS) => f1_fullCut_l90 N n p.1 p.2) (fun k p => f1_fullCut_l90_B N (fun x1 x2 => k (x1, x2)) p.1 p.2) (fun n p => rfl) (fun j q => (nI (KK d s - j) - 1, q)) (fun j q5 => frC q1 q5 ∧ LC d (lfB d s (j - 1)) q5) 0 (KK d s) (fun q5 => some (1, q5)) (by
      rintro j q5 - hj ⟨d1, d2⟩
      have hRC := h.same (s1.tr d1.same)
      have hTC := t1.fr d1
      obtain ⟨k, hk⟩ : ∃ k, k = KK d s - 1 - j := ⟨_, rfl⟩
      have eh := hookOf_tk (k := k) hs hTC (by omega)
      have et := hTC.2.1 k (by omega)
      have htT := (tk_bit (k := k) hs (by omega)).1
      have ek : nI (KK d s - j) - 1 = nI k := by rw [li1, pk_sub (by omega), show KK d s - j - 1 = k by omega]
      have ek2 : nI k + (-1) = nI (KK d s - (j + 1)) - 1 := by rw [show KK d s - (j + 1) = k by omega, Int32.sub_eq_add_neg]
      by_cases hj0 : j = 0
      · refine ⟨q5, ⟨d1, ?_⟩, fun kk => ?_⟩
        · rw [show j + 1 - 1 = j - 1 by omega]; exact d2
        · dsimp only
          unfold f1_fullCut_l90_B
          rw [ek, if_neg (show ¬ nI k < 0 from nI_nlt (b := 0) (Nat.zero_le _) (by omega)), ck_nI (by omega) (by decide), ck_nI (by omega) (by decide), eh, bd_s, hk_out hh (show k + 1 = KK d s by omega), iI_6 (by decide), ix_nI (by omega), et, cut_no2 hw hRC htT, bd_s, ek2, bn_e]
      · have hhk := hk_T (k := k) hs (by omega)
        obtain ⟨q6, c1, c2, c3⟩ := c_cut (N := N) hw hRC (LFB d s (j - 1)) hN htT hhk.1 (fun e => hhk.2 e.symm) d2
        refine ⟨q6, ⟨d1.tr c2, ?_⟩, fun kk => ?_⟩
        · rw [show j + 1 - 1 = (j - 1) + 1 by omega]
          show LC d (cutP d (lfB d s (j - 1)) (tk d s (KK d s - 2 - (j - 1))) (hkk d s (KK d s - 2 - (j - 1)))) q6
          rw [show KK d s - 2 - (j - 1) = k by omega]
          exact c3
        · dsimp only
          unfold f1_fullCut_l90_B
          rw [ek, if_neg (show ¬ nI k < 0 from nI_nlt (b := 0) (Nat.zero_le _) (by omega)), ck_nI (by omega) (by decide), ck_nI (by omega) (by decide), eh, bd_s, ix_nI (by omega), et, iI_lt (by omega), c1, bd_s, ek2, bn_e]) (by
      rintro q5 - kk
      dsimp only
      unfold f1_fullCut_l90_B
      rw [Nat.sub_self, if_pos (show nI 0 - 1 < 0 by decide)]) N 0 q3 (by omega) (by omega) (by omega) ⟨b1, b2⟩
    refine ⟨q5, ?_, s1.tr d1.same, fun _ => d2⟩
    exact Eq.trans e2 (Eq.trans e3 e5)
  · rw [if_neg hh, if_pos rfl]
    exact ⟨q1, rfl, s1, fun z => absurd z hh⟩
theorem m_cutAll (hw : WF d) (h : RMk d q) {s : Nat} (hN : 1000 ≤ N) (hs1 : 1 ≤ s) (hs : s < 2 ^ dT d) (hh : Sq d s (KK d s) = 0) (t1 : TM d s q) : ∃ q', f9_cutAll N q = some q' ∧ frM q q' ∧ LM d (lfB d s (KK d s - 1)) q' := by
  have hT := hw.1
  have hK6 := KK_le d s
  have hK1 := KK_pos hs1 hh
  have hr := h.2.2.2.2.2.2.1
  obtain ⟨q2, ⟨a1, L0⟩, e2⟩ := loop_st (fun n (p : Int32 × SS) => f9_cutAll_l2 N n p.1 p.2) (fun k p => f9_cutAll_l2_B N (fun x1 x2 => k (x1, x2)) p.1 p.2) (fun n p => rfl) (fun u q => (nI u, q)) (fun u q2 => frM q q2 ∧ ∀ v, v < u → ar q2 24 v = nI (lf0 d v)) 0 (dT d) (fun q2 => f9_cutAll_l34 N N 0 q2) (by
    rintro u q2 - hu ⟨a1, a3⟩
    have hR := R8 hw u
    have hp := pow8 hR
    have hp1 : 1 ≤ 2 ^ dR d u := Nat.one_le_two_pow
    have e3 : ar q2 3 u = nI (dR d u) := by rw [a1.2 3 (by decide)]; exact hr u (by omega)
    refine ⟨sa q2 24 u (nI (lf0 d u)), ⟨⟨fun j => a1.1 j, fun j hj => ?_⟩, fun v hv => ?_⟩, fun kk => ?_⟩
    · funext m
      rw [ar_sa, if_neg hj, a1.2 j hj]
    · rw [ar_sa, if_pos rfl]
      by_cases hvu : v = u
      · rw [if_pos hvu, hvu]
      · rw [if_neg hvu]; exact a3 v (by omega)
    · dsimp only
      unfold f9_cutAll_l2_B
      rw [a1.1 0, h.1, if_neg (nI_ge hu (by omega)), ck_nI (by omega) (by decide), ck_nI (by omega) (by decide), ix_nI (by omega), e3, shl1 (by omega), show nI (2 ^ dR d u) - 1 = nI (lf0 d u) from by rw [li1, pk_sub hp1]; rfl, bn_e, nI_s, bn_e]) (by
    rintro q2 ⟨a1, -⟩ kk
    dsimp only
    unfold f9_cutAll_l2_B
    rw [a1.1 0, h.1, if_pos (nI_le (Nat.le_refl _) (by omega))]) N 0 q (by omega) (by omega) (by omega) ⟨frM.rf, fun v hv => by omega⟩
  obtain ⟨q3, ⟨b1, b2⟩, e3⟩ := loop_st (fun n (p : Int32 × SS) => f9_cutAll_l34 N n p.1 p.2) (fun k p => f9_cutAll_l34_B N (fun x1 x2 => k (x1, x2)) p.1 p.2) (fun n p => rfl) (fun k q => (nI k, q)) (fun k q3 => frM q q3 ∧ LM d (lfF d s k) q3) 0 (KK d s - 1) (fun q3 => f9_cutAll_l78 N N (nI (KK d s - 1) - 1) q3) (by
    rintro k q3 - hk ⟨b1, b2⟩
    have hRM := h.same b1.same
    have hTM := t1.fr b1
    have et := hTM.2.1 k (by omega)
    have h6 := KK_lt (show k < KK d s by omega)
    have eh := hTM.2.2 _ h6
    rw [hf_tk hs _ (Nat.le_refl _) (show k < KK d s by omega)] at eh
    have htT := (tk_bit hs (show k < KK d s by omega)).1
    have hhk := hk_T hs (show k + 1 < KK d s by omega)
    obtain ⟨q4, c1, c2, c3⟩ := m_cut (N := N) hw hRM (LFF d s k) hN hhk.1 htT hhk.2 b2
    refine ⟨q4, ⟨b1.tr c2, c3⟩, fun kk => ?_⟩
    dsimp only
    unfold f9_cutAll_l34_B
    rw [hTM.1, show nI (KK d s) - 1 = nI (KK d s - 1) from by rw [li1, pk_sub hK1], if_neg (nI_ge hk (by omega)), ck_nI (by omega) (by decide), ix_nI (by omega), et, ck_nI h6 (by decide), ck_nI (by omega) (by decide), ix_nI (by omega), eh, iI_lt (by omega), c1, bd_s, nI_s, bn_e]) (by
    rintro q3 ⟨b1, b2⟩ kk
    dsimp only
    unfold f9_cutAll_l34_B
    rw [(t1.fr b1).1, show nI (KK d s) - 1 = nI (KK d s - 1) from by rw [li1, pk_sub hK1], if_pos (nI_le (Nat.le_refl _) (by omega)), bn_e]
    congr 1
    rw [← pk_sub hK1, ← li1]
    rw [Int32.sub_eq_add_neg, Int32.sub_eq_add_neg, Int32.sub_eq_add_neg, Int32.add_assoc]
    rfl) N 0 q2 (by omega) (by omega) (by omega) ⟨a1, L0⟩
  obtain ⟨q5, ⟨d1, d2⟩, e5⟩ := loop_st (fun n (p : Int32 × SS) => f9_cutAll_l78 N n p.1 p.2) (fun k p => f9_cutAll_l78_B N (fun x1 x2 => k (x1, x2)) p.1 p.2) (fun n p => rfl) (fun j q => (nI (KK d s - 1 - j) - 1, q)) (fun j q5 => frM q q5 ∧ LM d (lfB d s j) q5) 0 (KK d s - 1) (fun q5 => some q5) (by
    rintro j q5 - hj ⟨d1, d2⟩
    have hRM := h.same d1.same
    have hTM := t1.fr d1
    obtain ⟨k, hk⟩ : ∃ k, k = KK d s - 2 - j := ⟨_, rfl⟩
    have et := hTM.2.1 k (by omega)
    have h6 := KK_lt (show k < KK d s by omega)
    have eh := hTM.2.2 _ h6
    rw [hf_tk hs _ (Nat.le_refl _) (show k < KK d s by omega)] at eh
    have htT := (tk_bit hs (show k < KK d s by omega)).1
    have hhk := hk_T hs (show k + 1 < KK d s by omega)
    have ek : nI (KK d s - 1 - j) - 1 = nI k := by rw [li1, pk_sub (by omega), show KK d s - 1 - j - 1 = k by omega]
    have ek2 : nI k + (-1) = nI (KK d s - 1 - (j + 1)) - 1 := by rw [show KK d s - 1 - (j + 1) = k by omega, Int32.sub_eq_add_neg]
    obtain ⟨q6, c1, c2, c3⟩ := m_cut (N := N) hw hRM (LFB d s j) hN htT hhk.1 (fun e => hhk.2 e.symm) d2
    refine ⟨q6, ⟨d1.tr c2, ?_⟩, fun kk => ?_⟩
    · show LM d (cutP d (lfB d s j) (tk d s (KK d s - 2 - j)) (hkk d s (KK d s - 2 - j))) q6
      rw [← hk]
      exact c3
    · dsimp only
      unfold f9_cutAll_l78_B
      rw [ek, if_neg (show ¬ nI k < 0 from nI_nlt (b := 0) (Nat.zero_le _) (by omega)), ck_nI (by omega) (by decide), ck_nI (by omega) (by decide), ix_nI (by omega), et, ck_nI h6 (by decide), ix_nI (by omega), eh, iI_lt (by omega), c1, bd_s, ek2, bn_e]) (by
    rintro q5 - kk
    dsimp only
    unfold f9_cutAll_l78_B
    rw [Nat.sub_self, if_pos (show nI 0 - 1 < 0 by decide)]) N 0 q3 (by omega) (by omega) (by omega) ⟨b1, b2⟩
  exact ⟨q5, Eq.trans e2 (Eq.trans e3 e5), d1, d2⟩
theorem tk_in {s k : Nat} (hs : s < 2 ^ dT d) (hk : k < KK d s) : s.testBit (tk d s k) = true := by
  have key : ∀ k u, (Sq d s k).testBit u = true → s.testBit u = true := by
    intro k
    induction k with
    | zero => exact fun u h => h
    | succ k ih =>
      intro u hu
      have hsq : Sq d s (k + 1) = if gn d (Sq d s k) < 6 then andn (Sq d s k) (2 ^ gn d (Sq d s k)) else Sq d s k := rfl
      rw [hsq] at hu
      by_cases hg : gn d (Sq d s k) < 6
      · rw [if_pos hg, andn_bit, Bool.and_eq_true] at hu
        exact ih u hu.1
      · rw [if_neg hg] at hu
        exact ih u hu
  exact key k _ (tk_bit hs hk).2
theorem hk_s {s k : Nat} (hs : s < 2 ^ dT d) (hk : k + 1 < KK d s) : s.testBit (hkk d s k) = true := by
  have key : ∀ k u, (Sq d s k).testBit u = true → s.testBit u = true := by
    intro k
    induction k with
    | zero => exact fun u h => h
    | succ k ih =>
      intro u hu
      have hsq : Sq d s (k + 1) = if gn d (Sq d s k) < 6 then andn (Sq d s k) (2 ^ gn d (Sq d s k)) else Sq d s k := rfl
      rw [hsq] at hu
      by_cases hg : gn d (Sq d s k) < 6
      · rw [if_pos hg, andn_bit, Bool.and_eq_true] at hu
        exact ih u hu.1
      · rw [if_neg hg] at hu
        exact ih u hu
  have h1 := (ff_spec (hkp d (Sq d s k) (tk d s k)) 6 0).2.2.2 (by have := hk_in hs hk; show hkk d s k < 0 + 6; omega)
  have h2 : hkp d (Sq d s k) (tk d s k) (hkk d s k) = true := h1
  unfold hkp at h2
  rw [Bool.and_eq_true, andn_bit, Bool.and_eq_true] at h2
  exact key k _ h2.1.1
theorem cutP_ne {lf : Nat → Nat} {a b u : Nat} (h : u ≠ a) : cutP d lf a b u = lf u := if_neg h
theorem lfF_out {s u : Nat} (hs : s < 2 ^ dT d) (hu : s.testBit u = false) : ∀ k, k + 1 ≤ KK d s → lfF d s k u = lf0 d u
  | 0, _ => rfl
  | k + 1, hk => by
    have h1 := hk_s hs (show k + 1 < KK d s by omega)
    show cutP d (lfF d s k) _ _ u = _
    rw [cutP_ne (fun e => by rw [← e, hu] at h1; cases h1)]
    exact lfF_out hs hu k (by omega)
theorem lfB_out {s u : Nat} (hs : s < 2 ^ dT d) (hu : s.testBit u = false) (hK : 1 ≤ KK d s) : ∀ j, j + 1 ≤ KK d s → lfB d s j u = lf0 d u
  | 0, _ => lfF_out hs hu _ (by omega)
  | j + 1, hj => by
    have h1 := tk_in (k := KK d s - 2 - j) hs (by omega)
    show cutP d (lfB d s j) _ _ u = _
    rw [cutP_ne (fun e => by rw [← e, hu] at h1; cases h1)]
    exact lfB_out hs hu hK j (by omega)
theorem op_left (hN : 1000 ≤ N) : Op_left N Sim := by
  rintro a b qC qM ⟨d, hw, hC, hM, hH⟩
  have hT := hw.1
  unfold f8_left f9_left
  rcases member_both hw hC hM a b with ⟨s, t, hs1, hs, ht, hbit, rfl, rfl, r1, r2, r3⟩ | ⟨r1, r2⟩ | ⟨r1, r2, r3⟩
  · obtain ⟨qC', c1, c2, c3⟩ := c_fullCut hw hC hN hs1 hs
    obtain ⟨qM', m1, m2, m3⟩ := m_doesHang hw hM hN hs
    rw [r1, bd_s, if_pos rfl, c1, bd2_s, r2, bd_s, if_neg (show ¬ (1 : Int32) = 0 by decide), r3, bd_s, if_neg (show ¬ (1 : Int32) = 0 by decide), m1, bd2_s]
    by_cases hh : Sq d s (KK d s) = 0
    · obtain ⟨qM2, k1, k2, k3⟩ := m_cutAll hw (hM.same m2) hN hs1 hs hh m3
      refine ⟨nI (lfB d s (KK d s - 1) t), qC', qM2, ?_, ?_, d, hw, hC.same c2, (hM.same m2).same k2.same, (hH.same m2).same k2.same⟩
      · unfold f1_rowsLeft
        rw [if_pos hh, if_neg (show ¬ (1 : Int32) = 0 by decide), if_neg (show ¬ nI t < 0 from nI_nlt (b := 0) (Nat.zero_le _) (by omega)), if_neg (show ¬ (6 : Int32) ≤ nI t from nI_ge (b := 6) (by omega) (by decide)), ck_nI (by omega) (by decide), ix_nI (by omega), (c3 hh).1 t (by omega), bd_s]
      · rw [if_pos hh, if_neg (show ¬ (1 : Int32) = 0 by decide), k1, bd_s, ck_nI (by omega) (by decide), ix_nI (by omega), k3 t ht]
    · refine ⟨-103, qC', qM', ?_, ?_, d, hw, hC.same c2, hM.same m2, hH.same m2⟩
      · rw [if_neg hh, if_pos rfl]
      · rw [if_neg hh, if_pos rfl]
  · refine ⟨-102, _, _, ?_, ?_, d, hw, hC, hM, hH⟩
    · rw [r1, bd_s, if_neg (by decide)]
    · rw [r2, bd_s, if_pos rfl]
  · refine ⟨-101, _, _, ?_, ?_, d, hw, hC, hM, hH⟩
    · rw [r1, bd_s, if_neg (by decide)]
    · rw [r2, bd_s, if_neg (show ¬ (1 : Int32) = 0 by decide), r3, bd_s, if_pos rfl]
theorem bsum_0 {f : Nat → Nat} {n : Nat} : ∀ m, (∀ u, n ≤ u → f u = 0) → bsum f (n + m) = bsum f n
  | 0, _ => rfl
  | m + 1, h => by
    show bsum f (n + m) + f (n + m) = _
    rw [bsum_0 m h, h (n + m) (by omega)]
    omega
theorem op_steps (hN : 1000 ≤ N) : Op_steps N Sim := by
  rintro a qC qM ⟨d, hw, hC, hM, hH⟩
  have hT := hw.1
  have h2 := two_pow_T hw
  unfold f8_steps f9_steps
  rcases scase a (n := 2 ^ dT d) (by omega) with ⟨s, hs1, hs, rfl⟩ | ha
  · have hs6 := s_lt hw hs
    obtain ⟨qC', c1, c2, c3⟩ := c_fullCut hw hC hN hs1 hs
    obtain ⟨qM', m1, m2, m3⟩ := m_doesHang hw hM hN hs
    rw [c_isSet hw hC hs1 hs, bd_s, if_neg (show ¬ (1 : Int32) = 0 by decide), c1, bd2_s, m_isSet hw hM hs1 hs, bd_s, if_neg (show ¬ (1 : Int32) = 0 by decide), m1, bd2_s]
    by_cases hh : Sq d s (KK d s) = 0
    · have hK1 := KK_pos hs1 hh
      obtain ⟨qM2, k1, k2, k3⟩ := m_cutAll hw (hM.same m2) hN hs1 hs hh m3
      have hM2 := (hM.same m2).same k2.same
      refine ⟨nI (cost d (lfB d s (KK d s - 1))), qC', qM2, ?_, ?_, d, hw, hC.same c2, hM2, (hH.same m2).same k2.same⟩
      · unfold f1_rowsCut
        rw [if_pos hh, if_neg (show ¬ (1 : Int32) = 0 by decide), (c3 hh).2, bd_s]
      · rw [if_pos hh, if_neg (show ¬ (1 : Int32) = 0 by decide), k1, bd_s]
        have hcost : cost d (lfB d s (KK d s - 1)) = bsum (fun u => dR d u - pc (lfB d s (KK d s - 1) u)) (dT d) := by
          have := bsum_0 (f := fun u => dR d u - pc (lfB d s (KK d s - 1) u)) (n := dT d) (6 - dT d) (fun u hu => by rw [hw.2.2.1 u hu]; omega)
          rw [show dT d + (6 - dT d) = 6 by omega] at this
          exact this
        rw [hcost]
        refine loop_run (fun n (p : Int32 × Int32 × Int32 × SS) => f9_steps_l30 N n p.1 p.2.1 p.2.2.1 p.2.2.2) (fun k p => f9_steps_l30_B N (fun x1 x2 x3 x4 => k (x1, x2, x3, x4)) p.1 p.2.1 p.2.2.1 p.2.2.2) (fun n p => rfl) (fun u => (nI s, nI (bsum (fun u => dR d u - pc (lfB d s (KK d s - 1) u)) u), nI u, qM2)) (dT d) _ (c := 0) ?_ ?_ N 0 (Nat.le_refl _) (Nat.zero_le _) (by omega)
        · intro u _ hu k
          have e1 := bit_nI (a := s) (b := u) (by omega) (by omega)
          have hR := R8 hw u
          have hl := LFB d s (KK d s - 1) u
          have hp8 := pow8 hR
          have hpc := pcR hR hl
          have e3 := hM2.2.2.2.2.2.2.1 u (by omega)
          have hs : bsum (fun u => dR d u - pc (lfB d s (KK d s - 1) u)) (u + 1) = bsum (fun u => dR d u - pc (lfB d s (KK d s - 1) u)) u + (dR d u - pc (lfB d s (KK d s - 1) u)) := rfl
          dsimp only
          rw [hs]
          unfold f9_steps_l30_B f9_steps_b68
          rw [hM2.1, if_neg (nI_ge hu (by omega)), e1]
          cases hbit : s.testBit u
          · have := lfB_out (u := u) ‹s < 2 ^ dT d› hbit hK1 (KK d s - 1) (by omega)
            rw [this]
            unfold lf0
            rw [pc_full hR, Nat.sub_self, Bool.toNat_false, if_neg (show ¬ nI 0 = 1 by decide), nI_s, bn_e, bn_e, li0, nI_add]
          · rw [Bool.toNat_true, if_pos (show nI 1 = 1 from rfl), ck_nI (by omega) (by decide), ck_nI (by omega) (by decide), ix_nI (by omega), k3 u hu, m_bitsOf hN (by omega), bd_s, e3, pk_sub hpc, nI_add, nI_s, bn_e, bn_e]
        · intro k
          dsimp only
          unfold f9_steps_l30_B
          rw [hM2.1, if_pos (nI_le (Nat.le_refl _) (by omega))]
    · refine ⟨-103, qC', qM', ?_, ?_, d, hw, hC.same c2, hM.same m2, hH.same m2⟩
      · rw [if_neg hh, if_pos rfl]
      · rw [if_neg hh, if_pos rfl]
  · refine ⟨-102, _, _, ?_, ?_, d, hw, hC, hM, hH⟩
    · rw [c_isSet_f hw hC ha, bd_s, if_pos rfl]
    · rw [m_isSet_f hw hM ha, bd_s, if_pos rfl]
end LeftSteps
