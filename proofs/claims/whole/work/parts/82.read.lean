/-! the two reading loops (v16, v11) -/
section Readv16
variable {N : Nat} {d : DB} {q : SS}
theorem c_fin_v16 (hw : WF d) (hC : RC d q) (hN : 1000 ≤ N) {b h w j : Nat} {S O W : Nat → Nat} {K : Nat → Int32} {ok : Bool} (hb : b ≤ 1) (h6 : h ≤ 6) (hS : ∀ i, i < h → 1 ≤ S i ∧ S i < 2 ^ dT d ∧ O i ≤ 8) (g : CJ0 d b h w S O W K ok j q) : ∃ q', (∀ bk x2 k, f2_read_v16_b129 N bk x2 (nI b) (nI k) q = bk x2 (nI b) (nI (k + 1)) q') ∧ frW q q' ∧ CJ d b h w S O W K ok j q' := by
  obtain ⟨h10, h11, h12, h13, hI, h21⟩ := g
  by_cases h0 : h = 0
  · subst h0
    refine ⟨q, fun bk x2 k => ?_, frW.rf, ⟨h10, h11, h12, h13, hI, h21⟩, fun i hi => absurd hi (Nat.not_lt_zero _)⟩
    unfold f2_read_v16_b129 f2_read_v16_b175
    rw [h10, if_pos (show nI 0 ≤ 0 by decide), nI_s, bn_e]
  · obtain ⟨n, rfl⟩ : ∃ n, h = n + 1 := ⟨h - 1, by omega⟩
    have hSn := hS n (by omega)
    obtain ⟨q1, r1, f1⟩ := c_pagesOf (N := N) hw hC hN hSn.1 hSn.2.1 hb
    have a1 : ∀ k, 16 ≤ k → ar q1 k = ar q k := fun k hk => f1.2.1 k (by omega) (by omega) (by omega) (by omega)
    refine ⟨sa q1 20 n (nI (pgs d (S n) b)), fun bk x2 k => ?_, f1.W.sa (by omega) _ _, ⟨by rw [fi_sa, f1.1]; exact h10, by rw [fi_sa, f1.1]; exact h11, by rw [fi_sa, f1.1]; exact h12, by rw [fi_sa, f1.1]; exact h13, fun i hi => ⟨?_, fun hi2 => ?_, fun hok => ?_⟩, fun i hi => ?_⟩, fun i hi => ?_⟩
    · unfold f2_read_v16_b129 f2_read_v16_b175
      rw [h10, if_neg (show ¬ nI (n + 1) ≤ 0 from nI_ge (a := 0) (by omega) (by omega)), if_neg (show ¬ (6 : Int32) < nI (n + 1) from nI_nlt (a := 6) h6 (by decide)), nI_p, ck_nI (by omega) (by decide), ix_nI (by omega), (hI n (by omega)).1, r1, bd2_s, ck_nI (by omega) (by decide), bn_e, nI_s, bn_e]
    · rw [gk _ _ _ _ (by decide), a1 17 (by decide)]; exact (hI i hi).1
    · rw [gi _ _ _ _ (by omega), a1 20 (by decide)]; exact (hI i hi).2.1 hi2
    · rw [gk _ _ _ _ (by decide), gk _ _ _ _ (by decide), a1 18 (by decide), a1 19 (by decide)]; exact (hI i hi).2.2 hok
    · rw [gk _ _ _ _ (by decide), a1 21 (by decide)]; exact h21 i hi
    · by_cases hin : i = n
      · subst hin; rw [ga]
      · rw [gi _ _ _ _ hin, a1 20 (by decide)]; exact (hI i hi).2.1 (by omega)
theorem c_o_v16 {b h w j L k : Nat} {S O W : Nat → Nat} {K : Nat → Int32} {ok : Bool} (g : CJ d b h w S O W K ok j q) (hL : L ≤ 40) (hk : k < L) (ex : ar q 16 k = nI 40) : ∃ q', (∀ bk, f2_read_v16_l23_B N bk (nI L) (nI b) (nI k) q = bk (nI L) (nI b) (nI (k + 1)) q') ∧ frW q q' ∧ CJ d b h w S O W K ok j q' := by
  refine ⟨q, fun bk => ?_, frW.rf, g⟩
  unfold f2_read_v16_l23_B
  rw [if_neg (nI_ge hk (by omega)), if_neg (show ¬ (40 : Int32) ≤ nI k from nI_ge (b := 40) (by omega) (by decide)), ck_nI (by omega) (by decide), ix_nI (by omega), ex, bn_e, if_pos (show nI 40 < 48 by decide)]
  unfold f2_read_v16_b60 f2_read_v16_b61
  rw [if_neg (show ¬ nI 40 = 41 by decide)]
  unfold f2_read_v16_b75
  rw [if_pos (show (0 : Int32) = 0 from rfl), if_pos (show (0 : Int32) = 0 from rfl), if_pos (show nI 40 = 40 from rfl)]
  unfold f2_read_v16_b119
  rw [if_pos (show (0 : Int32) = 0 from rfl), if_pos (show (0 : Int32) = 0 from rfl)]
  unfold f2_read_v16_b175
  rw [nI_s, bn_e]
theorem c_t_v16 (hw : WF d) (hC : RC d q) (hN : 1000 ≤ N) {b h w j L k t : Nat} {S O W : Nat → Nat} {K : Nat → Int32} {ok : Bool} (hb : b ≤ 1) (h6 : h < 6) (hS : ∀ i, i < h → 1 ≤ S i ∧ S i < 2 ^ dT d ∧ O i ≤ 8) (g : CJ d b h w S O W K ok j q) (hL : L ≤ 40) (hk : k < L) (ht : t < dT d) (ex : ar q 16 k = nI (t + 48)) : ∃ q', (∀ bk, f2_read_v16_l23_B N bk (nI L) (nI b) (nI k) q = bk (nI L) (nI b) (nI (k + 1)) q') ∧ frW q q' ∧ CJ d b (h + 1) w (uE S h (2 ^ t)) (uE O h (sb d t)) W (uK K h (nI (pgs d (2 ^ t) b))) ok j q' := by
  have hT := hw.1
  obtain ⟨q1, r1, f1, g1⟩ := c_hold hw hC hN h6 ht g
  obtain ⟨q', r2, f2, g2⟩ := c_fin_v16 hw (hC.same f1.same) hN hb (by omega) (fun i hi => by
    by_cases hin : i = h
    · subst hin
      rw [uE_self, uE_self]
      exact ⟨Nat.one_le_two_pow, Nat.pow_lt_pow_right (by decide) ht, sb_le d t⟩
    · rw [uE_ne hin, uE_ne hin]
      exact hS i (by omega)) g1
  refine ⟨q', fun bk => ?_, f1.tr f2, g2⟩
  unfold f2_read_v16_l23_B
  rw [if_neg (nI_ge hk (by omega)), if_neg (show ¬ (40 : Int32) ≤ nI k from nI_ge (b := 40) (by omega) (by decide)), ck_nI (by omega) (by decide), ix_nI (by omega), ex, bn_e, if_neg (show ¬ nI (t + 48) < 48 from nI_nlt (b := 48) (by omega) (by omega)), if_neg (show ¬ (54 : Int32) ≤ nI (t + 48) from nI_ge (b := 54) (by omega) (by decide))]
  unfold f2_read_v16_b61
  rw [if_neg (show ¬ nI (t + 48) = 41 from fun e => by
    have := (nI_eq (b := 41) (by omega) (by decide)).mp e
    omega)]
  unfold f2_read_v16_b75
  rw [if_neg (show ¬ (1 : Int32) = 0 by decide), show nI (t + 48) - 48 = nI t from by rw [li48, pk_sub (by omega)]; rfl, r1, bd_s]
  unfold f2_read_v16_b119
  rw [if_neg (show ¬ (1 : Int32) = 0 by decide), r2]
theorem c_w_v16 {b h w j L k x : Nat} {S O W : Nat → Nat} {K : Nat → Int32} {ok : Bool} (hw6 : w < 6) (g : CJ d b h w S O W K ok j q) (hL : L ≤ 40) (hk : k < L) (hx : x = 108 ∨ x = 112 ∨ x = 115) (ex : ar q 16 k = nI x) : ∃ q', (∀ bk, f2_read_v16_l23_B N bk (nI L) (nI b) (nI k) q = bk (nI L) (nI b) (nI (k + 1)) q') ∧ frW q q' ∧ CJ d b h (w + 1) S O (uE W w x) K ok j q' := by
  obtain ⟨q1, r1, f1, g1⟩ := c_way (x := x) hw6 g
  refine ⟨q1, fun bk => ?_, f1, g1⟩
  unfold f2_read_v16_l23_B
  rw [if_neg (nI_ge hk (by omega)), if_neg (show ¬ (40 : Int32) ≤ nI k from nI_ge (b := 40) (by omega) (by decide)), ck_nI (by omega) (by decide), ix_nI (by omega), ex, bn_e, if_neg (show ¬ nI x < 48 from nI_nlt (b := 48) (by omega) (by omega)), if_pos (show (54 : Int32) ≤ nI x from nI_le (a := 54) (by omega) (by omega))]
  unfold f2_read_v16_b60 f2_read_v16_b61
  rw [if_neg (show ¬ nI x = 41 from fun e => by
    have := (nI_eq (b := 41) (by omega) (by decide)).mp e
    omega)]
  unfold f2_read_v16_b75
  rw [if_pos (show (0 : Int32) = 0 from rfl), if_pos (show (0 : Int32) = 0 from rfl), if_neg (show ¬ nI x = 40 from fun e => by
    have := (nI_eq (b := 40) (by omega) (by decide)).mp e
    omega), r1, bd_s]
  unfold f2_read_v16_b119
  rw [if_pos (show (0 : Int32) = 0 from rfl), if_pos (show (0 : Int32) = 0 from rfl)]
  unfold f2_read_v16_b175
  rw [nI_s, bn_e]
theorem c_c_v16 (hw : WF d) (hC : RC d q) (hN : 1000 ≤ N) {b n m j L k o : Nat} {S O W : Nat → Nat} {K : Nat → Int32} {ok : Bool} (hb : b ≤ 1) (hn : n + 2 ≤ 6) (hm6 : m + 1 ≤ 6) (hS : ∀ i, i < n + 2 → 1 ≤ S i ∧ S i < 2 ^ dT d ∧ O i ≤ 8) (hW : W m = 108 ∨ W m = 112 ∨ W m = 115) (g : CJ d b (n + 2) (m + 1) S O W K ok j q) (ho : o ≤ 8) (hos : may d (W m) (S n) (S (n + 1)) = true → o = sto d (W m) (S n) (S (n + 1)) (O n)) (hL : L ≤ 40) (hk : k < L) (ex : ar q 16 k = nI 41) : ∃ q', (∀ bk, f2_read_v16_l23_B N bk (nI L) (nI b) (nI k) q = bk (nI L) (nI b) (nI (k + 1)) q') ∧ frW q q' ∧ CJ d b (n + 1) m (uE S n (S n ||| S (n + 1))) (uE O n o) W (uK K n (K n + K (n + 1) + nI (stc d (W m) (pgs d (S n) b) (pgs d (S (n + 1)) b) (S n) (S (n + 1)) (O n) (O (n + 1))))) (ok && may d (W m) (S n) (S (n + 1))) (j + 1) q' := by
  obtain ⟨q1, r1, f1, g1⟩ := c_join hw hC hN hn hm6 g hS hW
  have g1 := CJ0_O (O' := uE O n o) g1 (fun hok => by
    rw [Bool.and_eq_true] at hok
    rw [hos hok.2])
  obtain ⟨q', r2, f2, g2⟩ := c_fin_v16 hw (hC.same f1.same) hN hb (by omega) (fun i hi => by
    have hA := hS n (by omega)
    have hB := hS (n + 1) (by omega)
    by_cases hin : i = n
    · subst hin
      rw [uE_self, uE_self]
      exact ⟨Nat.le_trans hA.1 Nat.left_le_or, Nat.or_lt_two_pow hA.2.1 hB.2.1, ho⟩
    · rw [uE_ne hin, uE_ne hin]
      exact hS i (by omega)) g1
  refine ⟨q', fun bk => ?_, f1.tr f2, g2⟩
  unfold f2_read_v16_l23_B
  rw [if_neg (nI_ge hk (by omega)), if_neg (show ¬ (40 : Int32) ≤ nI k from nI_ge (b := 40) (by omega) (by decide)), ck_nI (by omega) (by decide), ix_nI (by omega), ex, bn_e, if_pos (show nI 41 < 48 by decide)]
  unfold f2_read_v16_b60 f2_read_v16_b61
  rw [if_pos (show nI 41 = 41 from rfl)]
  unfold f2_read_v16_b75
  rw [if_pos (show (0 : Int32) = 0 from rfl), if_neg (show ¬ (1 : Int32) = 0 by decide), r1, bd_s]
  unfold f2_read_v16_b119
  rw [if_pos (show (0 : Int32) = 0 from rfl), if_neg (show ¬ (1 : Int32) = 0 by decide), r2]
theorem m_o_v11 {h w j L k : Nat} {S O W : Nat → Nat} {K : Nat → Int32} {ok : Bool} (g : MJ h w S O W K ok j q) (hL : L ≤ 40) (hk : k < L) (ex : ar q 11 k = nI 40) : ∃ q', (∀ bk, f9_workOff_v11_l19_B N bk (nI 0) (nI L) (nI h) (nI w) (nI k) q = bk (nI 0) (nI L) (nI h) (nI w) (nI (k + 1)) q') ∧ frV q q' ∧ MJ h w S O W K ok j q' := by
  refine ⟨q, fun bk => ?_, frV.rf, g⟩
  unfold f9_workOff_v11_l19_B f9_workOff_v11_b301
  rw [nI_add, if_neg (nI_ge (by omega) (by omega)), ck_nI (by omega) (by decide), ix_nI (by omega), ex, bn_e, show f9_in (nI 40).toInt64 48 53 = some 0 from m_in_no (lo := 48) (hi := 53) (by decide) (by decide) (by decide), bd_s, if_pos rfl, if_neg (show ¬ nI 40 = 41 by decide), if_pos (show nI 40 = 40 from rfl), nI_s, bn_e]
theorem m_t_v11 (hw : WF d) (hM : RMk d q) (hN : 1000 ≤ N) {b h w j L k t : Nat} {S O W : Nat → Nat} {K : Nat → Int32} {ok : Bool} (hp : LPg d b q) (h6 : h < 6) (g : MJ h w S O W K ok j q) (hL : L ≤ 40) (hk : k < L) (ht : t < dT d) (ex : ar q 11 k = nI (t + 48)) : ∃ q', (∀ bk, f9_workOff_v11_l19_B N bk (nI 0) (nI L) (nI h) (nI w) (nI k) q = bk (nI 0) (nI L) (nI (h + 1)) (nI w) (nI (k + 1)) q') ∧ frV q q' ∧ MJ (h + 1) w (uE S h (2 ^ t)) (uE O h (sb d t)) W (uK K h (nI (pgs d (2 ^ t) b))) ok j q' := by
  have hT := hw.1
  obtain ⟨h10, h11, hI, h17⟩ := g
  have h2t : 2 ^ t < 2 ^ dT d := Nat.pow_lt_pow_right (by decide) ht
  have h64 := s_lt hw h2t
  have e13 := hp (2 ^ t) Nat.one_le_two_pow h2t
  obtain ⟨q1, hq1⟩ : ∃ x, x = sa (sa q 14 h (nI (2 ^ t))) 15 h (nI (pgs d (2 ^ t) b)) := ⟨_, rfl⟩
  have f1 : frV q q1 := by rw [hq1]; exact (frV.rf.sa (by omega) _ _).sa (by omega) _ _
  refine ⟨sa q1 16 h (nI (sb d t)), fun bk => ?_, f1.sa (by omega) _ _, ?_, ?_, fun i hi => ?_, fun i hi => ?_⟩
  · unfold f9_workOff_v11_l19_B f9_workOff_v11_b301
    rw [nI_add, if_neg (nI_ge (by omega) (by omega)), ck_nI (by omega) (by decide), ix_nI (by omega), ex, bn_e, show f9_in (nI (t + 48)).toInt64 48 53 = some 1 from m_in_ok (lo := 48) (hi := 53) (by omega) (by omega) (by decide), bd_s, if_neg (show ¬ (1 : Int32) = 0 by decide), show nI (t + 48) - 48 = nI t from by rw [li48, pk_sub (by omega)]; rfl, bn_e, ck_nI (by omega) (by decide), ix_nI (by omega), shl1 (by omega), bn_e, ck_nI h64 (by decide), ck_nI (by omega) (by decide), ix_nI (by omega), gk _ _ _ _ (show (13 : Nat) ≠ 14 by decide), e13, bn_e, ← hq1, m_sortedBy hw (hM.same f1.same) hN ht, bd_s, ck_nI (by omega) (by decide), pI_s, bn_e, nI_s, bn_e, nI_s, bn_e]
  · rw [fi_sa, hq1]; exact h10
  · rw [fi_sa, hq1]; exact h11
  · by_cases hin : i = h
    · subst hin
      rw [uE_self, uE_self, gk _ _ _ _ (by decide), ga, gk _ _ _ _ (by decide), hq1]
      exact ⟨by rw [gk _ _ _ _ (by decide), ga], rfl, fun _ => by rw [ga]; exact (if_pos rfl).symm⟩
    · rw [uE_ne hin, uE_ne hin, gk _ _ _ _ (by decide), gi _ _ _ _ hin, gk _ _ _ _ (by decide), hq1, gk _ _ _ _ (by decide), gi _ _ _ _ hin, gk _ _ _ _ (by decide), gk _ _ _ _ (by decide), gi _ _ _ _ hin, gk _ _ _ _ (by decide)]
      have := hI i (by omega)
      exact ⟨this.1, this.2.1, fun hok => (this.2.2 hok).trans (if_neg hin).symm⟩
  · rw [gk _ _ _ _ (by decide), hq1, gk _ _ _ _ (by decide), gk _ _ _ _ (by decide)]
    exact h17 i hi
theorem m_w_v11 {h w j L k x : Nat} {S O W : Nat → Nat} {K : Nat → Int32} {ok : Bool} (g : MJ h w S O W K ok j q) (hw6 : w < 6) (hL : L ≤ 40) (hk : k < L) (hx : x = 108 ∨ x = 112 ∨ x = 115) (ex : ar q 11 k = nI x) : ∃ q', (∀ bk, f9_workOff_v11_l19_B N bk (nI 0) (nI L) (nI h) (nI w) (nI k) q = bk (nI 0) (nI L) (nI h) (nI (w + 1)) (nI (k + 1)) q') ∧ frV q q' ∧ MJ h (w + 1) S O (uE W w x) K ok j q' := by
  obtain ⟨h10, h11, hI, h17⟩ := g
  refine ⟨sa q 17 w (nI x), fun bk => ?_, frV.rf.sa (by omega) _ _, h10, h11, fun i hi => ?_, fun i hi => ?_⟩
  · unfold f9_workOff_v11_l19_B f9_workOff_v11_b301
    rw [nI_add, if_neg (nI_ge (by omega) (by omega)), ck_nI (by omega) (by decide), ix_nI (by omega), ex, bn_e, show f9_in (nI x).toInt64 48 53 = some 0 from m_in_no (lo := 48) (hi := 53) (by decide) (by decide) (by rw [nI_toInt (by omega)]; omega), bd_s, if_pos rfl, if_neg (show ¬ nI x = 41 from fun e => by
      have := (nI_eq (b := 41) (by omega) (by decide)).mp e
      omega), if_neg (show ¬ nI x = 40 from fun e => by
      have := (nI_eq (b := 40) (by omega) (by decide)).mp e
      omega), ck_nI (by omega) (by decide), ix_nI (by omega), bn_e, nI_s, bn_e, nI_s, bn_e]
  · rw [gk _ _ _ _ (by decide), gk _ _ _ _ (by decide), gk _ _ _ _ (by decide)]; exact hI i hi
  · by_cases hin : i = w
    · subst hin; rw [ga, uE_self]
    · rw [gi _ _ _ _ hin, uE_ne hin]; exact h17 i (by omega)
theorem m_c_v11 (hw : WF d) (hM : RMk d q) (hN : 1000 ≤ N) {b n m j L k : Nat} {S O W : Nat → Nat} {K : Nat → Int32} {ok : Bool} (hp : LPg d b q) (hn : n + 2 ≤ 6) (hm6 : m + 1 ≤ 6) (hS : ∀ i, i < n + 2 → 1 ≤ S i ∧ S i < 2 ^ dT d ∧ O i ≤ 8) (hpc : pc (S n) + pc (S (n + 1)) ≤ 6) (hW : W m = 108 ∨ W m = 112 ∨ W m = 115) (g : MJ (n + 2) (m + 1) S O W K ok j q) (hL : L ≤ 40) (hk : k < L) (ex : ar q 11 k = nI 41) : ∃ o q', o ≤ 8 ∧ (may d (W m) (S n) (S (n + 1)) = true → o = sto d (W m) (S n) (S (n + 1)) (O n)) ∧ (∀ bk, f9_workOff_v11_l19_B N bk (nI 0) (nI L) (nI (n + 2)) (nI (m + 1)) (nI k) q = bk (nI 0) (nI L) (nI (n + 1)) (nI m) (nI (k + 1)) q') ∧ frV q q' ∧ MJ (n + 1) m (uE S n (S n ||| S (n + 1))) (uE O n o) W (uK K n (K n + K (n + 1) + nI (stc d (W m) (pgs d (S n) b) (pgs d (S (n + 1)) b) (S n) (S (n + 1)) (O n) (O (n + 1))))) (ok && may d (W m) (S n) (S (n + 1))) (j + 1) q' := by
  obtain ⟨h10, h11, hI, h17⟩ := g
  have hA := hS n (by omega)
  have hB := hS (n + 1) (by omega)
  have hA6 := s_lt hw hA.2.1
  have hB6 := s_lt hw hB.2.1
  have pA := pgs_20 (b := b) hw hA.2.1
  have pB := pgs_20 (b := b) hw hB.2.1
  have hst := stc_lt (w := W m) (oA := O n) (oB := O (n + 1)) (b := b) hw hA.2.1 hB.2.1 hpc
  have hor : nI (S n) ||| nI (S (n + 1)) = nI (S n ||| S (n + 1)) := or_nI (by omega) (by omega)
  obtain ⟨q1, hq1⟩ : ∃ x, x = sf q 11 (nI (j + 1)) := ⟨_, rfl⟩
  have f1 : frV q q1 := by rw [hq1]; exact frV.rf.sf (by omega) _
  have a1 : ∀ k, ar q1 k = ar q k := fun k => by rw [hq1]; rfl
  have hM1 := hM.same f1.same
  have c1 := m_stepCost (N := N) hw hM1 hN hW hA.2.1 hB.2.1 hA.2.2 hB.2.2 pA pB (by rw [a1]; exact hp _ hA.1 hA.2.1) (by rw [a1]; exact hp _ hB.1 hB.2.1)
  obtain ⟨q2, hq2⟩ : ∃ x, x = sf q1 10 (nI (ok && may d (W m) (S n) (S (n + 1))).toNat) := ⟨_, rfl⟩
  have f2 : frV q q2 := by rw [hq2]; exact f1.sf (by omega) _
  have a2 : ∀ k, ar q2 k = ar q k := fun k => by rw [hq2, ← a1]; rfl
  obtain ⟨o, o1, o2, o3⟩ := m_stepOrder (N := N) (oA := O n) hw (hM.same f2.same) hN hW hA.2.1 hB.2.1
  have ho : o ≤ 8 := by omega
  obtain ⟨r, hr⟩ : ∃ x, x = (if may d (W m) (S n) (S (n + 1)) then nI (stc d (W m) (pgs d (S n) b) (pgs d (S (n + 1)) b) (S n) (S (n + 1)) (O n) (O (n + 1))) else -1) := ⟨_, rfl⟩
  rw [← hr] at c1
  obtain ⟨q3, hq3⟩ : ∃ x, x = sa q2 16 n (nI o) := ⟨_, rfl⟩
  have f3 : frV q q3 := by rw [hq3]; exact f2.sa (by omega) _ _
  have a3 : ∀ k, k ≠ 16 → ar q3 k = ar q k := fun k hk => by rw [hq3, gk _ _ _ _ hk, a2]
  obtain ⟨q4, hq4⟩ : ∃ x, x = sa q3 15 n (ar q 15 n + (ar q 15 (n + 1) + r)) := ⟨_, rfl⟩
  have f4 : frV q q4 := by rw [hq4]; exact f3.sa (by omega) _ _
  have a4 : ∀ k, k ≠ 15 → ar q4 k = ar q3 k := fun k hk => by rw [hq4, gk _ _ _ _ hk]
  have sel : ∀ bk, (if fi q1 10 = 0 then f9_workOff_v11_b189 N bk (nI 0) (nI L) (nI (n + 1)) (nI m) (nI k) r q1 else if r = -1 then f9_workOff_v11_b189 N bk (nI 0) (nI L) (nI (n + 1)) (nI m) (nI k) r q1 else f9_workOff_v11_b190 N bk (nI 0) (nI L) (nI (n + 1)) (nI m) (nI k) r 1 q1) = f9_workOff_v11_b190 N bk (nI 0) (nI L) (nI (n + 1)) (nI m) (nI k) r (nI (ok && may d (W m) (S n) (S (n + 1))).toNat) q1 := by
    intro bk
    have e10 : fi q1 10 = nI ok.toNat := by rw [hq1, gg _ _ _ (by decide)]; exact h10
    rw [e10]
    unfold f9_workOff_v11_b189
    cases ok with
    | false => rw [if_pos (show nI (false).toNat = 0 from rfl), Bool.false_and]; rfl
    | true =>
      rw [if_neg (show ¬ nI (true).toNat = 0 by decide), Bool.true_and, hr]
      cases may d (W m) (S n) (S (n + 1)) with
      | false => rw [if_neg Bool.false_ne_true, if_pos rfl]; rfl
      | true => rw [if_pos rfl, if_neg (nI_m1 (by omega))]; rfl
  refine ⟨o, sa q4 14 n (nI (S n ||| S (n + 1))), ho, o3, fun bk => ?_, f4.sa (by omega) _ _, ?_, ?_, fun i hi => ?_, fun i hi => ?_⟩
  · unfold f9_workOff_v11_l19_B
    rw [nI_add, if_neg (nI_ge (by omega) (by omega)), ck_nI (by omega) (by decide), ix_nI (by omega), ex, bn_e, show f9_in (nI 41).toInt64 48 53 = some 0 from m_in_no (lo := 48) (hi := 53) (by decide) (by decide) (by decide), bd_s, if_pos rfl, if_pos (show nI 41 = 41 from rfl), nI_dec, bn_e, show nI (n + 2) + -1 = nI (n + 1) from nI_dec (n + 1), bn_e, h11, nI_s, bn_e, ← hq1, nI_p, ck_nI (by omega) (by decide), ck_nI (by omega) (by decide), ck_nI (by omega) (by decide), ck_nI (by omega) (by decide), ck_nI (by omega) (by decide), ix_nI (by omega), ix_nI (by omega), ix_nI (by omega), a1, a1, a1, h17 m (by omega), (hI n (by omega)).1, (hI (n + 1) (by omega)).1, (hI n (by omega)).2.1, (hI (n + 1) (by omega)).2.1, c1, bd_s, sel]
    unfold f9_workOff_v11_b190 f9_workOff_v11_b301
    rw [cz_b, bn_e, ← hq2, nI_p, ck_nI (by omega) (by decide), ck_nI (by omega) (by decide), ck_nI (by omega) (by decide), ck_nI (by omega) (by decide), ix_nI (by omega), ix_nI (by omega), ix_nI (by omega), a2, a2, a2, h17 m (by omega), (hI n (by omega)).1, (hI (n + 1) (by omega)).1, (hI n (by omega)).2.1, o2, bd_s, ck_nI (by omega) (by decide), bn_e, ← hq3, ck_nI (by omega) (by decide), ck_nI (by omega) (by decide), ck_nI (by omega) (by decide), a3 15 (by decide), bn_e, ← hq4, ck_nI (by omega) (by decide), ck_nI (by omega) (by decide), ck_nI (by omega) (by decide), a4 14 (by decide), a3 14 (by decide), (hI n (by omega)).1, (hI (n + 1) (by omega)).1, hor, bn_e, nI_s, bn_e]
  · rw [fi_sa, hq4, fi_sa, hq3, fi_sa, hq2, gf]
  · rw [fi_sa, hq4, fi_sa, hq3, fi_sa, hq2, gg _ _ _ (by decide), hq1, gf]
  · by_cases hin : i = n
    · subst hin
      rw [uE_self, uE_self, ga, gk _ _ _ _ (by decide), a4 16 (by decide), hq3, ga, gk _ _ _ _ (by decide), hq4, ga]
      refine ⟨rfl, rfl, fun hok => ?_⟩
      rw [Bool.and_eq_true] at hok
      rw [(hI i (by omega)).2.2 hok.1, (hI (i + 1) (by omega)).2.2 hok.1, hr, hok.2, if_pos rfl]
      exact (Int32.add_assoc _ _ _).symm.trans (if_pos rfl).symm
    · rw [uE_ne hin, uE_ne hin, gi _ _ _ _ hin, gk _ _ _ _ (by decide), a4 14 (by decide), a3 14 (by decide), a4 16 (by decide), hq3, gi _ _ _ _ hin, a2, gk _ _ _ _ (by decide), hq4, gi _ _ _ _ hin, a3 15 (by decide)]
      have := hI i (by omega)
      refine ⟨this.1, this.2.1, fun hok => ?_⟩
      rw [Bool.and_eq_true] at hok
      exact (this.2.2 hok.1).trans (if_neg hin).symm
  · rw [gk _ _ _ _ (by decide), a4 17 (by decide), a3 17 (by decide)]
    exact h17 i (by omega)
/-- both read the same text -/
theorem work_v16 (hw : WF d) (hN : 1000 ≤ N) {b L : Nat} (hb : b ≤ 1) (hL : L ≤ 40) : ∀ (l : List Nat) (k fC fM : Nat) (p : List Nat × Nat × Nat) (u' : Nat) (qC qM : SS) (S O W : Nat → Nat) (K : Nat → Int32) (ok : Bool) (j : Nat) (ss ws : List Nat), k + l.length = L → l.length < fC → l.length < fM → RC d qC → RMk d qM → LPg d b qM → (∀ i, i < l.length → ar qC 16 (k + i) = nI (mj l i) ∧ ar qM 11 (k + i) = nI (mj l i)) → PO (dT d) p.1 p.2.1 p.2.2 → runL (dT d) l p = some ([], u', 1) → OJ d p.2.1 (hlS p.1 + p.2.2) (wtS p.1) S O W → CJ d b (hlS p.1 + p.2.2) (wtS p.1) S O W K ok j qC → MJ (hlS p.1 + p.2.2) (wtS p.1) S O W K ok j qM → stk (hlS p.1 + p.2.2) S ss → stk (wtS p.1) W ws → ∃ (qC' qM' : SS) (S' O' W' : Nat → Nat) (K' : Nat → Int32) (ok' : Bool) (j' : Nat), f2_read_v16_l23 N fC (nI L) (nI b) (nI k) qC = some qC' ∧ f9_workOff_v11_l19 N fM (nI 0) (nI L) (nI (hlS p.1 + p.2.2)) (nI (wtS p.1)) (nI k) qM = some qM' ∧ frW qC qC' ∧ frV qM qM' ∧ CJ d b 1 0 S' O' W' K' ok' j' qC' ∧ MJ 1 0 S' O' W' K' ok' j' qM' ∧ ok' = evL d l ss ws ok := by
  have hT := hw.1
  intro l
  induction l with
  | nil =>
    intro k fC fM p u' qC qM S O W K ok j ss ws hk hfC hfM hC hM hp ht hO hr hJ hCJ hMJ hss hws
    obtain ⟨fC, rfl⟩ : ∃ m, fC = m + 1 := ⟨fC - 1, by omega⟩
    obtain ⟨fM, rfl⟩ : ∃ m, fM = m + 1 := ⟨fM - 1, by omega⟩
    have hr : p = ([], u', 1) := Option.some.inj hr
    subst hr
    have hk : k = L := hk
    subst hk
    refine ⟨qC, qM, S, O, W, K, ok, j, ?_, ?_, frW.rf, frV.rf, hCJ, hMJ, rfl⟩
    · show f2_read_v16_l23_B N (f2_read_v16_l23 N fC) _ _ _ _ = _
      unfold f2_read_v16_l23_B
      rw [if_pos (nI_le (Nat.le_refl _) (by omega))]
    · show f9_workOff_v11_l19_B N (f9_workOff_v11_l19 N fM) _ _ _ _ _ _ = _
      unfold f9_workOff_v11_l19_B
      rw [nI_add, if_pos (nI_le (by omega) (by omega))]
  | cons x l ih =>
    intro k fC fM p u' qC qM S O W K ok j ss ws hk hfC hfM hC hM hp ht hO hr hJ hCJ hMJ hss hws
    obtain ⟨fC, rfl⟩ : ∃ m, fC = m + 1 := ⟨fC - 1, by omega⟩
    obtain ⟨fM, rfl⟩ : ∃ m, fM = m + 1 := ⟨fM - 1, by omega⟩
    rw [List.length_cons] at hk hfC hfM ht
    have ht0 := ht 0 (by omega)
    rw [Nat.add_zero, show mj (x :: l) 0 = x from rfl] at ht0
    obtain ⟨st, u, dn⟩ := p
    have hO : PO (dT d) st u dn := hO
    have hr : (match stepS (dT d) st u dn x with
      | none => none
      | some p' => runL (dT d) l p') = some ([], u', 1) := hr
    cases hs : stepS (dT d) st u dn x with
    | none => rw [hs] at hr; cases hr
    | some p' =>
      rw [hs] at hr
      have hr : runL (dT d) l p' = some ([], u', 1) := hr
      obtain ⟨st', u2, dn'⟩ := p'
      have hO' : PO (dT d) st' u2 dn' := stepS_ok hT hO hs
      have hl := PO_len hT hO
      have hl' := PO_len hT hO'
      have hwt := wtS_le st
      have hwt' := wtS_le st'
      have hh := OJ_h hw hO.2.2.2.1 hJ
      have hJ : OJ d u (hlS st + dn) (wtS st) S O W := hJ
      have hCJ : CJ d b (hlS st + dn) (wtS st) S O W K ok j qC := hCJ
      have hMJ : MJ (hlS st + dn) (wtS st) S O W K ok j qM := hMJ
      have hh : hlS st + dn ≤ pc u ∧ hlS st + dn ≤ 6 := hh
      have go : ∀ (qC1 qM1 : SS) (S1 O1 W1 : Nat → Nat) (K1 : Nat → Int32) (ok1 : Bool) (j1 : Nat) (ss1 ws1 : List Nat), (∀ bk, f2_read_v16_l23_B N bk (nI L) (nI b) (nI k) qC = bk (nI L) (nI b) (nI (k + 1)) qC1) → (∀ bk, f9_workOff_v11_l19_B N bk (nI 0) (nI L) (nI (hlS st + dn)) (nI (wtS st)) (nI k) qM = bk (nI 0) (nI L) (nI (hlS st' + dn')) (nI (wtS st')) (nI (k + 1)) qM1) → frW qC qC1 → frV qM qM1 → OJ d u2 (hlS st' + dn') (wtS st') S1 O1 W1 → CJ d b (hlS st' + dn') (wtS st') S1 O1 W1 K1 ok1 j1 qC1 → MJ (hlS st' + dn') (wtS st') S1 O1 W1 K1 ok1 j1 qM1 → stk (hlS st' + dn') S1 ss1 → stk (wtS st') W1 ws1 → evL d (x :: l) ss ws ok = evL d l ss1 ws1 ok1 → ∃ (qC' qM' : SS) (S' O' W' : Nat → Nat) (K' : Nat → Int32) (ok' : Bool) (j' : Nat), f2_read_v16_l23 N (fC + 1) (nI L) (nI b) (nI k) qC = some qC' ∧ f9_workOff_v11_l19 N (fM + 1) (nI 0) (nI L) (nI (hlS st + dn)) (nI (wtS st)) (nI k) qM = some qM' ∧ frW qC qC' ∧ frV qM qM' ∧ CJ d b 1 0 S' O' W' K' ok' j' qC' ∧ MJ 1 0 S' O' W' K' ok' j' qM' ∧ ok' = evL d (x :: l) ss ws ok := by
        intro qC1 qM1 S1 O1 W1 K1 ok1 j1 ss1 ws1 g1 g2 g3 g4 g5 g6 g7 g8 g9 g10
        obtain ⟨qC', qM', S', O', W', K', ok', j', k1, k2, k3, k4, k5, k6, k7⟩ := ih (k + 1) fC fM (st', u2, dn') u' qC1 qM1 S1 O1 W1 K1 ok1 j1 ss1 ws1 (by omega) (by omega) (by omega) (hC.same g3.same) (hM.same g4.same) (fun s s1 s2 => by rw [g4.2 13 (by decide)]; exact hp s s1 s2) (fun i hi => by
          have := ht (i + 1) (by omega)
          rw [g3.2.1 16 (by decide), g4.2 11 (by decide), show k + 1 + i = k + (i + 1) by omega]
          exact this) hO' hr g5 g6 g7 g8 g9
        exact ⟨qC', qM', S', O', W', K', ok', j', (g1 _).trans k1, (g2 _).trans k2, g3.tr k3, g4.tr k4, k5, k6, k7.trans g10.symm⟩
      show ∃ (qC' qM' : SS) (S' O' W' : Nat → Nat) (K' : Nat → Int32) (ok' : Bool) (j' : Nat), f2_read_v16_l23 N (fC + 1) (nI L) (nI b) (nI k) qC = some qC' ∧ f9_workOff_v11_l19 N (fM + 1) (nI 0) (nI L) (nI (hlS st + dn)) (nI (wtS st)) (nI k) qM = some qM' ∧ frW qC qC' ∧ frV qM qM' ∧ CJ d b 1 0 S' O' W' K' ok' j' qC' ∧ MJ 1 0 S' O' W' K' ok' j' qM' ∧ ok' = evL d (x :: l) ss ws ok
      have hss : stk (hlS st + dn) S ss := hss
      have hws : stk (wtS st) W ws := hws
      rcases stepS_held hT hO hs with ⟨e1, e2, e3, e4⟩ | ⟨t, t1, e1, t2, e2, e3, e4⟩ | ⟨e1, e2, e3, e4⟩ | ⟨e1, e2, e3, e5, e4⟩
      · rw [e1] at ht0
        obtain ⟨qC1, r1, f1, c1⟩ := c_o_v16 (N := N) hCJ hL (show k < L by omega) ht0.1
        obtain ⟨qM1, r2, f2, m1⟩ := m_o_v11 (N := N) hMJ hL (show k < L by omega) ht0.2
        exact go qC1 qM1 S O W K ok j ss ws r1 (by rw [e3, e4]; exact r2) f1 f2 (by rw [e2, e3, e4]; exact hJ) (by rw [e3, e4]; exact c1) (by rw [e3, e4]; exact m1) (by rw [e3]; exact hss) (by rw [e4]; exact hws) (by rw [e1]; rfl)
      · rw [e1] at ht0
        have hJ' := OJ_push hw hO.2.2.2.1 t1 t2 hJ
        have hh' := OJ_h hw (by rw [← e2]; exact hO'.2.2.2.1) hJ'
        obtain ⟨qC1, r1, f1, c1⟩ := c_t_v16 hw hC hN hb (show hlS st + dn < 6 by omega) hJ.1 hCJ hL (show k < L by omega) t1 ht0.1
        obtain ⟨qM1, r2, f2, m1⟩ := m_t_v11 hw hM hN hp (show hlS st + dn < 6 by omega) hMJ hL (show k < L by omega) t1 ht0.2
        exact go qC1 qM1 _ _ W _ ok j (2 ^ t :: ss) ws r1 (by rw [e3, e4]; exact r2) f1 f2 (by rw [e2, e3, e4]; exact hJ') (by rw [e3, e4]; exact c1) (by rw [e3, e4]; exact m1) (by rw [e3]; exact stk_push hss) (by rw [e4]; exact hws) (by
          rw [e1]
          show (if t + 48 = 41 then _ else if t + 48 = 40 then _ else if t + 48 < 60 then evL d l (2 ^ (t + 48 - 48) :: ss) ws ok else _) = _
          rw [if_neg (by omega), if_neg (by omega), if_pos (by omega), Nat.add_sub_cancel])
      · obtain ⟨qC1, r1, f1, c1⟩ := c_w_v16 (N := N) (show wtS st < 6 by omega) hCJ hL (show k < L by omega) e1 ht0.1
        obtain ⟨qM1, r2, f2, m1⟩ := m_w_v11 (N := N) hMJ (show wtS st < 6 by omega) hL (show k < L by omega) e1 ht0.2
        exact go qC1 qM1 S O _ K ok j ss (x :: ws) r1 (by rw [e3, e4]; exact r2) f1 f2 (by rw [e2, e3, e4]; exact OJ_way e1 hJ) (by rw [e3, e4]; exact c1) (by rw [e3, e4]; exact m1) (by rw [e3]; exact hss) (by rw [e4]; exact stk_push hws) (by
          show (if x = 41 then _ else if x = 40 then _ else if x < 60 then _ else evL d l ss (x :: ws) ok) = _
          rw [if_neg (by omega), if_neg (by omega), if_neg (by omega)])
      · rw [e1] at ht0
        obtain ⟨n, hn⟩ : ∃ n, hlS st' + dn' = n + 1 := ⟨hlS st' + dn' - 1, by omega⟩
        have hn2 : hlS st + dn = n + 2 := by omega
        rw [hn2, ← e4] at hJ hCJ hMJ
        rw [hn2] at hh hss
        rw [← e4] at hws
        obtain ⟨ss', s1, s2⟩ := stk_join (x := S n ||| S (n + 1)) hss
        obtain ⟨ws', s3, s4⟩ := stk_pop hws
        have hWm := hJ.2.1 (wtS st') (by omega)
        obtain ⟨o, qM1, o1, o2, r2, f2, m1⟩ := m_c_v11 hw hM hN hp hh.2 (show wtS st' + 1 ≤ 6 by omega) hJ.1 (OJ_two hw hO.2.2.2.1 hJ) hWm hMJ hL (show k < L by omega) ht0.2
        obtain ⟨qC1, r1, f1, c1⟩ := c_c_v16 hw hC hN hb hh.2 (show wtS st' + 1 ≤ 6 by omega) hJ.1 hWm hCJ o1 o2 hL (show k < L by omega) ht0.1
        exact go qC1 qM1 _ _ W _ _ (j + 1) _ ws' r1 (by rw [hn2, ← e4, hn]; exact r2) f1 f2 (by rw [e2, hn]; exact OJ_join hw o1 hJ rfl) (by rw [hn]; exact c1) (by rw [hn]; exact m1) (by rw [hn]; exact s2) s4 (by
          rw [e1, s1, s3]
          rfl)
end Readv16
