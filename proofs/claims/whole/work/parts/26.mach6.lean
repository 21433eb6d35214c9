section
variable {ad : Nat → Nat} {J : JT} {P : PT} {ld : Nat}
theorem t9_foretoldSize_b167 (hR : Rl wM 2 RX9 cX9_foretoldSize 11 (some .int) ad J P) (N : Nat) (q : SS) {r : Int32} (hP : P (some (.int r)) q) (bk59 : Int32 → Int64 → Int64 → Int32 → Option Int32) (hbk59 : ∀ (x1 : Int32) (x2 : Int64) (x4 : Int64) (x6 : Int32), bk59 x1 x2 x4 x6 = some r → J [(0, .ref (ad 0)), (1, .int x1), (2, .long x2), (4, .long x4), (6, .int x6)] [] q 59) (x1 : Int32) (x2 : Int64) (x6 : Int32) (s0 : Int64) (s1 : Int64) (h : f9_foretoldSize_b167 N q bk59 x1 x2 x6 s0 s1 = some r) : J [(0, .ref (ad 0)), (1, .int x1), (2, .long x2), (6, .int x6)] [.long s0, .long s1] q 167 := by
  unfold f9_foretoldSize_b167 at h
  obtain ⟨hnz, h⟩ := dzl_some h
  refine r_ldiv hR dX9_foretoldSize_167 hnz ?_
  obtain ⟨x4_168, hx, h⟩ := bn_some h
  refine r_lstore hR (i := 4) (lv' := [(4, .long x4_168), (0, .ref (ad 0)), (1, .int x1), (2, .long x2), (6, .int x6)]) dX9_foretoldSize_168 hx (by decide) rfl ?_
  obtain ⟨x6_170, hx, h⟩ := bn_some h
  refine r_iinc hR (i := 6) (lv' := [(6, .int x6_170), (4, .long x4_168), (0, .ref (ad 0)), (1, .int x1), (2, .long x2)]) dX9_foretoldSize_170 4 rfl (inc_ok hx kc_iconst_1) (by decide) rfl ?_
  refine r_goto hR (tgt := 59) dX9_foretoldSize_173 (by decide) ?_
  exact r_sub hR [2, 3, 4, 1, 0] rfl (hbk59 _ _ _ _ h)
theorem t9_foretoldSize_b147 (hR : Rl wM 2 RX9 cX9_foretoldSize 11 (some .int) ad J P) (N : Nat) (q : SS) {r : Int32} (hP : P (some (.int r)) q) (bk59 : Int32 → Int64 → Int64 → Int32 → Option Int32) (hbk59 : ∀ (x1 : Int32) (x2 : Int64) (x4 : Int64) (x6 : Int32), bk59 x1 x2 x4 x6 = some r → J [(0, .ref (ad 0)), (1, .int x1), (2, .long x2), (4, .long x4), (6, .int x6)] [] q 59) (bk75 : Int32 → Int64 → Int64 → Int32 → Int32 → Int32 → Int32 → Option Int32) (hbk75 : ∀ (x1 : Int32) (x2 : Int64) (x4 : Int64) (x6 : Int32) (x7 : Int32) (x8 : Int32) (x9 : Int32), bk75 x1 x2 x4 x6 x7 x8 x9 = some r → J [(0, .ref (ad 0)), (1, .int x1), (2, .long x2), (4, .long x4), (6, .int x6), (7, .int x7), (8, .int x8), (9, .int x9)] [] q 75) (x1 : Int32) (x2 : Int64) (x4 : Int64) (x6 : Int32) (x7 : Int32) (x8 : Int32) (x9 : Int32) (h : f9_foretoldSize_b147 N q bk59 bk75 x1 x2 x4 x6 x7 x8 x9 = some r) : J [(0, .ref (ad 0)), (1, .int x1), (2, .long x2), (4, .long x4), (6, .int x6), (7, .int x7), (8, .int x8), (9, .int x9)] [] q 147 := by
  unfold f9_foretoldSize_b147 at h
  obtain ⟨x9_147, hx, h⟩ := bn_some h
  refine r_iinc hR (i := 9) (lv' := [(9, .int x9_147), (0, .ref (ad 0)), (1, .int x1), (2, .long x2), (4, .long x4), (6, .int x6), (7, .int x7), (8, .int x8)]) dX9_foretoldSize_147 7 rfl (inc_ok hx kc_iconst_1) (by decide) rfl ?_
  refine r_goto hR (tgt := 75) dX9_foretoldSize_150 (by decide) ?_
  exact r_sub hR [1, 2, 3, 4, 5, 6, 7, 0] rfl (hbk75 _ _ _ _ _ _ _ h)
theorem t9_foretoldSize_b134 (hR : Rl wM 2 RX9 cX9_foretoldSize 11 (some .int) ad J P) (N : Nat) (q : SS) {r : Int32} (hP : P (some (.int r)) q) (bk59 : Int32 → Int64 → Int64 → Int32 → Option Int32) (hbk59 : ∀ (x1 : Int32) (x2 : Int64) (x4 : Int64) (x6 : Int32), bk59 x1 x2 x4 x6 = some r → J [(0, .ref (ad 0)), (1, .int x1), (2, .long x2), (4, .long x4), (6, .int x6)] [] q 59) (bk75 : Int32 → Int64 → Int64 → Int32 → Int32 → Int32 → Int32 → Option Int32) (hbk75 : ∀ (x1 : Int32) (x2 : Int64) (x4 : Int64) (x6 : Int32) (x7 : Int32) (x8 : Int32) (x9 : Int32), bk75 x1 x2 x4 x6 x7 x8 x9 = some r → J [(0, .ref (ad 0)), (1, .int x1), (2, .long x2), (4, .long x4), (6, .int x6), (7, .int x7), (8, .int x8), (9, .int x9)] [] q 75) (x1 : Int32) (x2 : Int64) (x4 : Int64) (x6 : Int32) (x7 : Int32) (x9 : Int32) (x10 : Int32) (s0 : Int32) (h : f9_foretoldSize_b134 N q bk59 bk75 x1 x2 x4 x6 x7 x9 x10 s0 = some r) : J [(0, .ref (ad 0)), (1, .int x1), (2, .long x2), (4, .long x4), (6, .int x6), (7, .int x7), (9, .int x9), (10, .int x10)] [.int s0] q 134 := by
  unfold f9_foretoldSize_b134 at h
  refine r_istore hR (i := 8) (lv' := [(8, .int s0), (0, .ref (ad 0)), (1, .int x1), (2, .long x2), (4, .long x4), (6, .int x6), (7, .int x7), (9, .int x9), (10, .int x10)]) dX9_foretoldSize_134 rfl (by decide) rfl ?_
  refine r_lload hR dX9_foretoldSize_136 4 rfl ?_
  refine r_iload hR dX9_foretoldSize_138 8 rfl ?_
  refine r_i2l hR dX9_foretoldSize_140 ?_
  refine r_lmul hR dX9_foretoldSize_141 ?_
  obtain ⟨x4_142, hx, h⟩ := bn_some h
  refine r_lstore hR (i := 4) (lv' := [(4, .long x4_142), (8, .int s0), (0, .ref (ad 0)), (1, .int x1), (2, .long x2), (6, .int x6), (7, .int x7), (9, .int x9), (10, .int x10)]) dX9_foretoldSize_142 hx (by decide) rfl ?_
  obtain ⟨x7_144, hx, h⟩ := bn_some h
  refine r_iinc hR (i := 7) (lv' := [(7, .int x7_144), (4, .long x4_142), (8, .int s0), (0, .ref (ad 0)), (1, .int x1), (2, .long x2), (6, .int x6), (9, .int x9), (10, .int x10)]) dX9_foretoldSize_144 6 rfl (inc_ok hx kc_iconst_1) (by decide) rfl ?_
  exact r_sub hR [3, 4, 5, 1, 6, 0, 2, 7] rfl (t9_foretoldSize_b147 hR N q hP bk59 hbk59 bk75 hbk75 _ _ _ _ _ _ _ h)
theorem t9_foretoldSize_b127 (hR : Rl wM 2 RX9 cX9_foretoldSize 11 (some .int) ad J P) (N : Nat) (q : SS) {r : Int32} (hP : P (some (.int r)) q) (bk59 : Int32 → Int64 → Int64 → Int32 → Option Int32) (hbk59 : ∀ (x1 : Int32) (x2 : Int64) (x4 : Int64) (x6 : Int32), bk59 x1 x2 x4 x6 = some r → J [(0, .ref (ad 0)), (1, .int x1), (2, .long x2), (4, .long x4), (6, .int x6)] [] q 59) (bk75 : Int32 → Int64 → Int64 → Int32 → Int32 → Int32 → Int32 → Option Int32) (hbk75 : ∀ (x1 : Int32) (x2 : Int64) (x4 : Int64) (x6 : Int32) (x7 : Int32) (x8 : Int32) (x9 : Int32), bk75 x1 x2 x4 x6 x7 x8 x9 = some r → J [(0, .ref (ad 0)), (1, .int x1), (2, .long x2), (4, .long x4), (6, .int x6), (7, .int x7), (8, .int x8), (9, .int x9)] [] q 75) (x1 : Int32) (x2 : Int64) (x4 : Int64) (x6 : Int32) (x7 : Int32) (x9 : Int32) (x10 : Int32) (h : f9_foretoldSize_b127 N q bk59 bk75 x1 x2 x4 x6 x7 x9 x10 = some r) : J [(0, .ref (ad 0)), (1, .int x1), (2, .long x2), (4, .long x4), (6, .int x6), (7, .int x7), (9, .int x9), (10, .int x10)] [] q 127 := by
  unfold f9_foretoldSize_b127 at h
  refine r_iload hR dX9_foretoldSize_127 7 rfl ?_
  refine r_goto hR (tgt := 134) dX9_foretoldSize_129 (by decide) ?_
  exact r_sub hR [0, 1, 2, 3, 4, 5, 6, 7] rfl (t9_foretoldSize_b134 hR N q hP bk59 hbk59 bk75 hbk75 _ _ _ _ _ _ _ _ h)
theorem t9_foretoldSize_l75_B (hR : Rl wM 2 RX9 cX9_foretoldSize 11 (some .int) ad J P) (N : Nat) (q : SS) {r : Int32} (hP : P (some (.int r)) q) (bk59 : Int32 → Int64 → Int64 → Int32 → Option Int32) (hbk59 : ∀ (x1 : Int32) (x2 : Int64) (x4 : Int64) (x6 : Int32), bk59 x1 x2 x4 x6 = some r → J [(0, .ref (ad 0)), (1, .int x1), (2, .long x2), (4, .long x4), (6, .int x6)] [] q 59) (bk75 : Int32 → Int64 → Int64 → Int32 → Int32 → Int32 → Int32 → Option Int32) (hbk75 : ∀ (x1 : Int32) (x2 : Int64) (x4 : Int64) (x6 : Int32) (x7 : Int32) (x8 : Int32) (x9 : Int32), bk75 x1 x2 x4 x6 x7 x8 x9 = some r → J [(0, .ref (ad 0)), (1, .int x1), (2, .long x2), (4, .long x4), (6, .int x6), (7, .int x7), (8, .int x8), (9, .int x9)] [] q 75) (x1 : Int32) (x2 : Int64) (x4 : Int64) (x6 : Int32) (x7 : Int32) (x8 : Int32) (x9 : Int32) (h : f9_foretoldSize_l75_B N q bk59 bk75 x1 x2 x4 x6 x7 x8 x9 = some r) : J [(0, .ref (ad 0)), (1, .int x1), (2, .long x2), (4, .long x4), (6, .int x6), (7, .int x7), (8, .int x8), (9, .int x9)] [] q 75 := by
  unfold f9_foretoldSize_l75_B at h
  refine r_iload hR dX9_foretoldSize_75 7 rfl ?_
  refine r_aload_n hR dX9_foretoldSize_77 rfl 0 rfl ?_
  refine g_X9_tables hR m_4_119 dX9_foretoldSize_78 ?_
  refine r_icmp_ge hR (tgt := 153) dX9_foretoldSize_81 (by decide) (fun c_81 => ?_) (fun c_81 => ?_)
  · replace h := it_t c_81 h
    refine r_lload hR dX9_foretoldSize_153 3 rfl ?_
    refine r_iload hR dX9_foretoldSize_155 5 rfl ?_
    refine r_if_le hR (tgt := 166) dX9_foretoldSize_157 (by decide) (fun c_157 => ?_) (fun c_157 => ?_)
    · replace h := it_t c_157 h
      refine r_lconst hR dX9_foretoldSize_166 kc_lconst_1 ?_
      exact r_sub hR [0, 1, 2, 4] rfl (t9_foretoldSize_b167 hR N q hP bk59 hbk59 _ _ _ _ _ h)
    · replace h := it_f c_157 h
      refine r_iload hR dX9_foretoldSize_160 6 rfl ?_
      refine r_i2l hR dX9_foretoldSize_162 ?_
      refine r_goto hR (tgt := 167) dX9_foretoldSize_163 (by decide) ?_
      exact r_sub hR [0, 1, 2, 4] rfl (t9_foretoldSize_b167 hR N q hP bk59 hbk59 _ _ _ _ _ h)
  · replace h := it_f c_81 h
    refine r_iload_n hR dX9_foretoldSize_84 rfl 1 rfl ?_
    refine r_iload hR dX9_foretoldSize_85 7 rfl ?_
    refine r_ishr hR dX9_foretoldSize_87 ?_
    refine r_iconst hR dX9_foretoldSize_88 kc_iconst_1 ?_
    refine r_iand hR dX9_foretoldSize_89 ?_
    refine r_iconst hR dX9_foretoldSize_90 kc_iconst_1 ?_
    refine r_icmp_ne hR (tgt := 147) dX9_foretoldSize_91 (by decide) (fun c_91 => ?_) (fun c_91 => ?_)
    · replace h := it_f c_91 h
      exact r_sub hR [0, 1, 2, 3, 4, 5, 6, 7] rfl (t9_foretoldSize_b147 hR N q hP bk59 hbk59 bk75 hbk75 _ _ _ _ _ _ _ h)
    · replace h := it_t c_91 h
      refine r_aload_n hR dX9_foretoldSize_94 rfl 0 rfl ?_
      refine r_iload hR dX9_foretoldSize_95 7 rfl ?_
      refine r_iload hR dX9_foretoldSize_97 4 rfl ?_
      obtain ⟨r_99, hc, h⟩ := bd_some h
      refine r_callVi hR (c9_has hc) (cf_X9_108 (by decide)) ⟨m_5_31, ms_3_9⟩ (As := [.int x9, .int x6]) (q0 := 0) (ci := 7) rfl rfl rfl rfl (rc_X9 ad _) (Nat.le_of_ble_eq_true rfl) rfl dX9_foretoldSize_99 ?_
      refine r_if_eq hR (tgt := 147) dX9_foretoldSize_102 (by decide) (fun c_102 => ?_) (fun c_102 => ?_)
      · replace h := it_t c_102 h
        exact r_sub hR [0, 1, 2, 3, 4, 5, 6, 7] rfl (t9_foretoldSize_b147 hR N q hP bk59 hbk59 bk75 hbk75 _ _ _ _ _ _ _ h)
      · replace h := it_f c_102 h
        refine r_aload_n hR dX9_foretoldSize_105 rfl 0 rfl ?_
        refine r_iload hR dX9_foretoldSize_106 7 rfl ?_
        refine r_iload hR dX9_foretoldSize_108 4 rfl ?_
        obtain ⟨r_110, hc, h⟩ := bd_some h
        refine r_callVi hR (c9_unlikeOf N hc) (cf_X9_152 (by decide)) ⟨m_5_81, ms_3_13⟩ (As := [.int x9, .int x6]) (q0 := 0) (ci := 7) rfl rfl rfl rfl (rc_X9 ad _) (Nat.le_of_ble_eq_true rfl) rfl dX9_foretoldSize_110 ?_
        refine r_istore hR (i := 10) (lv' := [(10, .int r_110), (0, .ref (ad 0)), (1, .int x1), (2, .long x2), (4, .long x4), (6, .int x6), (7, .int x7), (8, .int x8), (9, .int x9)]) dX9_foretoldSize_113 rfl (by decide) rfl ?_
        refine r_iload hR dX9_foretoldSize_115 6 rfl ?_
        refine r_if_eq hR (tgt := 127) dX9_foretoldSize_117 (by decide) (fun c_117 => ?_) (fun c_117 => ?_)
        · replace h := it_t c_117 h
          exact r_sub hR [1, 2, 3, 4, 5, 6, 8, 0] rfl (t9_foretoldSize_b127 hR N q hP bk59 hbk59 bk75 hbk75 _ _ _ _ _ _ _ h)
        · replace h := it_f c_117 h
          refine r_iload hR dX9_foretoldSize_120 0 rfl ?_
          refine r_iload hR dX9_foretoldSize_122 7 rfl ?_
          refine r_icmp_ge hR (tgt := 132) dX9_foretoldSize_124 (by decide) (fun c_124 => ?_) (fun c_124 => ?_)
          · replace h := it_t c_124 h
            refine r_iload hR dX9_foretoldSize_132 7 rfl ?_
            exact r_sub hR [1, 2, 3, 4, 5, 6, 8, 0] rfl (t9_foretoldSize_b134 hR N q hP bk59 hbk59 bk75 hbk75 _ _ _ _ _ _ _ _ h)
          · replace h := it_f c_124 h
            exact r_sub hR [1, 2, 3, 4, 5, 6, 8, 0] rfl (t9_foretoldSize_b127 hR N q hP bk59 hbk59 bk75 hbk75 _ _ _ _ _ _ _ h)
theorem t9_foretoldSize_l75 (hR : Rl wM 2 RX9 cX9_foretoldSize 11 (some .int) ad J P) (N : Nat) (q : SS) {r : Int32} (hP : P (some (.int r)) q) (bk59 : Int32 → Int64 → Int64 → Int32 → Option Int32) (hbk59 : ∀ (x1 : Int32) (x2 : Int64) (x4 : Int64) (x6 : Int32), bk59 x1 x2 x4 x6 = some r → J [(0, .ref (ad 0)), (1, .int x1), (2, .long x2), (4, .long x4), (6, .int x6)] [] q 59) : ∀ (n : Nat) (x1 : Int32) (x2 : Int64) (x4 : Int64) (x6 : Int32) (x7 : Int32) (x8 : Int32) (x9 : Int32), f9_foretoldSize_l75 N q bk59 n x1 x2 x4 x6 x7 x8 x9 = some r → J [(0, .ref (ad 0)), (1, .int x1), (2, .long x2), (4, .long x4), (6, .int x6), (7, .int x7), (8, .int x8), (9, .int x9)] [] q 75 := by
  intro n
  induction n with
  | zero => intro x1 x2 x4 x6 x7 x8 x9 h; exact mu_noneF h
  | succ n ih => intro x1 x2 x4 x6 x7 x8 x9 h; exact t9_foretoldSize_l75_B hR N q hP bk59 hbk59 _ ih x1 x2 x4 x6 x7 x8 x9 h
theorem t9_foretoldSize_l59_B (hR : Rl wM 2 RX9 cX9_foretoldSize 11 (some .int) ad J P) (N : Nat) (q : SS) {r : Int32} (hP : P (some (.int r)) q) (bk59 : Int32 → Int64 → Int64 → Int32 → Option Int32) (hbk59 : ∀ (x1 : Int32) (x2 : Int64) (x4 : Int64) (x6 : Int32), bk59 x1 x2 x4 x6 = some r → J [(0, .ref (ad 0)), (1, .int x1), (2, .long x2), (4, .long x4), (6, .int x6)] [] q 59) (x1 : Int32) (x2 : Int64) (x4 : Int64) (x6 : Int32) (h : f9_foretoldSize_l59_B N q bk59 x1 x2 x4 x6 = some r) : J [(0, .ref (ad 0)), (1, .int x1), (2, .long x2), (4, .long x4), (6, .int x6)] [] q 59 := by
  unfold f9_foretoldSize_l59_B at h
  refine r_iload hR dX9_foretoldSize_59 4 rfl ?_
  refine r_bipush hR dX9_foretoldSize_61 kc_bipush_8 ?_
  refine r_icmp_ge hR (tgt := 176) dX9_foretoldSize_63 (by decide) (fun c_63 => ?_) (fun c_63 => ?_)
  · replace h := it_t c_63 h
    refine r_lload_n hR dX9_foretoldSize_176 rfl 2 rfl ?_
    refine r_lload hR dX9_foretoldSize_177 3 rfl ?_
    obtain ⟨hnz, h⟩ := dzl_some h
    refine r_ldiv hR dX9_foretoldSize_179 hnz ?_
    refine r_l2i hR dX9_foretoldSize_180 ?_
    exact r_iret hR dX9_foretoldSize_181 rfl (rt1 hP h)
  · replace h := it_f c_63 h
    refine r_iconst hR dX9_foretoldSize_66 kc_iconst_0 ?_
    refine r_istore hR (i := 7) (lv' := [(7, .int (0 : Int32)), (0, .ref (ad 0)), (1, .int x1), (2, .long x2), (4, .long x4), (6, .int x6)]) dX9_foretoldSize_67 rfl (by decide) rfl ?_
    refine r_iconst hR dX9_foretoldSize_69 kc_iconst_0 ?_
    refine r_istore hR (i := 8) (lv' := [(8, .int (0 : Int32)), (7, .int (0 : Int32)), (0, .ref (ad 0)), (1, .int x1), (2, .long x2), (4, .long x4), (6, .int x6)]) dX9_foretoldSize_70 rfl (by decide) rfl ?_
    refine r_iconst hR dX9_foretoldSize_72 kc_iconst_0 ?_
    refine r_istore hR (i := 9) (lv' := [(9, .int (0 : Int32)), (8, .int (0 : Int32)), (7, .int (0 : Int32)), (0, .ref (ad 0)), (1, .int x1), (2, .long x2), (4, .long x4), (6, .int x6)]) dX9_foretoldSize_73 rfl (by decide) rfl ?_
    exact r_sub hR [3, 4, 5, 6, 7, 2, 1, 0] rfl (t9_foretoldSize_l75 hR N q hP bk59 hbk59 N _ _ _ _ _ _ _ h)
theorem t9_foretoldSize_l59 (hR : Rl wM 2 RX9 cX9_foretoldSize 11 (some .int) ad J P) (N : Nat) (q : SS) {r : Int32} (hP : P (some (.int r)) q) : ∀ (n : Nat) (x1 : Int32) (x2 : Int64) (x4 : Int64) (x6 : Int32), f9_foretoldSize_l59 N q n x1 x2 x4 x6 = some r → J [(0, .ref (ad 0)), (1, .int x1), (2, .long x2), (4, .long x4), (6, .int x6)] [] q 59 := by
  intro n
  induction n with
  | zero => intro x1 x2 x4 x6 h; exact mu_noneF h
  | succ n ih => intro x1 x2 x4 x6 h; exact t9_foretoldSize_l59_B hR N q hP _ ih x1 x2 x4 x6 h
theorem t9_foretoldSize_b37 (hR : Rl wM 2 RX9 cX9_foretoldSize 11 (some .int) ad J P) (N : Nat) (q : SS) {r : Int32} (hP : P (some (.int r)) q) (bk5 : Int32 → Int64 → Int32 → Option Int32) (hbk5 : ∀ (x1 : Int32) (x2 : Int64) (x4 : Int32), bk5 x1 x2 x4 = some r → J [(0, .ref (ad 0)), (1, .int x1), (2, .long x2), (4, .int x4)] [] q 5) (x1 : Int32) (x4 : Int32) (s0 : Int64) (s1 : Int64) (h : f9_foretoldSize_b37 N q bk5 x1 x4 s0 s1 = some r) : J [(0, .ref (ad 0)), (1, .int x1), (4, .int x4)] [.long s0, .long s1] q 37 := by
  unfold f9_foretoldSize_b37 at h
  refine r_lmul hR dX9_foretoldSize_37 ?_
  obtain ⟨x2_38, hx, h⟩ := bn_some h
  refine r_lstore_n hR (i := 2) (lv' := [(2, .long x2_38), (0, .ref (ad 0)), (1, .int x1), (4, .int x4)]) dX9_foretoldSize_38 hx rfl (by decide) rfl ?_
  obtain ⟨x4_39, hx, h⟩ := bn_some h
  refine r_iinc hR (i := 4) (lv' := [(4, .int x4_39), (2, .long x2_38), (0, .ref (ad 0)), (1, .int x1)]) dX9_foretoldSize_39 3 rfl (inc_ok hx kc_iconst_1) (by decide) rfl ?_
  refine r_goto hR (tgt := 5) dX9_foretoldSize_42 (by decide) ?_
  exact r_sub hR [2, 3, 1, 0] rfl (hbk5 _ _ _ h)
theorem t9_foretoldSize_l5_B (hR : Rl wM 2 RX9 cX9_foretoldSize 11 (some .int) ad J P) (N : Nat) (q : SS) {r : Int32} (hP : P (some (.int r)) q) (bk5 : Int32 → Int64 → Int32 → Option Int32) (hbk5 : ∀ (x1 : Int32) (x2 : Int64) (x4 : Int32), bk5 x1 x2 x4 = some r → J [(0, .ref (ad 0)), (1, .int x1), (2, .long x2), (4, .int x4)] [] q 5) (x1 : Int32) (x2 : Int64) (x4 : Int32) (h : f9_foretoldSize_l5_B N q bk5 x1 x2 x4 = some r) : J [(0, .ref (ad 0)), (1, .int x1), (2, .long x2), (4, .int x4)] [] q 5 := by
  unfold f9_foretoldSize_l5_B at h
  refine r_iload hR dX9_foretoldSize_5 3 rfl ?_
  refine r_aload_n hR dX9_foretoldSize_7 rfl 0 rfl ?_
  refine g_X9_tables hR m_4_119 dX9_foretoldSize_8 ?_
  refine r_icmp_ge hR (tgt := 45) dX9_foretoldSize_11 (by decide) (fun c_11 => ?_) (fun c_11 => ?_)
  · replace h := it_t c_11 h
    refine r_lload_n hR dX9_foretoldSize_45 rfl 2 rfl ?_
    refine r_lconst hR dX9_foretoldSize_46 kc_lconst_0 ?_
    refine r_lcmp hR dX9_foretoldSize_47 ?_
    refine r_if_ne hR (tgt := 53) dX9_foretoldSize_48 (by decide) (fun c_48 => ?_) (fun c_48 => ?_)
    · replace h := it_f (fun z => c_48 ((lg_cmp_eq _ _).mpr z)) h
      refine r_lconst hR dX9_foretoldSize_53 kc_lconst_1 ?_
      refine r_lstore hR (i := 4) (lv' := [(4, .long (1 : Int64)), (0, .ref (ad 0)), (1, .int x1), (2, .long x2)]) dX9_foretoldSize_54 rfl (by decide) rfl ?_
      refine r_iconst hR dX9_foretoldSize_56 kc_iconst_0 ?_
      refine r_istore hR (i := 6) (lv' := [(6, .int (0 : Int32)), (4, .long (1 : Int64)), (0, .ref (ad 0)), (1, .int x1), (2, .long x2)]) dX9_foretoldSize_57 rfl (by decide) rfl ?_
      exact r_sub hR [2, 3, 4, 1, 0] rfl (t9_foretoldSize_l59 hR N q hP N _ _ _ _ h)
    · replace h := it_t ((lg_cmp_eq _ _).mp c_48) h
      refine r_iconst hR dX9_foretoldSize_51 kc_iconst_0 ?_
      exact r_iret hR dX9_foretoldSize_52 rfl (rt1 hP h)
  · replace h := it_f c_11 h
    refine r_lload_n hR dX9_foretoldSize_14 rfl 2 rfl ?_
    refine r_iload_n hR dX9_foretoldSize_15 rfl 1 rfl ?_
    refine r_iload hR dX9_foretoldSize_16 3 rfl ?_
    refine r_ishr hR dX9_foretoldSize_18 ?_
    refine r_iconst hR dX9_foretoldSize_19 kc_iconst_1 ?_
    refine r_iand hR dX9_foretoldSize_20 ?_
    refine r_iconst hR dX9_foretoldSize_21 kc_iconst_1 ?_
    refine r_icmp_ne hR (tgt := 36) dX9_foretoldSize_22 (by decide) (fun c_22 => ?_) (fun c_22 => ?_)
    · replace h := it_f c_22 h
      refine r_lconst hR dX9_foretoldSize_36 kc_lconst_1 ?_
      exact r_sub hR [0, 1, 3] rfl (t9_foretoldSize_b37 hR N q hP bk5 hbk5 _ _ _ _ h)
    · replace h := it_t c_22 h
      refine r_aload_n hR dX9_foretoldSize_25 rfl 0 rfl ?_
      refine g_X9_rows hR m_4_122 dX9_foretoldSize_26 ?_
      refine r_iload hR dX9_foretoldSize_29 3 rfl ?_
      obtain ⟨hin, h⟩ := ck_some h
      refine ld_X9_rows hR dX9_foretoldSize_31 hin ?_
      refine r_i2l hR dX9_foretoldSize_32 ?_
      refine r_goto hR (tgt := 37) dX9_foretoldSize_33 (by decide) ?_
      exact r_sub hR [0, 1, 3] rfl (t9_foretoldSize_b37 hR N q hP bk5 hbk5 _ _ _ _ h)
theorem t9_foretoldSize_l5 (hR : Rl wM 2 RX9 cX9_foretoldSize 11 (some .int) ad J P) (N : Nat) (q : SS) {r : Int32} (hP : P (some (.int r)) q) : ∀ (n : Nat) (x1 : Int32) (x2 : Int64) (x4 : Int32), f9_foretoldSize_l5 N q n x1 x2 x4 = some r → J [(0, .ref (ad 0)), (1, .int x1), (2, .long x2), (4, .int x4)] [] q 5 := by
  intro n
  induction n with
  | zero => intro x1 x2 x4 h; exact mu_noneF h
  | succ n ih => intro x1 x2 x4 h; exact t9_foretoldSize_l5_B hR N q hP _ ih x1 x2 x4 h
theorem t9_foretoldSize (hR : Rl wM 2 RX9 cX9_foretoldSize 11 (some .int) ad J P) (N : Nat) (q : SS) {r : Int32} (hP : P (some (.int r)) q) (x1 : Int32) (h : f9_foretoldSize N q x1 = some r) : J [(0, .ref (ad 0)), (1, .int x1)] [] q 0 := by
  unfold f9_foretoldSize at h
  refine r_lconst hR dX9_foretoldSize_0 kc_lconst_1 ?_
  refine r_lstore_n hR (i := 2) (lv' := [(2, .long (1 : Int64)), (0, .ref (ad 0)), (1, .int x1)]) dX9_foretoldSize_1 rfl rfl (by decide) rfl ?_
  refine r_iconst hR dX9_foretoldSize_2 kc_iconst_0 ?_
  refine r_istore hR (i := 4) (lv' := [(4, .int (0 : Int32)), (2, .long (1 : Int64)), (0, .ref (ad 0)), (1, .int x1)]) dX9_foretoldSize_3 rfl (by decide) rfl ?_
  exact r_sub hR [2, 3, 1, 0] rfl (t9_foretoldSize_l5 hR N q hP N _ _ _ h)
theorem c9_foretoldSize (N : Nat) {x1 : Int32} {q : SS} {r : Int32} (h : f9_foretoldSize N q x1 = some r) : Ct wM 2 yX9_foretoldSize cX9_foretoldSize 11 (some .int) (fun ad => [.ref (ad 0), .int x1]) q (fun _ => some (.int r)) q :=
  ct_of (by decide) (fun _ => Nat.le_of_ble_eq_true rfl) (fun ad J hR => t9_foretoldSize hR N q ⟨rfl, rfl⟩ x1 h)
theorem t9_isSet (hR : Rl wM 2 RX9 cX9_isSet 2 (some .boolean) ad J P) (q : SS) {r : Int32} (hP : P (some (.int r)) q) (x1 : Int32) (h : f9_isSet q x1 = some r) : J [(0, .ref (ad 0)), (1, .int x1)] [] q 0 := by
  unfold f9_isSet at h
  refine r_iload_n hR dX9_isSet_0 rfl 1 rfl ?_
  refine r_i2l hR dX9_isSet_1 ?_
  refine r_lconst hR dX9_isSet_2 kc_lconst_1 ?_
  refine r_iconst hR dX9_isSet_3 kc_iconst_1 ?_
  refine r_aload_n hR dX9_isSet_4 rfl 0 rfl ?_
  refine g_X9_tables hR m_4_119 dX9_isSet_5 ?_
  refine r_ishl hR dX9_isSet_8 ?_
  refine r_iconst hR dX9_isSet_9 kc_iconst_1 ?_
  refine r_isub hR dX9_isSet_10 ?_
  refine r_i2l hR dX9_isSet_11 ?_
  obtain ⟨r_12, hc, h⟩ := bd_some h
  refine r_callSi hR (c9_in hc) (cf_X9_92 (by decide)) m_5_6 (As := [.long (Int32.toInt64 x1), .long (1 : Int64), .long (Int32.toInt64 ((jshl (1 : Int32) (fi q 0)) - (1 : Int32)))]) rfl rfl (Nat.le_of_ble_eq_true rfl) rfl dX9_isSet_12 ?_
  obtain ⟨hz, h⟩ := cz_some h
  exact r_zret hR dX9_isSet_15 rfl hz (rt1 hP h)
theorem c9_isSet {x1 : Int32} {q : SS} {r : Int32} (h : f9_isSet q x1 = some r) : Ct wM 2 yX9_isSet cX9_isSet 2 (some .boolean) (fun ad => [.ref (ad 0), .int x1]) q (fun _ => some (.int r)) q :=
  ct_of (by decide) (fun _ => Nat.le_of_ble_eq_true rfl) (fun ad J hR => t9_isSet hR q ⟨rfl, rfl⟩ x1 h)
theorem t9_sizeOf (hR : Rl wM 7 RX9 cX9_sizeOf 3 (some .int) ad J P) (N : Nat) {r : Int32} {q2 : SS} (hP : P (some (.int r)) q2) (x1 : Int32) (x2 : Int32) (q : SS) (h : f9_sizeOf N x1 x2 q = some (r, q2)) : J [(0, .ref (ad 0)), (1, .int x1), (2, .int x2)] [] q 0 := by
  unfold f9_sizeOf at h
  refine r_iload_n hR dX9_sizeOf_0 rfl 2 rfl ?_
  refine r_if_ne hR (tgt := 12) dX9_sizeOf_1 (by decide) (fun c_1 => ?_) (fun c_1 => ?_)
  · replace h := it_f c_1 h
    refine r_aload_n hR dX9_sizeOf_12 rfl 0 rfl ?_
    refine r_iload_n hR dX9_sizeOf_13 rfl 1 rfl ?_
    obtain ⟨r_14, hc, h⟩ := bd_some h
    refine r_callVi hR (c9_foretoldSize N hc) (cf_X9_183 (by decide)) ⟨m_5_130, ms_4_7⟩ (As := [.int x1]) (q0 := 0) (ci := 7) rfl rfl rfl rfl (rc_X9 ad _) (Nat.le_of_ble_eq_true rfl) rfl dX9_sizeOf_14 ?_
    exact r_iret hR dX9_sizeOf_17 rfl (rt2 hP h)
  · replace h := it_t c_1 h
    refine r_aload_n hR dX9_sizeOf_4 rfl 0 rfl ?_
    refine r_iload_n hR dX9_sizeOf_5 rfl 1 rfl ?_
    obtain ⟨r_6, q_6, hc, h⟩ := bd2_some h
    refine r_callVi hR (c9_trueSize N hc) (cf_X9_180 (by decide)) ⟨m_5_102, ms_4_0⟩ (As := [.int x1]) (q0 := 0) (ci := 7) rfl rfl rfl rfl (rc_X9 ad _) (Nat.le_of_ble_eq_true rfl) rfl dX9_sizeOf_6 ?_
    refine r_goto hR (tgt := 17) dX9_sizeOf_9 (by decide) ?_
    exact r_iret hR dX9_sizeOf_17 rfl (rt2 hP h)
theorem c9_sizeOf (N : Nat) {x1 : Int32} {x2 : Int32} {q : SS} {r : Int32} {q2 : SS} (h : f9_sizeOf N x1 x2 q = some (r, q2)) : Ct wM 7 yX9_sizeOf cX9_sizeOf 3 (some .int) (fun ad => [.ref (ad 0), .int x1, .int x2]) q (fun _ => some (.int r)) q2 :=
  ct_of (by decide) (fun _ => Nat.le_of_ble_eq_true rfl) (fun ad J hR => t9_sizeOf hR N ⟨rfl, rfl⟩ x1 x2 q h)
theorem t9_size (hR : Rl wM 8 RX9 cX9_size 3 (some .int) ad J P) (N : Nat) {r : Int32} {q2 : SS} (hP : P (some (.int r)) q2) (x1 : Int32) (x2 : Int32) (q : SS) (h : f9_size N x1 x2 q = some (r, q2)) : J [(0, .ref (ad 0)), (1, .int x1), (2, .int x2)] [] q 0 := by
  unfold f9_size at h
  refine r_aload_n hR dX9_size_0 rfl 0 rfl ?_
  refine r_iload_n hR dX9_size_1 rfl 1 rfl ?_
  obtain ⟨r_2, hc, h⟩ := bd_some h
  refine r_callVi hR (c9_isSet hc) (cf_X9_186 (by decide)) ⟨m_5_94, ms_3_14⟩ (As := [.int x1]) (q0 := 0) (ci := 7) rfl rfl rfl rfl (rc_X9 ad _) (Nat.le_of_ble_eq_true rfl) rfl dX9_size_2 ?_
  refine r_if_eq hR (tgt := 27) dX9_size_5 (by decide) (fun c_5 => ?_) (fun c_5 => ?_)
  · replace h := it_t c_5 h
    refine r_bipush hR dX9_size_27 kc_bipush_m102 ?_
    exact r_iret hR dX9_size_29 rfl (rt2 hP h)
  · replace h := it_f c_5 h
    refine r_iload_n hR dX9_size_8 rfl 2 rfl ?_
    refine r_i2l hR dX9_size_9 ?_
    refine r_lconst hR dX9_size_10 kc_lconst_0 ?_
    refine r_lconst hR dX9_size_11 kc_lconst_1 ?_
    obtain ⟨r_12, hc, h⟩ := bd_some h
    refine r_callSi hR (c9_in hc) (cf_X9_92 (by decide)) m_5_6 (As := [.long (Int32.toInt64 x2), .long (0 : Int64), .long (1 : Int64)]) rfl rfl (Nat.le_of_ble_eq_true rfl) rfl dX9_size_12 ?_
    refine r_if_eq hR (tgt := 27) dX9_size_15 (by decide) (fun c_15 => ?_) (fun c_15 => ?_)
    · replace h := it_t c_15 h
      refine r_bipush hR dX9_size_27 kc_bipush_m102 ?_
      exact r_iret hR dX9_size_29 rfl (rt2 hP h)
    · replace h := it_f c_15 h
      refine r_aload_n hR dX9_size_18 rfl 0 rfl ?_
      refine r_iload_n hR dX9_size_19 rfl 1 rfl ?_
      refine r_iload_n hR dX9_size_20 rfl 2 rfl ?_
      obtain ⟨r_21, q_21, hc, h⟩ := bd2_some h
      refine r_callVi hR (c9_sizeOf N hc) (cf_X9_189 (by decide)) ⟨m_5_98, ms_3_15⟩ (As := [.int x1, .int x2]) (q0 := 0) (ci := 7) rfl rfl rfl rfl (rc_X9 ad _) (Nat.le_of_ble_eq_true rfl) rfl dX9_size_21 ?_
      refine r_goto hR (tgt := 29) dX9_size_24 (by decide) ?_
      exact r_iret hR dX9_size_29 rfl (rt2 hP h)
theorem c9_size (N : Nat) {x1 : Int32} {x2 : Int32} {q : SS} {r : Int32} {q2 : SS} (h : f9_size N x1 x2 q = some (r, q2)) : Ct wM 8 yX9_size cX9_size 3 (some .int) (fun ad => [.ref (ad 0), .int x1, .int x2]) q (fun _ => some (.int r)) q2 :=
  ct_of (by decide) (fun _ => Nat.le_of_ble_eq_true rfl) (fun ad J hR => t9_size hR N ⟨rfl, rfl⟩ x1 x2 q h)
theorem t9_pagesOf_l2_B (hR : Rl wM 8 RX9 cX9_pagesOf 4 (some .int) ad J P) (N : Nat) {r : Int32} {q2 : SS} (hP : P (some (.int r)) q2) (bk2 : Int32 → Int32 → Int32 → SS → Option (Int32 × SS)) (hbk2 : ∀ (x1 : Int32) (x2 : Int32) (x3 : Int32) (q : SS), bk2 x1 x2 x3 q = some (r, q2) → J [(0, .ref (ad 0)), (1, .int x1), (2, .int x2), (3, .int x3)] [] q 2) (x1 : Int32) (x2 : Int32) (x3 : Int32) (q : SS) (h : f9_pagesOf_l2_B N bk2 x1 x2 x3 q = some (r, q2)) : J [(0, .ref (ad 0)), (1, .int x1), (2, .int x2), (3, .int x3)] [] q 2 := by
  unfold f9_pagesOf_l2_B at h
  refine r_iload_n hR dX9_pagesOf_2 rfl 3 rfl ?_
  refine r_aload_n hR dX9_pagesOf_3 rfl 0 rfl ?_
  refine g_X9_tables hR m_4_119 dX9_pagesOf_4 ?_
  refine r_icmp_ge hR (tgt := 39) dX9_pagesOf_7 (by decide) (fun c_7 => ?_) (fun c_7 => ?_)
  · replace h := it_t c_7 h
    refine r_aload_n hR dX9_pagesOf_39 rfl 0 rfl ?_
    refine r_iload_n hR dX9_pagesOf_40 rfl 1 rfl ?_
    refine r_iload_n hR dX9_pagesOf_41 rfl 2 rfl ?_
    obtain ⟨r_42, q_42, hc, h⟩ := bd2_some h
    refine r_callVi hR (c9_sizeOf N hc) (cf_X9_189 (by decide)) ⟨m_5_98, ms_3_15⟩ (As := [.int x1, .int x2]) (q0 := 0) (ci := 7) rfl rfl rfl rfl (rc_X9 ad _) (Nat.le_of_ble_eq_true rfl) rfl dX9_pagesOf_42 ?_
    refine r_aload_n hR dX9_pagesOf_45 rfl 0 rfl ?_
    refine g_X9_wide hR m_4_124 dX9_pagesOf_46 ?_
    obtain ⟨r_49, hc, h⟩ := bd_some h
    refine r_callSi hR (c9_up hc) (cf_X9_143 (by decide)) m_5_69 (As := [.int r_42, .int (fi q_42 1)]) rfl rfl (Nat.le_of_ble_eq_true rfl) rfl dX9_pagesOf_49 ?_
    exact r_iret hR dX9_pagesOf_52 rfl (rt2 hP h)
  · replace h := it_f c_7 h
    refine r_iload_n hR dX9_pagesOf_10 rfl 1 rfl ?_
    refine r_iconst hR dX9_pagesOf_11 kc_iconst_1 ?_
    refine r_iload_n hR dX9_pagesOf_12 rfl 3 rfl ?_
    refine r_ishl hR dX9_pagesOf_13 ?_
    refine r_icmp_ne hR (tgt := 33) dX9_pagesOf_14 (by decide) (fun c_14 => ?_) (fun c_14 => ?_)
    · replace h := it_f c_14 h
      obtain ⟨x3_33, hx, h⟩ := bn_some h
      refine r_iinc hR (i := 3) (lv' := [(3, .int x3_33), (0, .ref (ad 0)), (1, .int x1), (2, .int x2)]) dX9_pagesOf_33 3 rfl (inc_ok hx kc_iconst_1) (by decide) rfl ?_
      refine r_goto hR (tgt := 2) dX9_pagesOf_36 (by decide) ?_
      exact r_sub hR [1, 2, 3, 0] rfl (hbk2 _ _ _ _ h)
    · replace h := it_t c_14 h
      refine r_aload_n hR dX9_pagesOf_17 rfl 0 rfl ?_
      refine g_X9_rows hR m_4_122 dX9_pagesOf_18 ?_
      refine r_iload_n hR dX9_pagesOf_21 rfl 3 rfl ?_
      obtain ⟨hin, h⟩ := ck_some h
      refine ld_X9_rows hR dX9_pagesOf_22 hin ?_
      refine r_aload_n hR dX9_pagesOf_23 rfl 0 rfl ?_
      refine g_X9_pers hR m_4_121 dX9_pagesOf_24 ?_
      refine r_iload_n hR dX9_pagesOf_27 rfl 3 rfl ?_
      obtain ⟨hin, h⟩ := ck_some h
      refine ld_X9_pers hR dX9_pagesOf_28 hin ?_
      obtain ⟨r_29, hc, h⟩ := bd_some h
      refine r_callSi hR (c9_up hc) (cf_X9_143 (by decide)) m_5_69 (As := [.int (ar q 3 (ix x3)), .int (ar q 2 (ix x3))]) rfl rfl (Nat.le_of_ble_eq_true rfl) rfl dX9_pagesOf_29 ?_
      exact r_iret hR dX9_pagesOf_32 rfl (rt2 hP h)
theorem t9_pagesOf_l2 (hR : Rl wM 8 RX9 cX9_pagesOf 4 (some .int) ad J P) (N : Nat) {r : Int32} {q2 : SS} (hP : P (some (.int r)) q2) : ∀ (n : Nat) (x1 : Int32) (x2 : Int32) (x3 : Int32) (q : SS), f9_pagesOf_l2 N n x1 x2 x3 q = some (r, q2) → J [(0, .ref (ad 0)), (1, .int x1), (2, .int x2), (3, .int x3)] [] q 2 := by
  intro n
  induction n with
  | zero => intro x1 x2 x3 q h; exact mu_noneF h
  | succ n ih => intro x1 x2 x3 q h; exact t9_pagesOf_l2_B hR N hP _ ih x1 x2 x3 q h
theorem t9_pagesOf (hR : Rl wM 8 RX9 cX9_pagesOf 4 (some .int) ad J P) (N : Nat) {r : Int32} {q2 : SS} (hP : P (some (.int r)) q2) (x1 : Int32) (x2 : Int32) (q : SS) (h : f9_pagesOf N x1 x2 q = some (r, q2)) : J [(0, .ref (ad 0)), (1, .int x1), (2, .int x2)] [] q 0 := by
  unfold f9_pagesOf at h
  refine r_iconst hR dX9_pagesOf_0 kc_iconst_0 ?_
  refine r_istore_n hR (i := 3) (lv' := [(3, .int (0 : Int32)), (0, .ref (ad 0)), (1, .int x1), (2, .int x2)]) dX9_pagesOf_1 rfl rfl (by decide) rfl ?_
  exact r_sub hR [1, 2, 3, 0] rfl (t9_pagesOf_l2 hR N hP N _ _ _ _ h)
theorem c9_pagesOf (N : Nat) {x1 : Int32} {x2 : Int32} {q : SS} {r : Int32} {q2 : SS} (h : f9_pagesOf N x1 x2 q = some (r, q2)) : Ct wM 8 yX9_pagesOf cX9_pagesOf 4 (some .int) (fun ad => [.ref (ad 0), .int x1, .int x2]) q (fun _ => some (.int r)) q2 :=
  ct_of (by decide) (fun _ => Nat.le_of_ble_eq_true rfl) (fun ad J hR => t9_pagesOf hR N ⟨rfl, rfl⟩ x1 x2 q h)
theorem t9_pages (hR : Rl wM 9 RX9 cX9_pages 3 (some .int) ad J P) (N : Nat) {r : Int32} {q2 : SS} (hP : P (some (.int r)) q2) (x1 : Int32) (x2 : Int32) (q : SS) (h : f9_pages N x1 x2 q = some (r, q2)) : J [(0, .ref (ad 0)), (1, .int x1), (2, .int x2)] [] q 0 := by
  unfold f9_pages at h
  refine r_aload_n hR dX9_pages_0 rfl 0 rfl ?_
  refine r_iload_n hR dX9_pages_1 rfl 1 rfl ?_
  obtain ⟨r_2, hc, h⟩ := bd_some h
  refine r_callVi hR (c9_isSet hc) (cf_X9_186 (by decide)) ⟨m_5_94, ms_3_14⟩ (As := [.int x1]) (q0 := 0) (ci := 7) rfl rfl rfl rfl (rc_X9 ad _) (Nat.le_of_ble_eq_true rfl) rfl dX9_pages_2 ?_
  refine r_if_eq hR (tgt := 27) dX9_pages_5 (by decide) (fun c_5 => ?_) (fun c_5 => ?_)
  · replace h := it_t c_5 h
    refine r_bipush hR dX9_pages_27 kc_bipush_m102 ?_
    exact r_iret hR dX9_pages_29 rfl (rt2 hP h)
  · replace h := it_f c_5 h
    refine r_iload_n hR dX9_pages_8 rfl 2 rfl ?_
    refine r_i2l hR dX9_pages_9 ?_
    refine r_lconst hR dX9_pages_10 kc_lconst_0 ?_
    refine r_lconst hR dX9_pages_11 kc_lconst_1 ?_
    obtain ⟨r_12, hc, h⟩ := bd_some h
    refine r_callSi hR (c9_in hc) (cf_X9_92 (by decide)) m_5_6 (As := [.long (Int32.toInt64 x2), .long (0 : Int64), .long (1 : Int64)]) rfl rfl (Nat.le_of_ble_eq_true rfl) rfl dX9_pages_12 ?_
    refine r_if_eq hR (tgt := 27) dX9_pages_15 (by decide) (fun c_15 => ?_) (fun c_15 => ?_)
    · replace h := it_t c_15 h
      refine r_bipush hR dX9_pages_27 kc_bipush_m102 ?_
      exact r_iret hR dX9_pages_29 rfl (rt2 hP h)
    · replace h := it_f c_15 h
      refine r_aload_n hR dX9_pages_18 rfl 0 rfl ?_
      refine r_iload_n hR dX9_pages_19 rfl 1 rfl ?_
      refine r_iload_n hR dX9_pages_20 rfl 2 rfl ?_
      obtain ⟨r_21, q_21, hc, h⟩ := bd2_some h
      refine r_callVi hR (c9_pagesOf N hc) (cf_X9_192 (by decide)) ⟨m_5_138, ms_4_8⟩ (As := [.int x1, .int x2]) (q0 := 0) (ci := 7) rfl rfl rfl rfl (rc_X9 ad _) (Nat.le_of_ble_eq_true rfl) rfl dX9_pages_21 ?_
      refine r_goto hR (tgt := 29) dX9_pages_24 (by decide) ?_
      exact r_iret hR dX9_pages_29 rfl (rt2 hP h)
theorem c9_pages (N : Nat) {x1 : Int32} {x2 : Int32} {q : SS} {r : Int32} {q2 : SS} (h : f9_pages N x1 x2 q = some (r, q2)) : Ct wM 9 yX9_pages cX9_pages 3 (some .int) (fun ad => [.ref (ad 0), .int x1, .int x2]) q (fun _ => some (.int r)) q2 :=
  ct_of (by decide) (fun _ => Nat.le_of_ble_eq_true rfl) (fun ad J hR => t9_pages hR N ⟨rfl, rfl⟩ x1 x2 q h)
theorem t9_goTo_l15_B (hR : Rl wM 5 RX9 cX9_goTo 5 (some .boolean) ad J P) (N : Nat) {r : Int32} {q2 : SS} (hP : P (some (.int r)) q2) (bk15 : Int32 → Int32 → Int32 → SS → Option (Int32 × SS)) (hbk15 : ∀ (x2 : Int32) (x3 : Int32) (x4 : Int32) (q : SS), bk15 x2 x3 x4 q = some (r, q2) → J [(0, .ref (ad 0)), (2, .int x2), (3, .int x3), (4, .int x4)] [] q 15) (x2 : Int32) (x3 : Int32) (x4 : Int32) (q : SS) (h : f9_goTo_l15_B N bk15 x2 x3 x4 q = some (r, q2)) : J [(0, .ref (ad 0)), (2, .int x2), (3, .int x3), (4, .int x4)] [] q 15 := by
  unfold f9_goTo_l15_B at h
  refine r_iload hR dX9_goTo_15 3 rfl ?_
  refine r_iload_n hR dX9_goTo_17 rfl 1 rfl ?_
  refine r_icmp_ge hR (tgt := 42) dX9_goTo_18 (by decide) (fun c_18 => ?_) (fun c_18 => ?_)
  · replace h := it_t c_18 h
    refine r_iload_n hR dX9_goTo_42 rfl 2 rfl ?_
    obtain ⟨hz, h⟩ := cz_some h
    exact r_zret hR dX9_goTo_43 rfl hz (rt2 hP h)
  · replace h := it_f c_18 h
    refine r_iload_n hR dX9_goTo_21 rfl 2 rfl ?_
    refine r_if_eq hR (tgt := 42) dX9_goTo_22 (by decide) (fun c_22 => ?_) (fun c_22 => ?_)
    · replace h := it_t c_22 h
      refine r_iload_n hR dX9_goTo_42 rfl 2 rfl ?_
      obtain ⟨hz, h⟩ := cz_some h
      exact r_zret hR dX9_goTo_43 rfl hz (rt2 hP h)
    · replace h := it_f c_22 h
      refine r_aload_n hR dX9_goTo_25 rfl 0 rfl ?_
      refine r_aload_n hR dX9_goTo_26 rfl 0 rfl ?_
      refine g_X9_memberMany hR m_4_132 dX9_goTo_27 ?_
      refine r_iconst hR dX9_goTo_30 kc_iconst_1 ?_
      refine r_isub hR dX9_goTo_31 ?_
      obtain ⟨r_32, q_32, hc, h⟩ := bd2_some h
      refine r_callVi hR (c9_nextJoined N hc) (cf_X9_171 (by decide)) ⟨m_5_118, ms_4_4⟩ (As := [.int ((fi q 4) - (1 : Int32))]) (q0 := 0) (ci := 7) rfl rfl rfl rfl (rc_X9 ad _) (Nat.le_of_ble_eq_true rfl) rfl dX9_goTo_32 ?_
      refine r_istore_n hR (i := 3) (lv' := [(3, .int r_32), (0, .ref (ad 0)), (2, .int x2), (4, .int x4)]) dX9_goTo_35 rfl rfl (by decide) rfl ?_
      obtain ⟨x4_36, hx, h⟩ := bn_some h
      refine r_iinc hR (i := 4) (lv' := [(4, .int x4_36), (3, .int r_32), (0, .ref (ad 0)), (2, .int x2)]) dX9_goTo_36 3 rfl (inc_ok hx kc_iconst_1) (by decide) rfl ?_
      refine r_goto hR (tgt := 15) dX9_goTo_39 (by decide) ?_
      exact r_sub hR [2, 3, 1, 0] rfl (hbk15 _ _ _ _ h)
theorem t9_goTo_l15 (hR : Rl wM 5 RX9 cX9_goTo 5 (some .boolean) ad J P) (N : Nat) {r : Int32} {q2 : SS} (hP : P (some (.int r)) q2) : ∀ (n : Nat) (x2 : Int32) (x3 : Int32) (x4 : Int32) (q : SS), f9_goTo_l15 N n x2 x3 x4 q = some (r, q2) → J [(0, .ref (ad 0)), (2, .int x2), (3, .int x3), (4, .int x4)] [] q 15 := by
  intro n
  induction n with
  | zero => intro x2 x3 x4 q h; exact mu_noneF h
  | succ n ih => intro x2 x3 x4 q h; exact t9_goTo_l15_B hR N hP _ ih x2 x3 x4 q h
theorem t9_goTo (hR : Rl wM 5 RX9 cX9_goTo 5 (some .boolean) ad J P) (N : Nat) {r : Int32} {q2 : SS} (hP : P (some (.int r)) q2) (x1 : Int32) (x2 : Int32) (q : SS) (h : f9_goTo N x1 x2 q = some (r, q2)) : J [(0, .ref (ad 0)), (1, .int x1), (2, .int x2)] [] q 0 := by
  unfold f9_goTo at h
  refine r_iload_n hR dX9_goTo_0 rfl 2 rfl ?_
  refine r_if_ge hR (tgt := 6) dX9_goTo_1 (by decide) (fun c_1 => ?_) (fun c_1 => ?_)
  · replace h := it_t c_1 h
    refine r_aload_n hR dX9_goTo_6 rfl 0 rfl ?_
    refine r_iload_n hR dX9_goTo_7 rfl 1 rfl ?_
    obtain ⟨r_8, q_8, hc, h⟩ := bd2_some h
    refine r_callVi hR (c9_firstJoined N hc) (cf_X9_174 (by decide)) ⟨m_5_110, ms_4_2⟩ (As := [.int x1]) (q0 := 0) (ci := 7) rfl rfl rfl rfl (rc_X9 ad _) (Nat.le_of_ble_eq_true rfl) rfl dX9_goTo_8 ?_
    refine r_istore_n hR (i := 3) (lv' := [(3, .int r_8), (0, .ref (ad 0)), (1, .int x1), (2, .int x2)]) dX9_goTo_11 rfl rfl (by decide) rfl ?_
    refine r_iconst hR dX9_goTo_12 kc_iconst_0 ?_
    refine r_istore hR (i := 4) (lv' := [(4, .int (0 : Int32)), (3, .int r_8), (0, .ref (ad 0)), (1, .int x1), (2, .int x2)]) dX9_goTo_13 rfl (by decide) rfl ?_
    exact r_sub hR [2, 4, 1, 0] rfl (t9_goTo_l15 hR N hP N _ _ _ _ h)
  · replace h := it_f c_1 h
    refine r_iconst hR dX9_goTo_4 kc_iconst_0 ?_
    exact r_zret hR dX9_goTo_5 rfl (Or.inl rfl) (rt2 hP h)
theorem c9_goTo (N : Nat) {x1 : Int32} {x2 : Int32} {q : SS} {r : Int32} {q2 : SS} (h : f9_goTo N x1 x2 q = some (r, q2)) : Ct wM 5 yX9_goTo cX9_goTo 5 (some .boolean) (fun ad => [.ref (ad 0), .int x1, .int x2]) q (fun _ => some (.int r)) q2 :=
  ct_of (by decide) (fun _ => Nat.le_of_ble_eq_true rfl) (fun ad J hR => t9_goTo hR N ⟨rfl, rfl⟩ x1 x2 q h)
theorem t9_isIn (hR : Rl wM 3 RX9 cX9_isIn 3 (some .boolean) ad J P) (q : SS) {r : Int32} (hP : P (some (.int r)) q) (x1 : Int32) (x2 : Int32) (h : f9_isIn q x1 x2 = some r) : J [(0, .ref (ad 0)), (1, .int x1), (2, .int x2)] [] q 0 := by
  unfold f9_isIn at h
  refine r_aload_n hR dX9_isIn_0 rfl 0 rfl ?_
  refine r_iload_n hR dX9_isIn_1 rfl 2 rfl ?_
  obtain ⟨r_2, hc, h⟩ := bd_some h
  refine r_callVi hR (c9_isTable hc) (cf_X9_116 (by decide)) ⟨m_5_18, ms_3_6⟩ (As := [.int x2]) (q0 := 0) (ci := 7) rfl rfl rfl rfl (rc_X9 ad _) (Nat.le_of_ble_eq_true rfl) rfl dX9_isIn_2 ?_
  refine r_if_eq hR (tgt := 21) dX9_isIn_5 (by decide) (fun c_5 => ?_) (fun c_5 => ?_)
  · replace h := it_t c_5 h
    refine r_iconst hR dX9_isIn_21 kc_iconst_0 ?_
    exact r_zret hR dX9_isIn_22 rfl (Or.inl rfl) (rt1 hP h)
  · replace h := it_f c_5 h
    refine r_iload_n hR dX9_isIn_8 rfl 1 rfl ?_
    refine r_iload_n hR dX9_isIn_9 rfl 2 rfl ?_
    refine r_ishr hR dX9_isIn_10 ?_
    refine r_iconst hR dX9_isIn_11 kc_iconst_1 ?_
    refine r_iand hR dX9_isIn_12 ?_
    refine r_iconst hR dX9_isIn_13 kc_iconst_1 ?_
    refine r_icmp_ne hR (tgt := 21) dX9_isIn_14 (by decide) (fun c_14 => ?_) (fun c_14 => ?_)
    · replace h := it_f c_14 h
      refine r_iconst hR dX9_isIn_21 kc_iconst_0 ?_
      exact r_zret hR dX9_isIn_22 rfl (Or.inl rfl) (rt1 hP h)
    · replace h := it_t c_14 h
      refine r_iconst hR dX9_isIn_17 kc_iconst_1 ?_
      refine r_goto hR (tgt := 22) dX9_isIn_18 (by decide) ?_
      exact r_zret hR dX9_isIn_22 rfl (Or.inr rfl) (rt1 hP h)
theorem c9_isIn {x1 : Int32} {x2 : Int32} {q : SS} {r : Int32} (h : f9_isIn q x1 x2 = some r) : Ct wM 3 yX9_isIn cX9_isIn 3 (some .boolean) (fun ad => [.ref (ad 0), .int x1, .int x2]) q (fun _ => some (.int r)) q :=
  ct_of (by decide) (fun _ => Nat.le_of_ble_eq_true rfl) (fun ad J hR => t9_isIn hR q ⟨rfl, rfl⟩ x1 x2 h)
theorem t9_joined_l37_B (hR : Rl wM 6 RX9 cX9_joined 5 (some .int) ad J P) (N : Nat) {r : Int32} {q2 : SS} (hP : P (some (.int r)) q2) (bk37 : Int32 → Int32 → SS → Option (Int32 × SS)) (hbk37 : ∀ (x3 : Int32) (x4 : Int32) (q : SS), bk37 x3 x4 q = some (r, q2) → J [(0, .ref (ad 0)), (3, .int x3), (4, .int x4)] [] q 37) (x3 : Int32) (x4 : Int32) (q : SS) (h : f9_joined_l37_B N bk37 x3 x4 q = some (r, q2)) : J [(0, .ref (ad 0)), (3, .int x3), (4, .int x4)] [] q 37 := by
  unfold f9_joined_l37_B at h
  refine r_aload_n hR dX9_joined_37 rfl 0 rfl ?_
  refine g_X9_members hR m_4_131 dX9_joined_38 ?_
  refine r_iload hR dX9_joined_41 2 rfl ?_
  obtain ⟨hin, h⟩ := ck_some h
  refine ld_X9_members hR dX9_joined_43 hin ?_
  refine r_iload_n hR dX9_joined_44 rfl 1 rfl ?_
  refine r_icmp_eq hR (tgt := 54) dX9_joined_45 (by decide) (fun c_45 => ?_) (fun c_45 => ?_)
  · replace h := it_t c_45 h
    refine r_aload_n hR dX9_joined_54 rfl 0 rfl ?_
    refine g_X9_chosen hR m_4_133 dX9_joined_55 ?_
    refine r_iload hR dX9_joined_58 2 rfl ?_
    obtain ⟨hin, h⟩ := ck_some h
    refine ld_X9_chosen hR dX9_joined_60 hin ?_
    exact r_iret hR dX9_joined_61 rfl (rt2 hP h)
  · replace h := it_f c_45 h
    obtain ⟨x4_48, hx, h⟩ := bn_some h
    refine r_iinc hR (i := 4) (lv' := [(4, .int x4_48), (0, .ref (ad 0)), (3, .int x3)]) dX9_joined_48 2 rfl (inc_ok hx kc_iconst_1) (by decide) rfl ?_
    refine r_goto hR (tgt := 37) dX9_joined_51 (by decide) ?_
    exact r_sub hR [1, 2, 0] rfl (hbk37 _ _ _ h)
theorem t9_joined_l37 (hR : Rl wM 6 RX9 cX9_joined 5 (some .int) ad J P) (N : Nat) {r : Int32} {q2 : SS} (hP : P (some (.int r)) q2) : ∀ (n : Nat) (x3 : Int32) (x4 : Int32) (q : SS), f9_joined_l37 N n x3 x4 q = some (r, q2) → J [(0, .ref (ad 0)), (3, .int x3), (4, .int x4)] [] q 37 := by
  intro n
  induction n with
  | zero => intro x3 x4 q h; exact mu_noneF h
  | succ n ih => intro x3 x4 q h; exact t9_joined_l37_B hR N hP _ ih x3 x4 q h
theorem t9_joined (hR : Rl wM 6 RX9 cX9_joined 5 (some .int) ad J P) (N : Nat) {r : Int32} {q2 : SS} (hP : P (some (.int r)) q2) (x1 : Int32) (x2 : Int32) (x3 : Int32) (q : SS) (h : f9_joined N x1 x2 x3 q = some (r, q2)) : J [(0, .ref (ad 0)), (1, .int x1), (2, .int x2), (3, .int x3)] [] q 0 := by
  unfold f9_joined at h
  refine r_aload_n hR dX9_joined_0 rfl 0 rfl ?_
  refine r_iload_n hR dX9_joined_1 rfl 1 rfl ?_
  obtain ⟨r_2, hc, h⟩ := bd_some h
  refine r_callVi hR (c9_isSet hc) (cf_X9_186 (by decide)) ⟨m_5_94, ms_3_14⟩ (As := [.int x1]) (q0 := 0) (ci := 7) rfl rfl rfl rfl (rc_X9 ad _) (Nat.le_of_ble_eq_true rfl) rfl dX9_joined_2 ?_
  refine r_if_ne hR (tgt := 11) dX9_joined_5 (by decide) (fun c_5 => ?_) (fun c_5 => ?_)
  · replace h := it_f c_5 h
    refine r_aload_n hR dX9_joined_11 rfl 0 rfl ?_
    refine r_iload_n hR dX9_joined_12 rfl 1 rfl ?_
    refine r_iload_n hR dX9_joined_13 rfl 3 rfl ?_
    obtain ⟨r_14, hc, h⟩ := bd_some h
    refine r_callVi hR (c9_isIn hc) (cf_X9_195 (by decide)) ⟨m_5_146, ms_4_9⟩ (As := [.int x1, .int x3]) (q0 := 0) (ci := 7) rfl rfl rfl rfl (rc_X9 ad _) (Nat.le_of_ble_eq_true rfl) rfl dX9_joined_14 ?_
    refine r_if_ne hR (tgt := 23) dX9_joined_17 (by decide) (fun c_17 => ?_) (fun c_17 => ?_)
    · replace h := it_f c_17 h
      refine r_aload_n hR dX9_joined_23 rfl 0 rfl ?_
      refine r_iload_n hR dX9_joined_24 rfl 1 rfl ?_
      refine r_iload_n hR dX9_joined_25 rfl 2 rfl ?_
      obtain ⟨r_26, q_26, hc, h⟩ := bd2_some h
      refine r_callVi hR (c9_goTo N hc) (cf_X9_198 (by decide)) ⟨m_5_150, ms_4_10⟩ (As := [.int x1, .int x2]) (q0 := 0) (ci := 7) rfl rfl rfl rfl (rc_X9 ad _) (Nat.le_of_ble_eq_true rfl) rfl dX9_joined_26 ?_
      refine r_if_ne hR (tgt := 34) dX9_joined_29 (by decide) (fun c_29 => ?_) (fun c_29 => ?_)
      · replace h := it_f c_29 h
        refine r_iconst hR dX9_joined_34 kc_iconst_0 ?_
        refine r_istore hR (i := 4) (lv' := [(4, .int (0 : Int32)), (0, .ref (ad 0)), (1, .int x1), (2, .int x2), (3, .int x3)]) dX9_joined_35 rfl (by decide) rfl ?_
        exact r_sub hR [1, 4, 0] rfl (t9_joined_l37 hR N hP N _ _ _ h)
      · replace h := it_t c_29 h
        refine r_iconst hR dX9_joined_32 kc_iconst_m1 ?_
        exact r_iret hR dX9_joined_33 rfl (rt2 hP h)
    · replace h := it_t c_17 h
      refine r_bipush hR dX9_joined_20 kc_bipush_m101 ?_
      exact r_iret hR dX9_joined_22 rfl (rt2 hP h)
  · replace h := it_t c_5 h
    refine r_bipush hR dX9_joined_8 kc_bipush_m102 ?_
    exact r_iret hR dX9_joined_10 rfl (rt2 hP h)
theorem c9_joined (N : Nat) {x1 : Int32} {x2 : Int32} {x3 : Int32} {q : SS} {r : Int32} {q2 : SS} (h : f9_joined N x1 x2 x3 q = some (r, q2)) : Ct wM 6 yX9_joined cX9_joined 5 (some .int) (fun ad => [.ref (ad 0), .int x1, .int x2, .int x3]) q (fun _ => some (.int r)) q2 :=
  ct_of (by decide) (fun _ => Nat.le_of_ble_eq_true rfl) (fun ad J hR => t9_joined hR N ⟨rfl, rfl⟩ x1 x2 x3 q h)
theorem t9_value_l40_B (hR : Rl wM 6 RX9 cX9_value 5 (some .int) ad J P) (N : Nat) {r : Int32} {q2 : SS} (hP : P (some (.int r)) q2) (bk40 : Int32 → Int32 → SS → Option (Int32 × SS)) (hbk40 : ∀ (x3 : Int32) (x4 : Int32) (q : SS), bk40 x3 x4 q = some (r, q2) → J [(0, .ref (ad 0)), (3, .int x3), (4, .int x4)] [] q 40) (x3 : Int32) (x4 : Int32) (q : SS) (h : f9_value_l40_B N bk40 x3 x4 q = some (r, q2)) : J [(0, .ref (ad 0)), (3, .int x3), (4, .int x4)] [] q 40 := by
  unfold f9_value_l40_B at h
  refine r_iload hR dX9_value_40 2 rfl ?_
  refine r_aload_n hR dX9_value_42 rfl 0 rfl ?_
  refine g_X9_memberMany hR m_4_132 dX9_value_43 ?_
  refine r_icmp_ge hR (tgt := 99) dX9_value_46 (by decide) (fun c_46 => ?_) (fun c_46 => ?_)
  · replace h := it_t c_46 h
    refine r_iconst hR dX9_value_99 kc_iconst_m1 ?_
    exact r_iret hR dX9_value_100 rfl (rt2 hP h)
  · replace h := it_f c_46 h
    refine r_aload_n hR dX9_value_49 rfl 0 rfl ?_
    refine r_aload_n hR dX9_value_50 rfl 0 rfl ?_
    refine g_X9_members hR m_4_131 dX9_value_51 ?_
    refine r_iload hR dX9_value_54 2 rfl ?_
    obtain ⟨hin, h⟩ := ck_some h
    refine ld_X9_members hR dX9_value_56 hin ?_
    refine r_iload_n hR dX9_value_57 rfl 1 rfl ?_
    obtain ⟨r_58, hc, h⟩ := bd_some h
    refine r_callVi hR (c9_has hc) (cf_X9_108 (by decide)) ⟨m_5_31, ms_3_9⟩ (As := [.int (ar q 9 (ix x4)), .int x3]) (q0 := 0) (ci := 7) rfl rfl rfl rfl (rc_X9 ad _) (Nat.le_of_ble_eq_true rfl) rfl dX9_value_58 ?_
    refine r_if_eq hR (tgt := 93) dX9_value_61 (by decide) (fun c_61 => ?_) (fun c_61 => ?_)
    · replace h := it_t c_61 h
      obtain ⟨x4_93, hx, h⟩ := bn_some h
      refine r_iinc hR (i := 4) (lv' := [(4, .int x4_93), (0, .ref (ad 0)), (3, .int x3)]) dX9_value_93 2 rfl (inc_ok hx kc_iconst_1) (by decide) rfl ?_
      refine r_goto hR (tgt := 40) dX9_value_96 (by decide) ?_
      exact r_sub hR [1, 2, 0] rfl (hbk40 _ _ _ h)
    · replace h := it_f c_61 h
      refine r_aload_n hR dX9_value_64 rfl 0 rfl ?_
      refine g_X9_numbers hR m_4_123 dX9_value_65 ?_
      refine r_bipush hR dX9_value_68 kc_bipush_64 ?_
      refine r_aload_n hR dX9_value_70 rfl 0 rfl ?_
      refine g_X9_members hR m_4_131 dX9_value_71 ?_
      refine r_iload hR dX9_value_74 2 rfl ?_
      obtain ⟨hin, h⟩ := ck_some h
      refine ld_X9_members hR dX9_value_76 hin ?_
      refine r_imul hR dX9_value_77 ?_
      refine r_bipush hR dX9_value_78 kc_bipush_8 ?_
      refine r_aload_n hR dX9_value_80 rfl 0 rfl ?_
      refine g_X9_chosen hR m_4_133 dX9_value_81 ?_
      refine r_iload hR dX9_value_84 2 rfl ?_
      obtain ⟨hin, h⟩ := ck_some h
      refine ld_X9_chosen hR dX9_value_86 hin ?_
      refine r_imul hR dX9_value_87 ?_
      refine r_iadd hR dX9_value_88 ?_
      refine r_iload_n hR dX9_value_89 rfl 1 rfl ?_
      refine r_iadd hR dX9_value_90 ?_
      obtain ⟨hin, h⟩ := ck_some h
      refine ld_X9_numbers hR dX9_value_91 hin ?_
      exact r_iret hR dX9_value_92 rfl (rt2 hP h)
theorem t9_value_l40 (hR : Rl wM 6 RX9 cX9_value 5 (some .int) ad J P) (N : Nat) {r : Int32} {q2 : SS} (hP : P (some (.int r)) q2) : ∀ (n : Nat) (x3 : Int32) (x4 : Int32) (q : SS), f9_value_l40 N n x3 x4 q = some (r, q2) → J [(0, .ref (ad 0)), (3, .int x3), (4, .int x4)] [] q 40 := by
  intro n
  induction n with
  | zero => intro x3 x4 q h; exact mu_noneF h
  | succ n ih => intro x3 x4 q h; exact t9_value_l40_B hR N hP _ ih x3 x4 q h
theorem t9_value (hR : Rl wM 6 RX9 cX9_value 5 (some .int) ad J P) (N : Nat) {r : Int32} {q2 : SS} (hP : P (some (.int r)) q2) (x1 : Int32) (x2 : Int32) (x3 : Int32) (q : SS) (h : f9_value N x1 x2 x3 q = some (r, q2)) : J [(0, .ref (ad 0)), (1, .int x1), (2, .int x2), (3, .int x3)] [] q 0 := by
  unfold f9_value at h
  refine r_aload_n hR dX9_value_0 rfl 0 rfl ?_
  refine r_iload_n hR dX9_value_1 rfl 1 rfl ?_
  obtain ⟨r_2, hc, h⟩ := bd_some h
  refine r_callVi hR (c9_isSet hc) (cf_X9_186 (by decide)) ⟨m_5_94, ms_3_14⟩ (As := [.int x1]) (q0 := 0) (ci := 7) rfl rfl rfl rfl (rc_X9 ad _) (Nat.le_of_ble_eq_true rfl) rfl dX9_value_2 ?_
  refine r_if_ne hR (tgt := 11) dX9_value_5 (by decide) (fun c_5 => ?_) (fun c_5 => ?_)
  · replace h := it_f c_5 h
    refine r_iload_n hR dX9_value_11 rfl 3 rfl ?_
    refine r_i2l hR dX9_value_12 ?_
    refine r_lconst hR dX9_value_13 kc_lconst_0 ?_
    refine r_ldc2 hR dX9_value_14 m_5_55 ?_
    obtain ⟨r_17, hc, h⟩ := bd_some h
    refine r_callSi hR (c9_in hc) (cf_X9_92 (by decide)) m_5_6 (As := [.long (Int32.toInt64 x3), .long (0 : Int64), .long (7 : Int64)]) rfl rfl (Nat.le_of_ble_eq_true rfl) rfl dX9_value_17 ?_
    refine r_if_ne hR (tgt := 26) dX9_value_20 (by decide) (fun c_20 => ?_) (fun c_20 => ?_)
    · replace h := it_f c_20 h
      refine r_aload_n hR dX9_value_26 rfl 0 rfl ?_
      refine r_iload_n hR dX9_value_27 rfl 1 rfl ?_
      refine r_iload_n hR dX9_value_28 rfl 2 rfl ?_
      obtain ⟨r_29, q_29, hc, h⟩ := bd2_some h
      refine r_callVi hR (c9_goTo N hc) (cf_X9_198 (by decide)) ⟨m_5_150, ms_4_10⟩ (As := [.int x1, .int x2]) (q0 := 0) (ci := 7) rfl rfl rfl rfl (rc_X9 ad _) (Nat.le_of_ble_eq_true rfl) rfl dX9_value_29 ?_
      refine r_if_ne hR (tgt := 37) dX9_value_32 (by decide) (fun c_32 => ?_) (fun c_32 => ?_)
      · replace h := it_f c_32 h
        refine r_iconst hR dX9_value_37 kc_iconst_0 ?_
        refine r_istore hR (i := 4) (lv' := [(4, .int (0 : Int32)), (0, .ref (ad 0)), (1, .int x1), (2, .int x2), (3, .int x3)]) dX9_value_38 rfl (by decide) rfl ?_
        exact r_sub hR [1, 4, 0] rfl (t9_value_l40 hR N hP N _ _ _ h)
      · replace h := it_t c_32 h
        refine r_iconst hR dX9_value_35 kc_iconst_m1 ?_
        exact r_iret hR dX9_value_36 rfl (rt2 hP h)
    · replace h := it_t c_20 h
      refine r_bipush hR dX9_value_23 kc_bipush_m101 ?_
      exact r_iret hR dX9_value_25 rfl (rt2 hP h)
  · replace h := it_t c_5 h
    refine r_bipush hR dX9_value_8 kc_bipush_m102 ?_
    exact r_iret hR dX9_value_10 rfl (rt2 hP h)
theorem c9_value (N : Nat) {x1 : Int32} {x2 : Int32} {x3 : Int32} {q : SS} {r : Int32} {q2 : SS} (h : f9_value N x1 x2 x3 q = some (r, q2)) : Ct wM 6 yX9_value cX9_value 5 (some .int) (fun ad => [.ref (ad 0), .int x1, .int x2, .int x3]) q (fun _ => some (.int r)) q2 :=
  ct_of (by decide) (fun _ => Nat.le_of_ble_eq_true rfl) (fun ad J hR => t9_value hR N ⟨rfl, rfl⟩ x1 x2 x3 q h)
theorem t9_idle_b98 (hR : Rl wM 5 RX9 cX9_idle 6 (some .int) ad J P) (N : Nat) {r : Int32} {q2 : SS} (hP : P (some (.int r)) q2) (x2 : Int32) (x3 : Int32) (q : SS) (h : f9_idle_b98 N x2 x3 q = some (r, q2)) : J [(0, .ref (ad 0)), (2, .int x2), (3, .int x3)] [] q 98 := by
  unfold f9_idle_b98 at h
  refine r_aload_n hR dX9_idle_98 rfl 0 rfl ?_
  refine g_X9_rows hR m_4_122 dX9_idle_99 ?_
  refine r_iload_n hR dX9_idle_102 rfl 1 rfl ?_
  obtain ⟨hin, h⟩ := ck_some h
  refine ld_X9_rows hR dX9_idle_103 hin ?_
  refine r_iload_n hR dX9_idle_104 rfl 2 rfl ?_
  obtain ⟨r_105, hc, h⟩ := bd_some h
  refine r_callSi hR (c9_bitsOf N hc) (cf_X9_98 (by decide)) m_5_9 (As := [.int x3]) rfl rfl (Nat.le_of_ble_eq_true rfl) rfl dX9_idle_105 ?_
  refine r_isub hR dX9_idle_108 ?_
  exact r_iret hR dX9_idle_109 rfl (rt2 hP h)
theorem t9_idle_l52_B (hR : Rl wM 5 RX9 cX9_idle 6 (some .int) ad J P) (N : Nat) {r : Int32} {q2 : SS} (hP : P (some (.int r)) q2) (bk52 : Int32 → Int32 → Int32 → Int32 → SS → Option (Int32 × SS)) (hbk52 : ∀ (x2 : Int32) (x3 : Int32) (x4 : Int32) (x5 : Int32) (q : SS), bk52 x2 x3 x4 x5 q = some (r, q2) → J [(0, .ref (ad 0)), (2, .int x2), (3, .int x3), (4, .int x4), (5, .int x5)] [] q 52) (x2 : Int32) (x3 : Int32) (x4 : Int32) (x5 : Int32) (q : SS) (h : f9_idle_l52_B N bk52 x2 x3 x4 x5 q = some (r, q2)) : J [(0, .ref (ad 0)), (2, .int x2), (3, .int x3), (4, .int x4), (5, .int x5)] [] q 52 := by
  unfold f9_idle_l52_B at h
  refine r_iload hR dX9_idle_52 3 rfl ?_
  refine r_if_eq hR (tgt := 98) dX9_idle_54 (by decide) (fun c_54 => ?_) (fun c_54 => ?_)
  · replace h := it_t c_54 h
    exact r_sub hR [0, 1, 2] rfl (t9_idle_b98 hR N hP _ _ _ h)
  · replace h := it_f c_54 h
    refine r_iload_n hR dX9_idle_57 rfl 2 rfl ?_
    refine r_iconst hR dX9_idle_58 kc_iconst_1 ?_
    refine r_aload_n hR dX9_idle_59 rfl 0 rfl ?_
    refine g_X9_rows hR m_4_122 dX9_idle_60 ?_
    refine r_iload_n hR dX9_idle_63 rfl 1 rfl ?_
    obtain ⟨hin, h⟩ := ck_some h
    refine ld_X9_rows hR dX9_idle_64 hin ?_
    refine r_ishl hR dX9_idle_65 ?_
    refine r_iconst hR dX9_idle_66 kc_iconst_1 ?_
    refine r_isub hR dX9_idle_67 ?_
    refine r_icmp_ge hR (tgt := 98) dX9_idle_68 (by decide) (fun c_68 => ?_) (fun c_68 => ?_)
    · replace h := it_t c_68 h
      exact r_sub hR [0, 1, 2] rfl (t9_idle_b98 hR N hP _ _ _ h)
    · replace h := it_f c_68 h
      refine r_iload_n hR dX9_idle_71 rfl 2 rfl ?_
      refine r_iconst hR dX9_idle_72 kc_iconst_1 ?_
      refine r_aload_n hR dX9_idle_73 rfl 0 rfl ?_
      refine g_X9_chosen hR m_4_133 dX9_idle_74 ?_
      refine r_iload hR dX9_idle_77 4 rfl ?_
      obtain ⟨hin, h⟩ := ck_some h
      refine ld_X9_chosen hR dX9_idle_79 hin ?_
      refine r_ishl hR dX9_idle_80 ?_
      refine r_ior hR dX9_idle_81 ?_
      obtain ⟨x3_82, hx, h⟩ := bn_some h
      refine r_istore_n hR (i := 3) (lv' := [(3, .int x3_82), (0, .ref (ad 0)), (2, .int x2), (4, .int x4), (5, .int x5)]) dX9_idle_82 hx rfl (by decide) rfl ?_
      refine r_aload_n hR dX9_idle_83 rfl 1 rfl ?_
      refine r_aload_n hR dX9_idle_84 rfl 1 rfl ?_
      refine g_X9_memberMany hR m_4_132 dX9_idle_85 ?_
      refine r_iconst hR dX9_idle_88 kc_iconst_1 ?_
      refine r_isub hR dX9_idle_89 ?_
      obtain ⟨r_90, q_90, hc, h⟩ := bd2_some h
      refine r_callVi hR (c9_nextJoined N hc) (cf_X9_171 (by decide)) ⟨m_5_118, ms_4_4⟩ (As := [.int ((fi q 4) - (1 : Int32))]) (q0 := 0) (ci := 7) rfl rfl rfl rfl (rc_X9 ad _) (Nat.le_of_ble_eq_true rfl) rfl dX9_idle_90 ?_
      refine r_istore hR (i := 4) (lv' := [(4, .int r_90), (3, .int x3_82), (0, .ref (ad 0)), (2, .int x2), (5, .int x5)]) dX9_idle_93 rfl (by decide) rfl ?_
      refine r_goto hR (tgt := 52) dX9_idle_95 (by decide) ?_
      exact r_sub hR [2, 3, 1, 0, 4] rfl (hbk52 _ _ _ _ _ h)
theorem t9_idle_l52 (hR : Rl wM 5 RX9 cX9_idle 6 (some .int) ad J P) (N : Nat) {r : Int32} {q2 : SS} (hP : P (some (.int r)) q2) : ∀ (n : Nat) (x2 : Int32) (x3 : Int32) (x4 : Int32) (x5 : Int32) (q : SS), f9_idle_l52 N n x2 x3 x4 x5 q = some (r, q2) → J [(0, .ref (ad 0)), (2, .int x2), (3, .int x3), (4, .int x4), (5, .int x5)] [] q 52 := by
  intro n
  induction n with
  | zero => intro x2 x3 x4 x5 q h; exact mu_noneF h
  | succ n ih => intro x2 x3 x4 x5 q h; exact t9_idle_l52_B hR N hP _ ih x2 x3 x4 x5 q h
theorem t9_idle_l35_B (hR : Rl wM 5 RX9 cX9_idle 6 (some .int) ad J P) (N : Nat) {r : Int32} {q2 : SS} (hP : P (some (.int r)) q2) (bk35 : Int32 → Int32 → Int32 → Int32 → SS → Option (Int32 × SS)) (hbk35 : ∀ (x2 : Int32) (x3 : Int32) (x4 : Int32) (x5 : Int32) (q : SS), bk35 x2 x3 x4 x5 q = some (r, q2) → J [(0, .ref (ad 0)), (2, .int x2), (3, .int x3), (4, .int x4), (5, .int x5)] [] q 35) (x2 : Int32) (x3 : Int32) (x4 : Int32) (x5 : Int32) (q : SS) (h : f9_idle_l35_B N bk35 x2 x3 x4 x5 q = some (r, q2)) : J [(0, .ref (ad 0)), (2, .int x2), (3, .int x3), (4, .int x4), (5, .int x5)] [] q 35 := by
  unfold f9_idle_l35_B at h
  refine r_aload_n hR dX9_idle_35 rfl 0 rfl ?_
  refine g_X9_members hR m_4_131 dX9_idle_36 ?_
  refine r_iload hR dX9_idle_39 4 rfl ?_
  obtain ⟨hin, h⟩ := ck_some h
  refine ld_X9_members hR dX9_idle_41 hin ?_
  refine r_iload_n hR dX9_idle_42 rfl 1 rfl ?_
  refine r_icmp_eq hR (tgt := 52) dX9_idle_43 (by decide) (fun c_43 => ?_) (fun c_43 => ?_)
  · replace h := it_t c_43 h
    exact r_sub hR [0, 1, 2, 3, 4] rfl (t9_idle_l52 hR N hP N _ _ _ _ _ h)
  · replace h := it_f c_43 h
    obtain ⟨x5_46, hx, h⟩ := bn_some h
    refine r_iinc hR (i := 5) (lv' := [(5, .int x5_46), (0, .ref (ad 0)), (2, .int x2), (3, .int x3), (4, .int x4)]) dX9_idle_46 4 rfl (inc_ok hx kc_iconst_1) (by decide) rfl ?_
    refine r_goto hR (tgt := 35) dX9_idle_49 (by decide) ?_
    exact r_sub hR [1, 2, 3, 4, 0] rfl (hbk35 _ _ _ _ _ h)
theorem t9_idle_l35 (hR : Rl wM 5 RX9 cX9_idle 6 (some .int) ad J P) (N : Nat) {r : Int32} {q2 : SS} (hP : P (some (.int r)) q2) : ∀ (n : Nat) (x2 : Int32) (x3 : Int32) (x4 : Int32) (x5 : Int32) (q : SS), f9_idle_l35 N n x2 x3 x4 x5 q = some (r, q2) → J [(0, .ref (ad 0)), (2, .int x2), (3, .int x3), (4, .int x4), (5, .int x5)] [] q 35 := by
  intro n
  induction n with
  | zero => intro x2 x3 x4 x5 q h; exact mu_noneF h
  | succ n ih => intro x2 x3 x4 x5 q h; exact t9_idle_l35_B hR N hP _ ih x2 x3 x4 x5 q h
theorem t9_idle (hR : Rl wM 5 RX9 cX9_idle 6 (some .int) ad J P) (N : Nat) {r : Int32} {q2 : SS} (hP : P (some (.int r)) q2) (x1 : Int32) (x2 : Int32) (q : SS) (h : f9_idle N x1 x2 q = some (r, q2)) : J [(0, .ref (ad 0)), (1, .int x1), (2, .int x2)] [] q 0 := by
  unfold f9_idle at h
  refine r_aload_n hR dX9_idle_0 rfl 0 rfl ?_
  refine r_iload_n hR dX9_idle_1 rfl 1 rfl ?_
  obtain ⟨r_2, hc, h⟩ := bd_some h
  refine r_callVi hR (c9_isSet hc) (cf_X9_186 (by decide)) ⟨m_5_94, ms_3_14⟩ (As := [.int x1]) (q0 := 0) (ci := 7) rfl rfl rfl rfl (rc_X9 ad _) (Nat.le_of_ble_eq_true rfl) rfl dX9_idle_2 ?_
  refine r_if_ne hR (tgt := 11) dX9_idle_5 (by decide) (fun c_5 => ?_) (fun c_5 => ?_)
  · replace h := it_f c_5 h
    refine r_aload_n hR dX9_idle_11 rfl 0 rfl ?_
    refine r_iload_n hR dX9_idle_12 rfl 1 rfl ?_
    refine r_iload_n hR dX9_idle_13 rfl 2 rfl ?_
    obtain ⟨r_14, hc, h⟩ := bd_some h
    refine r_callVi hR (c9_isIn hc) (cf_X9_195 (by decide)) ⟨m_5_146, ms_4_9⟩ (As := [.int x1, .int x2]) (q0 := 0) (ci := 7) rfl rfl rfl rfl (rc_X9 ad _) (Nat.le_of_ble_eq_true rfl) rfl dX9_idle_14 ?_
    refine r_if_ne hR (tgt := 23) dX9_idle_17 (by decide) (fun c_17 => ?_) (fun c_17 => ?_)
    · replace h := it_f c_17 h
      refine r_iconst hR dX9_idle_23 kc_iconst_0 ?_
      refine r_istore_n hR (i := 3) (lv' := [(3, .int (0 : Int32)), (0, .ref (ad 0)), (1, .int x1), (2, .int x2)]) dX9_idle_24 rfl rfl (by decide) rfl ?_
      refine r_aload_n hR dX9_idle_25 rfl 1 rfl ?_
      refine r_iload_n hR dX9_idle_26 rfl 2 rfl ?_
      obtain ⟨r_27, q_27, hc, h⟩ := bd2_some h
      refine r_callVi hR (c9_firstJoined N hc) (cf_X9_174 (by decide)) ⟨m_5_110, ms_4_2⟩ (As := [.int x1]) (q0 := 0) (ci := 7) rfl rfl rfl rfl (rc_X9 ad _) (Nat.le_of_ble_eq_true rfl) rfl dX9_idle_27 ?_
      refine r_istore hR (i := 4) (lv' := [(4, .int r_27), (3, .int (0 : Int32)), (0, .ref (ad 0)), (1, .int x1), (2, .int x2)]) dX9_idle_30 rfl (by decide) rfl ?_
      refine r_iconst hR dX9_idle_32 kc_iconst_0 ?_
      refine r_istore hR (i := 5) (lv' := [(5, .int (0 : Int32)), (4, .int r_27), (3, .int (0 : Int32)), (0, .ref (ad 0)), (1, .int x1), (2, .int x2)]) dX9_idle_33 rfl (by decide) rfl ?_
      exact r_sub hR [3, 5, 2, 1, 0] rfl (t9_idle_l35 hR N hP N _ _ _ _ _ h)
    · replace h := it_t c_17 h
      refine r_bipush hR dX9_idle_20 kc_bipush_m101 ?_
      exact r_iret hR dX9_idle_22 rfl (rt2 hP h)
  · replace h := it_t c_5 h
    refine r_bipush hR dX9_idle_8 kc_bipush_m102 ?_
    exact r_iret hR dX9_idle_10 rfl (rt2 hP h)
theorem c9_idle (N : Nat) {x1 : Int32} {x2 : Int32} {q : SS} {r : Int32} {q2 : SS} (h : f9_idle N x1 x2 q = some (r, q2)) : Ct wM 5 yX9_idle cX9_idle 6 (some .int) (fun ad => [.ref (ad 0), .int x1, .int x2]) q (fun _ => some (.int r)) q2 :=
  ct_of (by decide) (fun _ => Nat.le_of_ble_eq_true rfl) (fun ad J hR => t9_idle hR N ⟨rfl, rfl⟩ x1 x2 q h)
theorem t9_letters_l108_B (hR : Rl wM 1 RX9 cX9_letters 9 (some .int) ad J P) (N : Nat) {r : Int32} {q2 : SS} (hP : P (some (.int r)) q2) (bk108 : Int64 → Int32 → Int32 → SS → Option (Int32 × SS)) (hbk108 : ∀ (x1 : Int64) (x3 : Int32) (x7 : Int32) (q : SS), bk108 x1 x3 x7 q = some (r, q2) → J [(0, .ref (ad 0)), (1, .long x1), (3, .int x3), (7, .int x7)] [] q 108) (x1 : Int64) (x3 : Int32) (x7 : Int32) (q : SS) (h : f9_letters_l108_B N bk108 x1 x3 x7 q = some (r, q2)) : J [(0, .ref (ad 0)), (1, .long x1), (3, .int x3), (7, .int x7)] [] q 108 := by
  unfold f9_letters_l108_B at h
  refine r_iload hR dX9_letters_108 3 rfl ?_
  refine r_iload_n hR dX9_letters_110 rfl 2 rfl ?_
  refine r_icmp_ge hR (tgt := 151) dX9_letters_111 (by decide) (fun c_111 => ?_) (fun c_111 => ?_)
  · replace h := it_t c_111 h
    refine r_aload_n hR dX9_letters_151 rfl 0 rfl ?_
    refine g_X9_pageMany hR m_4_135 dX9_letters_152 ?_
    exact r_iret hR dX9_letters_155 rfl (rt2 hP h)
  · replace h := it_f c_111 h
    refine r_aload_n hR dX9_letters_114 rfl 0 rfl ?_
    refine g_X9_page hR m_4_134 dX9_letters_115 ?_
    refine r_aload_n hR dX9_letters_118 rfl 0 rfl ?_
    refine g_X9_pageMany hR m_4_135 dX9_letters_119 ?_
    refine r_lload_n hR dX9_letters_122 rfl 1 rfl ?_
    refine r_bipush hR dX9_letters_123 kc_bipush_8 ?_
    refine r_iload hR dX9_letters_125 3 rfl ?_
    refine r_imul hR dX9_letters_127 ?_
    refine r_lushr hR dX9_letters_128 ?_
    refine r_ldc2 hR dX9_letters_129 m_5_4 ?_
    refine r_land hR dX9_letters_132 ?_
    refine r_l2i hR dX9_letters_133 ?_
    obtain ⟨hin, h⟩ := ck_some h
    obtain ⟨q_134, hq, h⟩ := bn_some h
    refine sv_X9_page hR dX9_letters_134 hin hq ?_
    refine r_aload_n hR dX9_letters_135 rfl 0 rfl ?_
    refine r_dup hR dX9_letters_136 rfl ?_
    refine g_X9_pageMany hR m_4_135 dX9_letters_137 ?_
    refine r_iconst hR dX9_letters_140 kc_iconst_1 ?_
    refine r_iadd hR dX9_letters_141 ?_
    obtain ⟨q_142, hq, h⟩ := bn_some h
    refine p_X9_pageMany hR m_4_135 dX9_letters_142 hq ?_
    obtain ⟨x7_145, hx, h⟩ := bn_some h
    refine r_iinc hR (i := 7) (lv' := [(7, .int x7_145), (0, .ref (ad 0)), (1, .long x1), (3, .int x3)]) dX9_letters_145 3 rfl (inc_ok hx kc_iconst_1) (by decide) rfl ?_
    refine r_goto hR (tgt := 108) dX9_letters_148 (by decide) ?_
    exact r_sub hR [1, 2, 3, 0] rfl (hbk108 _ _ _ _ h)
theorem t9_letters_l108 (hR : Rl wM 1 RX9 cX9_letters 9 (some .int) ad J P) (N : Nat) {r : Int32} {q2 : SS} (hP : P (some (.int r)) q2) : ∀ (n : Nat) (x1 : Int64) (x3 : Int32) (x7 : Int32) (q : SS), f9_letters_l108 N n x1 x3 x7 q = some (r, q2) → J [(0, .ref (ad 0)), (1, .long x1), (3, .int x3), (7, .int x7)] [] q 108 := by
  intro n
  induction n with
  | zero => intro x1 x3 x7 q h; exact mu_noneF h
  | succ n ih => intro x1 x3 x7 q h; exact t9_letters_l108_B hR N hP _ ih x1 x3 x7 q h
theorem t9_letters_b75 (hR : Rl wM 1 RX9 cX9_letters 9 (some .int) ad J P) (N : Nat) {r : Int32} {q2 : SS} (hP : P (some (.int r)) q2) (bk11 : Int64 → Int32 → Int32 → Int64 → Int32 → SS → Option (Int32 × SS)) (hbk11 : ∀ (x1 : Int64) (x3 : Int32) (x4 : Int32) (x5 : Int64) (x7 : Int32) (q : SS), bk11 x1 x3 x4 x5 x7 q = some (r, q2) → J [(0, .ref (ad 0)), (1, .long x1), (3, .int x3), (4, .int x4), (5, .long x5), (7, .int x7)] [] q 11) (x1 : Int64) (x4 : Int32) (x5 : Int64) (x7 : Int32) (s0 : Int32) (s1 : Int32) (q : SS) (h : f9_letters_b75 N bk11 x1 x4 x5 x7 s0 s1 q = some (r, q2)) : J [(0, .ref (ad 0)), (1, .long x1), (4, .int x4), (5, .long x5), (7, .int x7)] [.int s0, .int s1] q 75 := by
  unfold f9_letters_b75 at h
  refine r_iadd hR dX9_letters_75 ?_
  obtain ⟨x3_76, hx, h⟩ := bn_some h
  refine r_istore_n hR (i := 3) (lv' := [(3, .int x3_76), (0, .ref (ad 0)), (1, .long x1), (4, .int x4), (5, .long x5), (7, .int x7)]) dX9_letters_76 hx rfl (by decide) rfl ?_
  obtain ⟨x7_77, hx, h⟩ := bn_some h
  refine r_iinc hR (i := 7) (lv' := [(7, .int x7_77), (3, .int x3_76), (0, .ref (ad 0)), (1, .long x1), (4, .int x4), (5, .long x5)]) dX9_letters_77 5 rfl (inc_ok hx kc_iconst_1) (by decide) rfl ?_
  refine r_goto hR (tgt := 11) dX9_letters_80 (by decide) ?_
  exact r_sub hR [2, 3, 1, 4, 5, 0] rfl (hbk11 _ _ _ _ _ _ h)
theorem t9_letters_b62 (hR : Rl wM 1 RX9 cX9_letters 9 (some .int) ad J P) (N : Nat) {r : Int32} {q2 : SS} (hP : P (some (.int r)) q2) (bk11 : Int64 → Int32 → Int32 → Int64 → Int32 → SS → Option (Int32 × SS)) (hbk11 : ∀ (x1 : Int64) (x3 : Int32) (x4 : Int32) (x5 : Int64) (x7 : Int32) (q : SS), bk11 x1 x3 x4 x5 x7 q = some (r, q2) → J [(0, .ref (ad 0)), (1, .long x1), (3, .int x3), (4, .int x4), (5, .long x5), (7, .int x7)] [] q 11) (x1 : Int64) (x3 : Int32) (x5 : Int64) (x7 : Int32) (x8 : Int32) (s0 : Int32) (q : SS) (h : f9_letters_b62 N bk11 x1 x3 x5 x7 x8 s0 q = some (r, q2)) : J [(0, .ref (ad 0)), (1, .long x1), (3, .int x3), (5, .long x5), (7, .int x7), (8, .int x8)] [.int s0] q 62 := by
  unfold f9_letters_b62 at h
  refine r_istore hR (i := 4) (lv' := [(4, .int s0), (0, .ref (ad 0)), (1, .long x1), (3, .int x3), (5, .long x5), (7, .int x7), (8, .int x8)]) dX9_letters_62 rfl (by decide) rfl ?_
  refine r_iload_n hR dX9_letters_64 rfl 3 rfl ?_
  refine r_iload hR dX9_letters_65 6 rfl ?_
  refine r_if_le hR (tgt := 74) dX9_letters_67 (by decide) (fun c_67 => ?_) (fun c_67 => ?_)
  · replace h := it_t c_67 h
    refine r_iconst hR dX9_letters_74 kc_iconst_0 ?_
    exact r_sub hR [1, 2, 0, 4, 5] rfl (t9_letters_b75 hR N hP bk11 hbk11 _ _ _ _ _ _ _ h)
  · replace h := it_f c_67 h
    refine r_iconst hR dX9_letters_70 kc_iconst_1 ?_
    refine r_goto hR (tgt := 75) dX9_letters_71 (by decide) ?_
    exact r_sub hR [1, 2, 0, 4, 5] rfl (t9_letters_b75 hR N hP bk11 hbk11 _ _ _ _ _ _ _ h)
theorem t9_letters_b61 (hR : Rl wM 1 RX9 cX9_letters 9 (some .int) ad J P) (N : Nat) {r : Int32} {q2 : SS} (hP : P (some (.int r)) q2) (bk11 : Int64 → Int32 → Int32 → Int64 → Int32 → SS → Option (Int32 × SS)) (hbk11 : ∀ (x1 : Int64) (x3 : Int32) (x4 : Int32) (x5 : Int64) (x7 : Int32) (q : SS), bk11 x1 x3 x4 x5 x7 q = some (r, q2) → J [(0, .ref (ad 0)), (1, .long x1), (3, .int x3), (4, .int x4), (5, .long x5), (7, .int x7)] [] q 11) (x1 : Int64) (x3 : Int32) (x5 : Int64) (x7 : Int32) (x8 : Int32) (q : SS) (h : f9_letters_b61 N bk11 x1 x3 x5 x7 x8 q = some (r, q2)) : J [(0, .ref (ad 0)), (1, .long x1), (3, .int x3), (5, .long x5), (7, .int x7), (8, .int x8)] [] q 61 := by
  unfold f9_letters_b61 at h
  refine r_iconst hR dX9_letters_61 kc_iconst_0 ?_
  exact r_sub hR [0, 1, 2, 3, 4, 5] rfl (t9_letters_b62 hR N hP bk11 hbk11 _ _ _ _ _ _ _ h)
theorem t9_letters_b57 (hR : Rl wM 1 RX9 cX9_letters 9 (some .int) ad J P) (N : Nat) {r : Int32} {q2 : SS} (hP : P (some (.int r)) q2) (bk11 : Int64 → Int32 → Int32 → Int64 → Int32 → SS → Option (Int32 × SS)) (hbk11 : ∀ (x1 : Int64) (x3 : Int32) (x4 : Int32) (x5 : Int64) (x7 : Int32) (q : SS), bk11 x1 x3 x4 x5 x7 q = some (r, q2) → J [(0, .ref (ad 0)), (1, .long x1), (3, .int x3), (4, .int x4), (5, .long x5), (7, .int x7)] [] q 11) (x1 : Int64) (x3 : Int32) (x5 : Int64) (x7 : Int32) (x8 : Int32) (q : SS) (h : f9_letters_b57 N bk11 x1 x3 x5 x7 x8 q = some (r, q2)) : J [(0, .ref (ad 0)), (1, .long x1), (3, .int x3), (5, .long x5), (7, .int x7), (8, .int x8)] [] q 57 := by
  unfold f9_letters_b57 at h
  refine r_iconst hR dX9_letters_57 kc_iconst_1 ?_
  refine r_goto hR (tgt := 62) dX9_letters_58 (by decide) ?_
  exact r_sub hR [0, 1, 2, 3, 4, 5] rfl (t9_letters_b62 hR N hP bk11 hbk11 _ _ _ _ _ _ _ h)
theorem t9_letters_l11_B (hR : Rl wM 1 RX9 cX9_letters 9 (some .int) ad J P) (N : Nat) {r : Int32} {q2 : SS} (hP : P (some (.int r)) q2) (bk11 : Int64 → Int32 → Int32 → Int64 → Int32 → SS → Option (Int32 × SS)) (hbk11 : ∀ (x1 : Int64) (x3 : Int32) (x4 : Int32) (x5 : Int64) (x7 : Int32) (q : SS), bk11 x1 x3 x4 x5 x7 q = some (r, q2) → J [(0, .ref (ad 0)), (1, .long x1), (3, .int x3), (4, .int x4), (5, .long x5), (7, .int x7)] [] q 11) (x1 : Int64) (x3 : Int32) (x4 : Int32) (x5 : Int64) (x7 : Int32) (q : SS) (h : f9_letters_l11_B N bk11 x1 x3 x4 x5 x7 q = some (r, q2)) : J [(0, .ref (ad 0)), (1, .long x1), (3, .int x3), (4, .int x4), (5, .long x5), (7, .int x7)] [] q 11 := by
  unfold f9_letters_l11_B at h
  refine r_iload hR dX9_letters_11 5 rfl ?_
  refine r_bipush hR dX9_letters_13 kc_bipush_8 ?_
  refine r_icmp_ge hR (tgt := 83) dX9_letters_15 (by decide) (fun c_15 => ?_) (fun c_15 => ?_)
  · replace h := it_t c_15 h
    refine r_iload hR dX9_letters_83 3 rfl ?_
    refine r_if_ne hR (tgt := 91) dX9_letters_85 (by decide) (fun c_85 => ?_) (fun c_85 => ?_)
    · replace h := it_f c_85 h
      refine r_aload_n hR dX9_letters_91 rfl 0 rfl ?_
      refine g_X9_pageMany hR m_4_135 dX9_letters_92 ?_
      refine r_iload_n hR dX9_letters_95 rfl 2 rfl ?_
      refine r_iadd hR dX9_letters_96 ?_
      refine r_bipush hR dX9_letters_97 kc_bipush_40 ?_
      refine r_icmp_le hR (tgt := 105) dX9_letters_99 (by decide) (fun c_99 => ?_) (fun c_99 => ?_)
      · replace h := it_t c_99 h
        refine r_iconst hR dX9_letters_105 kc_iconst_0 ?_
        refine r_istore hR (i := 7) (lv' := [(7, .int (0 : Int32)), (0, .ref (ad 0)), (1, .long x1), (3, .int x3), (4, .int x4), (5, .long x5)]) dX9_letters_106 rfl (by decide) rfl ?_
        exact r_sub hR [1, 2, 3, 0] rfl (t9_letters_l108 hR N hP N _ _ _ _ h)
      · replace h := it_f c_99 h
        refine r_bipush hR dX9_letters_102 kc_bipush_m104 ?_
        exact r_iret hR dX9_letters_104 rfl (rt2 hP h)
    · replace h := it_t c_85 h
      refine r_bipush hR dX9_letters_88 kc_bipush_m102 ?_
      exact r_iret hR dX9_letters_90 rfl (rt2 hP h)
  · replace h := it_f c_15 h
    refine r_lload hR dX9_letters_18 4 rfl ?_
    refine r_ldc2 hR dX9_letters_20 m_5_4 ?_
    refine r_land hR dX9_letters_23 ?_
    refine r_l2i hR dX9_letters_24 ?_
    obtain ⟨x8_25, hx, h⟩ := bn_some h
    refine r_istore hR (i := 8) (lv' := [(8, .int x8_25), (0, .ref (ad 0)), (1, .long x1), (3, .int x3), (4, .int x4), (5, .long x5), (7, .int x7)]) dX9_letters_25 hx (by decide) rfl ?_
    refine r_lload hR dX9_letters_27 5 rfl ?_
    refine r_bipush hR dX9_letters_29 kc_bipush_8 ?_
    refine r_lushr hR dX9_letters_31 ?_
    obtain ⟨x5_32, hx, h⟩ := bn_some h
    refine r_lstore hR (i := 5) (lv' := [(5, .long x5_32), (8, .int x8_25), (0, .ref (ad 0)), (1, .long x1), (3, .int x3), (4, .int x4), (7, .int x7)]) dX9_letters_32 hx (by decide) rfl ?_
    refine r_iload hR dX9_letters_34 5 rfl ?_
    refine r_if_eq hR (tgt := 61) dX9_letters_36 (by decide) (fun c_36 => ?_) (fun c_36 => ?_)
    · replace h := it_t c_36 h
      exact r_sub hR [2, 3, 4, 0, 6, 1] rfl (t9_letters_b61 hR N hP bk11 hbk11 _ _ _ _ _ _ h)
    · replace h := it_f c_36 h
      refine r_iload hR dX9_letters_39 1 rfl ?_
      refine r_bipush hR dX9_letters_41 kc_bipush_126 ?_
      refine r_icmp_gt hR (tgt := 61) dX9_letters_43 (by decide) (fun c_43 => ?_) (fun c_43 => ?_)
      · replace h := it_t c_43 h
        exact r_sub hR [2, 3, 4, 0, 6, 1] rfl (t9_letters_b61 hR N hP bk11 hbk11 _ _ _ _ _ _ h)
      · replace h := it_f c_43 h
        refine r_iload hR dX9_letters_46 1 rfl ?_
        refine r_if_eq hR (tgt := 57) dX9_letters_48 (by decide) (fun c_48 => ?_) (fun c_48 => ?_)
        · replace h := it_t c_48 h
          exact r_sub hR [2, 3, 4, 0, 6, 1] rfl (t9_letters_b57 hR N hP bk11 hbk11 _ _ _ _ _ _ h)
        · replace h := it_f c_48 h
          refine r_iload_n hR dX9_letters_51 rfl 4 rfl ?_
          refine r_iload hR dX9_letters_52 6 rfl ?_
          refine r_icmp_ne hR (tgt := 61) dX9_letters_54 (by decide) (fun c_54 => ?_) (fun c_54 => ?_)
          · replace h := it_f c_54 h
            exact r_sub hR [2, 3, 4, 0, 6, 1] rfl (t9_letters_b61 hR N hP bk11 hbk11 _ _ _ _ _ _ h)
          · replace h := it_t c_54 h
            exact r_sub hR [2, 3, 4, 0, 6, 1] rfl (t9_letters_b57 hR N hP bk11 hbk11 _ _ _ _ _ _ h)
theorem t9_letters_l11 (hR : Rl wM 1 RX9 cX9_letters 9 (some .int) ad J P) (N : Nat) {r : Int32} {q2 : SS} (hP : P (some (.int r)) q2) : ∀ (n : Nat) (x1 : Int64) (x3 : Int32) (x4 : Int32) (x5 : Int64) (x7 : Int32) (q : SS), f9_letters_l11 N n x1 x3 x4 x5 x7 q = some (r, q2) → J [(0, .ref (ad 0)), (1, .long x1), (3, .int x3), (4, .int x4), (5, .long x5), (7, .int x7)] [] q 11 := by
  intro n
  induction n with
  | zero => intro x1 x3 x4 x5 x7 q h; exact mu_noneF h
  | succ n ih => intro x1 x3 x4 x5 x7 q h; exact t9_letters_l11_B hR N hP _ ih x1 x3 x4 x5 x7 q h
theorem t9_letters (hR : Rl wM 1 RX9 cX9_letters 9 (some .int) ad J P) (N : Nat) {r : Int32} {q2 : SS} (hP : P (some (.int r)) q2) (x1 : Int64) (q : SS) (h : f9_letters N x1 q = some (r, q2)) : J [(0, .ref (ad 0)), (1, .long x1)] [] q 0 := by
  unfold f9_letters at h
  refine r_iconst hR dX9_letters_0 kc_iconst_0 ?_
  refine r_istore_n hR (i := 3) (lv' := [(3, .int (0 : Int32)), (0, .ref (ad 0)), (1, .long x1)]) dX9_letters_1 rfl rfl (by decide) rfl ?_
  refine r_iconst hR dX9_letters_2 kc_iconst_1 ?_
  refine r_istore hR (i := 4) (lv' := [(4, .int (1 : Int32)), (3, .int (0 : Int32)), (0, .ref (ad 0)), (1, .long x1)]) dX9_letters_3 rfl (by decide) rfl ?_
  refine r_lload_n hR dX9_letters_5 rfl 3 rfl ?_
  refine r_lstore hR (i := 5) (lv' := [(5, .long x1), (4, .int (1 : Int32)), (3, .int (0 : Int32)), (0, .ref (ad 0)), (1, .long x1)]) dX9_letters_6 rfl (by decide) rfl ?_
  refine r_iconst hR dX9_letters_8 kc_iconst_0 ?_
  refine r_istore hR (i := 7) (lv' := [(7, .int (0 : Int32)), (5, .long x1), (4, .int (1 : Int32)), (3, .int (0 : Int32)), (0, .ref (ad 0)), (1, .long x1)]) dX9_letters_9 rfl (by decide) rfl ?_
  exact r_sub hR [4, 5, 3, 2, 1, 0] rfl (t9_letters_l11 hR N hP N _ _ _ _ _ _ h)
theorem c9_letters (N : Nat) {x1 : Int64} {q : SS} {r : Int32} {q2 : SS} (h : f9_letters N x1 q = some (r, q2)) : Ct wM 1 yX9_letters cX9_letters 9 (some .int) (fun ad => [.ref (ad 0), .long x1]) q (fun _ => some (.int r)) q2 :=
  ct_of (by decide) (fun _ => Nat.le_of_ble_eq_true rfl) (fun ad J hR => t9_letters hR N ⟨rfl, rfl⟩ x1 q h)
theorem t9_blank (hR : Rl wM 1 RX9 cX9_blank 2 (some .int) ad J P) {r : Int32} {q2 : SS} (hP : P (some (.int r)) q2) (q : SS) (h : f9_blank q = some (r, q2)) : J [(0, .ref (ad 0))] [] q 0 := by
  unfold f9_blank at h
  refine r_aload_n hR dX9_blank_0 rfl 0 rfl ?_
  refine g_X9_pageMany hR m_4_135 dX9_blank_1 ?_
  obtain ⟨x1_4, hx, h⟩ := bn_some h
  refine r_istore_n hR (i := 1) (lv' := [(1, .int x1_4), (0, .ref (ad 0))]) dX9_blank_4 hx rfl (by decide) rfl ?_
  refine r_aload_n hR dX9_blank_5 rfl 1 rfl ?_
  refine r_iconst hR dX9_blank_6 kc_iconst_0 ?_
  obtain ⟨q_7, hq, h⟩ := bn_some h
  refine p_X9_pageMany hR m_4_135 dX9_blank_7 hq ?_
  refine r_iload_n hR dX9_blank_10 rfl 0 rfl ?_
  exact r_iret hR dX9_blank_11 rfl (rt2 hP h)
theorem c9_blank {q : SS} {r : Int32} {q2 : SS} (h : f9_blank q = some (r, q2)) : Ct wM 1 yX9_blank cX9_blank 2 (some .int) (fun ad => [.ref (ad 0)]) q (fun _ => some (.int r)) q2 :=
  ct_of (by decide) (fun _ => Nat.le_of_ble_eq_true rfl) (fun ad J hR => t9_blank hR ⟨rfl, rfl⟩ q h)
theorem t9_endPlan (hR : Rl wM 1 RX9 cX9_endPlan 1 none ad J P) {q2 : SS} (hP : P none q2) (q : SS) (h : f9_endPlan q = some q2) : J [(0, .ref (ad 0))] [] q 0 := by
  unfold f9_endPlan at h
  refine r_aload_n hR dX9_endPlan_0 rfl 0 rfl ?_
  refine g_X9_depth hR m_4_137 dX9_endPlan_1 ?_
  refine r_if_ne hR (tgt := 15) dX9_endPlan_4 (by decide) (fun c_4 => ?_) (fun c_4 => ?_)
  · replace h := it_f c_4 h
    refine r_aload_n hR dX9_endPlan_15 rfl 0 rfl ?_
    refine g_X9_open hR m_4_136 dX9_endPlan_16 ?_
    refine r_aload_n hR dX9_endPlan_19 rfl 0 rfl ?_
    refine g_X9_depth hR m_4_137 dX9_endPlan_20 ?_
    refine r_iconst hR dX9_endPlan_23 kc_iconst_1 ?_
    refine r_isub hR dX9_endPlan_24 ?_
    refine r_dup2 hR dX9_endPlan_25 rfl rfl ?_
    obtain ⟨hin, h⟩ := ck_some h
    refine ld_X9_open hR dX9_endPlan_26 hin ?_
    refine r_iconst hR dX9_endPlan_27 kc_iconst_1 ?_
    refine r_iadd hR dX9_endPlan_28 ?_
    obtain ⟨hin, h⟩ := ck_some h
    obtain ⟨q_29, hq, h⟩ := bn_some h
    refine sv_X9_open hR dX9_endPlan_29 hin hq ?_
    exact r_vret hR dX9_endPlan_30 rfl (rtv hP h)
  · replace h := it_t c_4 h
    refine r_aload_n hR dX9_endPlan_7 rfl 0 rfl ?_
    refine r_iconst hR dX9_endPlan_8 kc_iconst_1 ?_
    obtain ⟨q_9, hq, h⟩ := bn_some h
    refine p_X9_isDone hR m_4_140 dX9_endPlan_9 (Or.inr rfl) hq ?_
    refine r_goto hR (tgt := 30) dX9_endPlan_12 (by decide) ?_
    exact r_vret hR dX9_endPlan_30 rfl (rtv hP h)
theorem c9_endPlan {q : SS} {q2 : SS} (h : f9_endPlan q = some q2) : Ct wM 1 yX9_endPlan cX9_endPlan 1 none (fun ad => [.ref (ad 0)]) q (fun _ => none) q2 :=
  ct_of (by decide) (fun _ => Nat.le_of_ble_eq_true rfl) (fun ad J hR => t9_endPlan hR ⟨rfl, rfl⟩ q h)
theorem t9_go_b245 (hR : Rl wM 3 RX9 cX9_go 4 (some .boolean) ad J P) (N : Nat) {r : Int32} {q2 : SS} (hP : P (some (.int r)) q2) (q : SS) (h : f9_go_b245 N q = some (r, q2)) : J [] [] q 245 := by
  unfold f9_go_b245 at h
  refine r_iconst hR dX9_go_245 kc_iconst_1 ?_
  refine r_goto hR (tgt := 250) dX9_go_246 (by decide) ?_
  exact r_zret hR dX9_go_250 rfl (Or.inr rfl) (rt2 hP h)
theorem t9_go_b187 (hR : Rl wM 3 RX9 cX9_go 4 (some .boolean) ad J P) (N : Nat) {r : Int32} {q2 : SS} (hP : P (some (.int r)) q2) (x1 : Int32) (x2 : Int32) (q : SS) (h : f9_go_b187 N x1 x2 q = some (r, q2)) : J [(0, .ref (ad 0)), (1, .int x1), (2, .int x2)] [] q 187 := by
  unfold f9_go_b187 at h
  refine r_aload_n hR dX9_go_187 rfl 0 rfl ?_
  refine g_X9_isDone hR m_4_140 dX9_go_188 ?_
  refine r_if_ne hR (tgt := 198) dX9_go_191 (by decide) (fun c_191 => ?_) (fun c_191 => ?_)
  · replace h := it_f c_191 h
    refine r_iconst hR dX9_go_198 kc_iconst_0 ?_
    exact r_zret hR dX9_go_199 rfl (Or.inl rfl) (rt2 hP h)
  · replace h := it_t c_191 h
    refine r_iload_n hR dX9_go_194 rfl 2 rfl ?_
    refine r_if_eq hR (tgt := 200) dX9_go_195 (by decide) (fun c_195 => ?_) (fun c_195 => ?_)
    · replace h := it_t c_195 h
      refine r_aload_n hR dX9_go_200 rfl 0 rfl ?_
      refine g_X9_open hR m_4_136 dX9_go_201 ?_
      refine r_aload_n hR dX9_go_204 rfl 0 rfl ?_
      refine g_X9_depth hR m_4_137 dX9_go_205 ?_
      refine r_iconst hR dX9_go_208 kc_iconst_1 ?_
      refine r_isub hR dX9_go_209 ?_
      obtain ⟨hin, h⟩ := ck_some h
      refine ld_X9_open hR dX9_go_210 hin ?_
      refine r_iconst hR dX9_go_211 kc_iconst_1 ?_
      refine r_icmp_ne hR (tgt := 251) dX9_go_212 (by decide) (fun c_212 => ?_) (fun c_212 => ?_)
      · replace h := it_f c_212 h
        refine r_aload_n hR dX9_go_251 rfl 0 rfl ?_
        refine r_dup hR dX9_go_252 rfl ?_
        refine g_X9_depth hR m_4_137 dX9_go_253 ?_
        refine r_iconst hR dX9_go_256 kc_iconst_1 ?_
        refine r_isub hR dX9_go_257 ?_
        obtain ⟨q_258, hq, h⟩ := bn_some h
        refine p_X9_depth hR m_4_137 dX9_go_258 hq ?_
        refine r_aload_n hR dX9_go_261 rfl 0 rfl ?_
        obtain ⟨q_262, hc, h⟩ := bd_some h
        refine r_callVv hR (c9_endPlan hc) (cf_X9_220 (by decide)) ⟨m_5_184, ms_4_13⟩ (As := []) (q0 := 0) (ci := 7) rfl rfl rfl rfl (rc_X9 ad _) (Nat.le_of_ble_eq_true rfl) rfl dX9_go_262 ?_
        refine r_iload_n hR dX9_go_265 rfl 1 rfl ?_
        refine r_bipush hR dX9_go_266 kc_bipush_41 ?_
        refine r_icmp_ne hR (tgt := 275) dX9_go_268 (by decide) (fun c_268 => ?_) (fun c_268 => ?_)
        · replace h := it_f c_268 h
          refine r_iconst hR dX9_go_275 kc_iconst_0 ?_
          exact r_zret hR dX9_go_276 rfl (Or.inl rfl) (rt2 hP h)
        · replace h := it_t c_268 h
          refine r_iconst hR dX9_go_271 kc_iconst_1 ?_
          refine r_goto hR (tgt := 276) dX9_go_272 (by decide) ?_
          exact r_zret hR dX9_go_276 rfl (Or.inr rfl) (rt2 hP h)
      · replace h := it_t c_212 h
        refine r_aload_n hR dX9_go_215 rfl 0 rfl ?_
        refine g_X9_open hR m_4_136 dX9_go_216 ?_
        refine r_aload_n hR dX9_go_219 rfl 0 rfl ?_
        refine g_X9_depth hR m_4_137 dX9_go_220 ?_
        refine r_iconst hR dX9_go_223 kc_iconst_1 ?_
        refine r_isub hR dX9_go_224 ?_
        refine r_iconst hR dX9_go_225 kc_iconst_2 ?_
        obtain ⟨hin, h⟩ := ck_some h
        obtain ⟨q_226, hq, h⟩ := bn_some h
        refine sv_X9_open hR dX9_go_226 hin hq ?_
        refine r_iload_n hR dX9_go_227 rfl 1 rfl ?_
        refine r_bipush hR dX9_go_228 kc_bipush_108 ?_
        refine r_icmp_eq hR (tgt := 245) dX9_go_230 (by decide) (fun c_230 => ?_) (fun c_230 => ?_)
        · replace h := it_t c_230 h
          exact r_sub hR [] rfl (t9_go_b245 hR N hP _ h)
        · replace h := it_f c_230 h
          refine r_iload_n hR dX9_go_233 rfl 1 rfl ?_
          refine r_bipush hR dX9_go_234 kc_bipush_112 ?_
          refine r_icmp_eq hR (tgt := 245) dX9_go_236 (by decide) (fun c_236 => ?_) (fun c_236 => ?_)
          · replace h := it_t c_236 h
            exact r_sub hR [] rfl (t9_go_b245 hR N hP _ h)
          · replace h := it_f c_236 h
            refine r_iload_n hR dX9_go_239 rfl 1 rfl ?_
            refine r_bipush hR dX9_go_240 kc_bipush_115 ?_
            refine r_icmp_ne hR (tgt := 249) dX9_go_242 (by decide) (fun c_242 => ?_) (fun c_242 => ?_)
            · replace h := it_f c_242 h
              refine r_iconst hR dX9_go_249 kc_iconst_0 ?_
              exact r_zret hR dX9_go_250 rfl (Or.inl rfl) (rt2 hP h)
            · replace h := it_t c_242 h
              exact r_sub hR [] rfl (t9_go_b245 hR N hP _ h)
    · replace h := it_f c_195 h
      refine r_iconst hR dX9_go_198 kc_iconst_0 ?_
      exact r_zret hR dX9_go_199 rfl (Or.inl rfl) (rt2 hP h)
theorem t9_go_b122 (hR : Rl wM 3 RX9 cX9_go 4 (some .boolean) ad J P) (N : Nat) {r : Int32} {q2 : SS} (hP : P (some (.int r)) q2) (x1 : Int32) (x2 : Int32) (q : SS) (h : f9_go_b122 N x1 x2 q = some (r, q2)) : J [(0, .ref (ad 0)), (1, .int x1), (2, .int x2)] [] q 122 := by
  unfold f9_go_b122 at h
  refine r_iload_n hR dX9_go_122 rfl 2 rfl ?_
  refine r_if_eq hR (tgt := 187) dX9_go_123 (by decide) (fun c_123 => ?_) (fun c_123 => ?_)
  · replace h := it_t c_123 h
    exact r_sub hR [0, 1, 2] rfl (t9_go_b187 hR N hP _ _ _ h)
  · replace h := it_f c_123 h
    refine r_iload_n hR dX9_go_126 rfl 1 rfl ?_
    refine r_bipush hR dX9_go_127 kc_bipush_40 ?_
    refine r_icmp_ne hR (tgt := 187) dX9_go_129 (by decide) (fun c_129 => ?_) (fun c_129 => ?_)
    · replace h := it_f c_129 h
      exact r_sub hR [0, 1, 2] rfl (t9_go_b187 hR N hP _ _ _ h)
    · replace h := it_t c_129 h
      refine r_aload_n hR dX9_go_132 rfl 0 rfl ?_
      refine r_dup hR dX9_go_133 rfl ?_
      refine g_X9_dueMany hR m_4_139 dX9_go_134 ?_
      refine r_iconst hR dX9_go_137 kc_iconst_1 ?_
      refine r_iadd hR dX9_go_138 ?_
      obtain ⟨q_139, hq, h⟩ := bn_some h
      refine p_X9_dueMany hR m_4_139 dX9_go_139 hq ?_
      refine r_aload_n hR dX9_go_142 rfl 0 rfl ?_
      refine g_X9_open hR m_4_136 dX9_go_143 ?_
      refine r_aload_n hR dX9_go_146 rfl 0 rfl ?_
      refine g_X9_depth hR m_4_137 dX9_go_147 ?_
      refine r_iconst hR dX9_go_150 kc_iconst_0 ?_
      obtain ⟨hin, h⟩ := ck_some h
      obtain ⟨q_151, hq, h⟩ := bn_some h
      refine sv_X9_open hR dX9_go_151 hin hq ?_
      refine r_aload_n hR dX9_go_152 rfl 0 rfl ?_
      refine r_dup hR dX9_go_153 rfl ?_
      refine g_X9_depth hR m_4_137 dX9_go_154 ?_
      refine r_iconst hR dX9_go_157 kc_iconst_1 ?_
      refine r_iadd hR dX9_go_158 ?_
      obtain ⟨q_159, hq, h⟩ := bn_some h
      refine p_X9_depth hR m_4_137 dX9_go_159 hq ?_
      refine r_aload_n hR dX9_go_162 rfl 0 rfl ?_
      refine g_X9_used hR m_4_138 dX9_go_163 ?_
      obtain ⟨r_166, hc, h⟩ := bd_some h
      refine r_callSi hR (c9_bitsOf N hc) (cf_X9_98 (by decide)) m_5_9 (As := [.int (fi q_159 7)]) rfl rfl (Nat.le_of_ble_eq_true rfl) rfl dX9_go_166 ?_
      refine r_aload_n hR dX9_go_169 rfl 0 rfl ?_
      refine g_X9_dueMany hR m_4_139 dX9_go_170 ?_
      refine r_iadd hR dX9_go_173 ?_
      refine r_aload_n hR dX9_go_174 rfl 0 rfl ?_
      refine g_X9_tables hR m_4_119 dX9_go_175 ?_
      refine r_icmp_gt hR (tgt := 185) dX9_go_178 (by decide) (fun c_178 => ?_) (fun c_178 => ?_)
      · replace h := it_t c_178 h
        refine r_iconst hR dX9_go_185 kc_iconst_0 ?_
        exact r_zret hR dX9_go_186 rfl (Or.inl rfl) (rt2 hP h)
      · replace h := it_f c_178 h
        refine r_iconst hR dX9_go_181 kc_iconst_1 ?_
        refine r_goto hR (tgt := 186) dX9_go_182 (by decide) ?_
        exact r_zret hR dX9_go_186 rfl (Or.inr rfl) (rt2 hP h)
theorem t9_go_b48 (hR : Rl wM 3 RX9 cX9_go 4 (some .boolean) ad J P) (N : Nat) {r : Int32} {q2 : SS} (hP : P (some (.int r)) q2) (x1 : Int32) (s0 : Int32) (q : SS) (h : f9_go_b48 N x1 s0 q = some (r, q2)) : J [(0, .ref (ad 0)), (1, .int x1)] [.int s0] q 48 := by
  unfold f9_go_b48 at h
  refine r_istore_n hR (i := 2) (lv' := [(2, .int s0), (0, .ref (ad 0)), (1, .int x1)]) dX9_go_48 rfl rfl (by decide) rfl ?_
  refine r_iload_n hR dX9_go_49 rfl 0 rfl ?_
  refine r_if_eq hR (tgt := 122) dX9_go_50 (by decide) (fun c_50 => ?_) (fun c_50 => ?_)
  · replace h := it_t c_50 h
    exact r_sub hR [1, 2, 0] rfl (t9_go_b122 hR N hP _ _ _ h)
  · replace h := it_f c_50 h
    refine r_iload_n hR dX9_go_53 rfl 2 rfl ?_
    refine r_i2l hR dX9_go_54 ?_
    refine r_ldc2 hR dX9_go_55 m_5_180 ?_
    refine r_ldc2 hR dX9_go_58 m_5_181 ?_
    obtain ⟨r_61, hc, h⟩ := bd_some h
    refine r_callSi hR (c9_in hc) (cf_X9_92 (by decide)) m_5_6 (As := [.long (Int32.toInt64 x1), .long (48 : Int64), .long (53 : Int64)]) rfl rfl (Nat.le_of_ble_eq_true rfl) rfl dX9_go_61 ?_
    refine r_if_eq hR (tgt := 122) dX9_go_64 (by decide) (fun c_64 => ?_) (fun c_64 => ?_)
    · replace h := it_t c_64 h
      exact r_sub hR [1, 2, 0] rfl (t9_go_b122 hR N hP _ _ _ h)
    · replace h := it_f c_64 h
      refine r_iload_n hR dX9_go_67 rfl 2 rfl ?_
      refine r_bipush hR dX9_go_68 kc_bipush_48 ?_
      refine r_isub hR dX9_go_70 ?_
      obtain ⟨x3_71, hx, h⟩ := bn_some h
      refine r_istore_n hR (i := 3) (lv' := [(3, .int x3_71), (2, .int s0), (0, .ref (ad 0)), (1, .int x1)]) dX9_go_71 hx rfl (by decide) rfl ?_
      refine r_aload_n hR dX9_go_72 rfl 2 rfl ?_
      refine r_iload_n hR dX9_go_73 rfl 0 rfl ?_
      obtain ⟨r_74, hc, h⟩ := bd_some h
      refine r_callVi hR (c9_isTable hc) (cf_X9_116 (by decide)) ⟨m_5_18, ms_3_6⟩ (As := [.int x3_71]) (q0 := 0) (ci := 7) rfl rfl rfl rfl (rc_X9 ad _) (Nat.le_of_ble_eq_true rfl) rfl dX9_go_74 ?_
      refine r_if_eq hR (tgt := 92) dX9_go_77 (by decide) (fun c_77 => ?_) (fun c_77 => ?_)
      · replace h := it_t c_77 h
        refine r_iconst hR dX9_go_92 kc_iconst_0 ?_
        exact r_zret hR dX9_go_93 rfl (Or.inl rfl) (rt2 hP h)
      · replace h := it_f c_77 h
        refine r_aload_n hR dX9_go_80 rfl 2 rfl ?_
        refine g_X9_used hR m_4_138 dX9_go_81 ?_
        refine r_iload_n hR dX9_go_84 rfl 0 rfl ?_
        refine r_ishr hR dX9_go_85 ?_
        refine r_iconst hR dX9_go_86 kc_iconst_1 ?_
        refine r_iand hR dX9_go_87 ?_
        refine r_iconst hR dX9_go_88 kc_iconst_1 ?_
        refine r_icmp_ne hR (tgt := 94) dX9_go_89 (by decide) (fun c_89 => ?_) (fun c_89 => ?_)
        · replace h := it_f c_89 h
          refine r_aload_n hR dX9_go_94 rfl 2 rfl ?_
          refine r_dup hR dX9_go_95 rfl ?_
          refine g_X9_used hR m_4_138 dX9_go_96 ?_
          refine r_iconst hR dX9_go_99 kc_iconst_1 ?_
          refine r_iload_n hR dX9_go_100 rfl 0 rfl ?_
          refine r_ishl hR dX9_go_101 ?_
          refine r_ior hR dX9_go_102 ?_
          obtain ⟨q_103, hq, h⟩ := bn_some h
          refine p_X9_used hR m_4_138 dX9_go_103 hq ?_
          refine r_aload_n hR dX9_go_106 rfl 2 rfl ?_
          refine r_dup hR dX9_go_107 rfl ?_
          refine g_X9_dueMany hR m_4_139 dX9_go_108 ?_
          refine r_iconst hR dX9_go_111 kc_iconst_1 ?_
          refine r_isub hR dX9_go_112 ?_
          obtain ⟨q_113, hq, h⟩ := bn_some h
          refine p_X9_dueMany hR m_4_139 dX9_go_113 hq ?_
          refine r_aload_n hR dX9_go_116 rfl 2 rfl ?_
          obtain ⟨q_117, hc, h⟩ := bd_some h
          refine r_callVv hR (c9_endPlan hc) (cf_X9_220 (by decide)) ⟨m_5_184, ms_4_13⟩ (As := []) (q0 := 0) (ci := 7) rfl rfl rfl rfl (rc_X9 ad _) (Nat.le_of_ble_eq_true rfl) rfl dX9_go_117 ?_
          refine r_iconst hR dX9_go_120 kc_iconst_1 ?_
          exact r_zret hR dX9_go_121 rfl (Or.inr rfl) (rt2 hP h)
        · replace h := it_t c_89 h
          refine r_iconst hR dX9_go_92 kc_iconst_0 ?_
          exact r_zret hR dX9_go_93 rfl (Or.inl rfl) (rt2 hP h)
theorem t9_go_b47 (hR : Rl wM 3 RX9 cX9_go 4 (some .boolean) ad J P) (N : Nat) {r : Int32} {q2 : SS} (hP : P (some (.int r)) q2) (x1 : Int32) (q : SS) (h : f9_go_b47 N x1 q = some (r, q2)) : J [(0, .ref (ad 0)), (1, .int x1)] [] q 47 := by
  unfold f9_go_b47 at h
  refine r_iconst hR dX9_go_47 kc_iconst_0 ?_
  exact r_sub hR [0, 1] rfl (t9_go_b48 hR N hP _ _ _ h)
theorem t9_go_b43 (hR : Rl wM 3 RX9 cX9_go 4 (some .boolean) ad J P) (N : Nat) {r : Int32} {q2 : SS} (hP : P (some (.int r)) q2) (x1 : Int32) (q : SS) (h : f9_go_b43 N x1 q = some (r, q2)) : J [(0, .ref (ad 0)), (1, .int x1)] [] q 43 := by
  unfold f9_go_b43 at h
  refine r_iconst hR dX9_go_43 kc_iconst_1 ?_
  refine r_goto hR (tgt := 48) dX9_go_44 (by decide) ?_
  exact r_sub hR [0, 1] rfl (t9_go_b48 hR N hP _ _ _ h)
theorem t9_go (hR : Rl wM 3 RX9 cX9_go 4 (some .boolean) ad J P) (N : Nat) {r : Int32} {q2 : SS} (hP : P (some (.int r)) q2) (x1 : Int32) (q : SS) (h : f9_go N x1 q = some (r, q2)) : J [(0, .ref (ad 0)), (1, .int x1)] [] q 0 := by
  unfold f9_go at h
  refine r_aload_n hR dX9_go_0 rfl 0 rfl ?_
  refine g_X9_isDone hR m_4_140 dX9_go_1 ?_
  refine r_if_ne hR (tgt := 47) dX9_go_4 (by decide) (fun c_4 => ?_) (fun c_4 => ?_)
  · replace h := it_f c_4 h
    exact r_sub hR [0, 1] rfl (t9_go_b47 hR N hP _ _ h)
  · replace h := it_t c_4 h
    refine r_aload_n hR dX9_go_7 rfl 0 rfl ?_
    refine g_X9_depth hR m_4_137 dX9_go_8 ?_
    refine r_if_eq hR (tgt := 43) dX9_go_11 (by decide) (fun c_11 => ?_) (fun c_11 => ?_)
    · replace h := it_t c_11 h
      exact r_sub hR [0, 1] rfl (t9_go_b43 hR N hP _ _ h)
    · replace h := it_f c_11 h
      refine r_aload_n hR dX9_go_14 rfl 0 rfl ?_
      refine g_X9_open hR m_4_136 dX9_go_15 ?_
      refine r_aload_n hR dX9_go_18 rfl 0 rfl ?_
      refine g_X9_depth hR m_4_137 dX9_go_19 ?_
      refine r_iconst hR dX9_go_22 kc_iconst_1 ?_
      refine r_isub hR dX9_go_23 ?_
      obtain ⟨hin, h⟩ := ck_some h
      refine ld_X9_open hR dX9_go_24 hin ?_
      refine r_if_eq hR (tgt := 43) dX9_go_25 (by decide) (fun c_25 => ?_) (fun c_25 => ?_)
      · replace h := it_t c_25 h
        exact r_sub hR [0, 1] rfl (t9_go_b43 hR N hP _ _ h)
      · replace h := it_f c_25 h
        refine r_aload_n hR dX9_go_28 rfl 0 rfl ?_
        refine g_X9_open hR m_4_136 dX9_go_29 ?_
        refine r_aload_n hR dX9_go_32 rfl 0 rfl ?_
        refine g_X9_depth hR m_4_137 dX9_go_33 ?_
        refine r_iconst hR dX9_go_36 kc_iconst_1 ?_
        refine r_isub hR dX9_go_37 ?_
        obtain ⟨hin, h⟩ := ck_some h
        refine ld_X9_open hR dX9_go_38 hin ?_
        refine r_iconst hR dX9_go_39 kc_iconst_2 ?_
        refine r_icmp_ne hR (tgt := 47) dX9_go_40 (by decide) (fun c_40 => ?_) (fun c_40 => ?_)
        · replace h := it_f c_40 h
          exact r_sub hR [0, 1] rfl (t9_go_b47 hR N hP _ _ h)
        · replace h := it_t c_40 h
          exact r_sub hR [0, 1] rfl (t9_go_b43 hR N hP _ _ h)
theorem c9_go (N : Nat) {x1 : Int32} {q : SS} {r : Int32} {q2 : SS} (h : f9_go N x1 q = some (r, q2)) : Ct wM 3 yX9_go cX9_go 4 (some .boolean) (fun ad => [.ref (ad 0), .int x1]) q (fun _ => some (.int r)) q2 :=
  ct_of (by decide) (fun _ => Nat.le_of_ble_eq_true rfl) (fun ad J hR => t9_go hR N ⟨rfl, rfl⟩ x1 q h)
theorem t9_goodOf_l22_B (hR : Rl wM 4 RX9 cX9_goodOf 2 (some .int) ad J P) (N : Nat) {r : Int32} {q2 : SS} (hP : P (some (.int r)) q2) (bk22 : Int32 → SS → Option (Int32 × SS)) (hbk22 : ∀ (x1 : Int32) (q : SS), bk22 x1 q = some (r, q2) → J [(0, .ref (ad 0)), (1, .int x1)] [] q 22) (x1 : Int32) (q : SS) (h : f9_goodOf_l22_B N bk22 x1 q = some (r, q2)) : J [(0, .ref (ad 0)), (1, .int x1)] [] q 22 := by
  unfold f9_goodOf_l22_B at h
  refine r_aload_n hR dX9_goodOf_22 rfl 0 rfl ?_
  refine g_X9_tables hR m_4_119 dX9_goodOf_23 ?_
  refine r_if_le hR (tgt := 56) dX9_goodOf_26 (by decide) (fun c_26 => ?_) (fun c_26 => ?_)
  · replace h := it_t c_26 h
    refine r_iload_n hR dX9_goodOf_56 rfl 1 rfl ?_
    exact r_iret hR dX9_goodOf_57 rfl (rt2 hP h)
  · replace h := it_f c_26 h
    refine r_iload_n hR dX9_goodOf_29 rfl 1 rfl ?_
    refine r_aload_n hR dX9_goodOf_30 rfl 0 rfl ?_
    refine g_X9_pageMany hR m_4_135 dX9_goodOf_31 ?_
    refine r_icmp_ge hR (tgt := 56) dX9_goodOf_34 (by decide) (fun c_34 => ?_) (fun c_34 => ?_)
    · replace h := it_t c_34 h
      refine r_iload_n hR dX9_goodOf_56 rfl 1 rfl ?_
      exact r_iret hR dX9_goodOf_57 rfl (rt2 hP h)
    · replace h := it_f c_34 h
      refine r_aload_n hR dX9_goodOf_37 rfl 0 rfl ?_
      refine r_aload_n hR dX9_goodOf_38 rfl 0 rfl ?_
      refine g_X9_page hR m_4_134 dX9_goodOf_39 ?_
      refine r_iload_n hR dX9_goodOf_42 rfl 1 rfl ?_
      obtain ⟨hin, h⟩ := ck_some h
      refine ld_X9_page hR dX9_goodOf_43 hin ?_
      obtain ⟨r_44, q_44, hc, h⟩ := bd2_some h
      refine r_callVi hR (c9_go N hc) (cf_X9_223 (by decide)) ⟨m_5_178, ms_4_12⟩ (As := [.int (ar q 11 (ix x1))]) (q0 := 0) (ci := 7) rfl rfl rfl rfl (rc_X9 ad _) (Nat.le_of_ble_eq_true rfl) rfl dX9_goodOf_44 ?_
      refine r_if_eq hR (tgt := 56) dX9_goodOf_47 (by decide) (fun c_47 => ?_) (fun c_47 => ?_)
      · replace h := it_t c_47 h
        refine r_iload_n hR dX9_goodOf_56 rfl 1 rfl ?_
        exact r_iret hR dX9_goodOf_57 rfl (rt2 hP h)
      · replace h := it_f c_47 h
        obtain ⟨x1_50, hx, h⟩ := bn_some h
        refine r_iinc hR (i := 1) (lv' := [(1, .int x1_50), (0, .ref (ad 0))]) dX9_goodOf_50 1 rfl (inc_ok hx kc_iconst_1) (by decide) rfl ?_
        refine r_goto hR (tgt := 22) dX9_goodOf_53 (by decide) ?_
        exact r_sub hR [1, 0] rfl (hbk22 _ _ h)
theorem t9_goodOf_l22 (hR : Rl wM 4 RX9 cX9_goodOf 2 (some .int) ad J P) (N : Nat) {r : Int32} {q2 : SS} (hP : P (some (.int r)) q2) : ∀ (n : Nat) (x1 : Int32) (q : SS), f9_goodOf_l22 N n x1 q = some (r, q2) → J [(0, .ref (ad 0)), (1, .int x1)] [] q 22 := by
  intro n
  induction n with
  | zero => intro x1 q h; exact mu_noneF h
  | succ n ih => intro x1 q h; exact t9_goodOf_l22_B hR N hP _ ih x1 q h
theorem t9_goodOf (hR : Rl wM 4 RX9 cX9_goodOf 2 (some .int) ad J P) (N : Nat) {r : Int32} {q2 : SS} (hP : P (some (.int r)) q2) (q : SS) (h : f9_goodOf N q = some (r, q2)) : J [(0, .ref (ad 0))] [] q 0 := by
  unfold f9_goodOf at h
  refine r_aload_n hR dX9_goodOf_0 rfl 0 rfl ?_
  refine r_iconst hR dX9_goodOf_1 kc_iconst_0 ?_
  obtain ⟨q_2, hq, h⟩ := bn_some h
  refine p_X9_depth hR m_4_137 dX9_goodOf_2 hq ?_
  refine r_aload_n hR dX9_goodOf_5 rfl 0 rfl ?_
  refine r_iconst hR dX9_goodOf_6 kc_iconst_0 ?_
  obtain ⟨q_7, hq, h⟩ := bn_some h
  refine p_X9_used hR m_4_138 dX9_goodOf_7 hq ?_
  refine r_aload_n hR dX9_goodOf_10 rfl 0 rfl ?_
  refine r_iconst hR dX9_goodOf_11 kc_iconst_1 ?_
  obtain ⟨q_12, hq, h⟩ := bn_some h
  refine p_X9_dueMany hR m_4_139 dX9_goodOf_12 hq ?_
  refine r_aload_n hR dX9_goodOf_15 rfl 0 rfl ?_
  refine r_iconst hR dX9_goodOf_16 kc_iconst_0 ?_
  obtain ⟨q_17, hq, h⟩ := bn_some h
  refine p_X9_isDone hR m_4_140 dX9_goodOf_17 (Or.inl rfl) hq ?_
  refine r_iconst hR dX9_goodOf_20 kc_iconst_0 ?_
  refine r_istore_n hR (i := 1) (lv' := [(1, .int (0 : Int32)), (0, .ref (ad 0))]) dX9_goodOf_21 rfl rfl (by decide) rfl ?_
  exact r_sub hR [1, 0] rfl (t9_goodOf_l22 hR N hP N _ _ h)
theorem c9_goodOf (N : Nat) {q : SS} {r : Int32} {q2 : SS} (h : f9_goodOf N q = some (r, q2)) : Ct wM 4 yX9_goodOf cX9_goodOf 2 (some .int) (fun ad => [.ref (ad 0)]) q (fun _ => some (.int r)) q2 :=
  ct_of (by decide) (fun _ => Nat.le_of_ble_eq_true rfl) (fun ad J hR => t9_goodOf hR N ⟨rfl, rfl⟩ q h)
theorem t9_good (hR : Rl wM 5 RX9 cX9_good 1 (some .int) ad J P) (N : Nat) {r : Int32} {q2 : SS} (hP : P (some (.int r)) q2) (q : SS) (h : f9_good N q = some (r, q2)) : J [(0, .ref (ad 0))] [] q 0 := by
  unfold f9_good at h
  refine r_aload_n hR dX9_good_0 rfl 0 rfl ?_
  obtain ⟨r_1, q_1, hc, h⟩ := bd2_some h
  refine r_callVi hR (c9_goodOf N hc) (cf_X9_226 (by decide)) ⟨m_5_174, ms_4_11⟩ (As := []) (q0 := 0) (ci := 7) rfl rfl rfl rfl (rc_X9 ad _) (Nat.le_of_ble_eq_true rfl) rfl dX9_good_1 ?_
  exact r_iret hR dX9_good_4 rfl (rt2 hP h)
theorem c9_good (N : Nat) {q : SS} {r : Int32} {q2 : SS} (h : f9_good N q = some (r, q2)) : Ct wM 5 yX9_good cX9_good 1 (some .int) (fun ad => [.ref (ad 0)]) q (fun _ => some (.int r)) q2 :=
  ct_of (by decide) (fun _ => Nat.le_of_ble_eq_true rfl) (fun ad J hR => t9_good hR N ⟨rfl, rfl⟩ q h)
theorem t9_sorting_l17_B (hR : Rl wM 2 RX9 cX9_sorting 4 (some .int) ad J P) (N : Nat) (q : SS) {r : Int32} (hP : P (some (.int r)) q) (bk17 : Int32 → Int32 → Int32 → Option Int32) (hbk17 : ∀ (x1 : Int32) (x2 : Int32) (x3 : Int32), bk17 x1 x2 x3 = some r → J [(0, .ref (ad 0)), (1, .int x1), (2, .int x2), (3, .int x3)] [] q 17) (x1 : Int32) (x2 : Int32) (x3 : Int32) (h : f9_sorting_l17_B N q bk17 x1 x2 x3 = some r) : J [(0, .ref (ad 0)), (1, .int x1), (2, .int x2), (3, .int x3)] [] q 17 := by
  unfold f9_sorting_l17_B at h
  refine r_iload_n hR dX9_sorting_17 rfl 3 rfl ?_
  refine r_iconst hR dX9_sorting_18 kc_iconst_1 ?_
  refine r_icmp_le hR (tgt := 39) dX9_sorting_19 (by decide) (fun c_19 => ?_) (fun c_19 => ?_)
  · replace h := it_t c_19 h
    refine r_iconst hR dX9_sorting_39 kc_iconst_2 ?_
    refine r_iload_n hR dX9_sorting_40 rfl 1 rfl ?_
    refine r_imul hR dX9_sorting_41 ?_
    refine r_iload_n hR dX9_sorting_42 rfl 2 rfl ?_
    refine r_imul hR dX9_sorting_43 ?_
    exact r_iret hR dX9_sorting_44 rfl (rt1 hP h)
  · replace h := it_f c_19 h
    obtain ⟨x2_22, hx, h⟩ := bn_some h
    refine r_iinc hR (i := 2) (lv' := [(2, .int x2_22), (0, .ref (ad 0)), (1, .int x1), (3, .int x3)]) dX9_sorting_22 2 rfl (inc_ok hx kc_iconst_1) (by decide) rfl ?_
    refine r_iload_n hR dX9_sorting_25 rfl 3 rfl ?_
    refine r_aload_n hR dX9_sorting_26 rfl 1 rfl ?_
    refine g_X9_memory hR m_4_125 dX9_sorting_27 ?_
    refine r_iconst hR dX9_sorting_30 kc_iconst_1 ?_
    refine r_isub hR dX9_sorting_31 ?_
    obtain ⟨r_32, hc, h⟩ := bd_some h
    refine r_callSi hR (c9_up hc) (cf_X9_143 (by decide)) m_5_69 (As := [.int x3, .int ((fi q 2) - (1 : Int32))]) rfl rfl (Nat.le_of_ble_eq_true rfl) rfl dX9_sorting_32 ?_
    refine r_istore_n hR (i := 3) (lv' := [(3, .int r_32), (2, .int x2_22), (0, .ref (ad 0)), (1, .int x1)]) dX9_sorting_35 rfl rfl (by decide) rfl ?_
    refine r_goto hR (tgt := 17) dX9_sorting_36 (by decide) ?_
    exact r_sub hR [2, 3, 1, 0] rfl (hbk17 _ _ _ h)
theorem t9_sorting_l17 (hR : Rl wM 2 RX9 cX9_sorting 4 (some .int) ad J P) (N : Nat) (q : SS) {r : Int32} (hP : P (some (.int r)) q) : ∀ (n : Nat) (x1 : Int32) (x2 : Int32) (x3 : Int32), f9_sorting_l17 N q n x1 x2 x3 = some r → J [(0, .ref (ad 0)), (1, .int x1), (2, .int x2), (3, .int x3)] [] q 17 := by
  intro n
  induction n with
  | zero => intro x1 x2 x3 h; exact mu_noneF h
  | succ n ih => intro x1 x2 x3 h; exact t9_sorting_l17_B hR N q hP _ ih x1 x2 x3 h
theorem t9_sorting (hR : Rl wM 2 RX9 cX9_sorting 4 (some .int) ad J P) (N : Nat) (q : SS) {r : Int32} (hP : P (some (.int r)) q) (x1 : Int32) (h : f9_sorting N q x1 = some r) : J [(0, .ref (ad 0)), (1, .int x1)] [] q 0 := by
  unfold f9_sorting at h
  refine r_iload_n hR dX9_sorting_0 rfl 1 rfl ?_
  refine r_if_ne hR (tgt := 6) dX9_sorting_1 (by decide) (fun c_1 => ?_) (fun c_1 => ?_)
  · replace h := it_f c_1 h
    refine r_iconst hR dX9_sorting_6 kc_iconst_1 ?_
    refine r_istore_n hR (i := 2) (lv' := [(2, .int (1 : Int32)), (0, .ref (ad 0)), (1, .int x1)]) dX9_sorting_7 rfl rfl (by decide) rfl ?_
    refine r_iload_n hR dX9_sorting_8 rfl 2 rfl ?_
    refine r_aload_n hR dX9_sorting_9 rfl 1 rfl ?_
    refine g_X9_memory hR m_4_125 dX9_sorting_10 ?_
    obtain ⟨r_13, hc, h⟩ := bd_some h
    refine r_callSi hR (c9_up hc) (cf_X9_143 (by decide)) m_5_69 (As := [.int x1, .int (fi q 2)]) rfl rfl (Nat.le_of_ble_eq_true rfl) rfl dX9_sorting_13 ?_
    refine r_istore_n hR (i := 3) (lv' := [(3, .int r_13), (2, .int (1 : Int32)), (0, .ref (ad 0)), (1, .int x1)]) dX9_sorting_16 rfl rfl (by decide) rfl ?_
    exact r_sub hR [2, 3, 1, 0] rfl (t9_sorting_l17 hR N q hP N _ _ _ h)
  · replace h := it_t c_1 h
    refine r_iconst hR dX9_sorting_4 kc_iconst_0 ?_
    exact r_iret hR dX9_sorting_5 rfl (rt1 hP h)
theorem c9_sorting (N : Nat) {x1 : Int32} {q : SS} {r : Int32} (h : f9_sorting N q x1 = some r) : Ct wM 2 yX9_sorting cX9_sorting 4 (some .int) (fun ad => [.ref (ad 0), .int x1]) q (fun _ => some (.int r)) q :=
  ct_of (by decide) (fun _ => Nat.le_of_ble_eq_true rfl) (fun ad J hR => t9_sorting hR N q ⟨rfl, rfl⟩ x1 h)
theorem t9_lettersIn_b32 (hR : Rl wM 1 RX9 cX9_lettersIn 4 (some .int) ad J P) (N : Nat) (q : SS) {r : Int32} (hP : P (some (.int r)) q) (bk4 : Int32 → Int32 → Int32 → Option Int32) (hbk4 : ∀ (x1 : Int32) (x2 : Int32) (x3 : Int32), bk4 x1 x2 x3 = some r → J [(0, .ref (ad 0)), (1, .int x1), (2, .int x2), (3, .int x3)] [] q 4) (x1 : Int32) (x3 : Int32) (s0 : Int32) (s1 : Int32) (h : f9_lettersIn_b32 N q bk4 x1 x3 s0 s1 = some r) : J [(0, .ref (ad 0)), (1, .int x1), (3, .int x3)] [.int s0, .int s1] q 32 := by
  unfold f9_lettersIn_b32 at h
  refine r_ior hR dX9_lettersIn_32 ?_
  obtain ⟨x2_33, hx, h⟩ := bn_some h
  refine r_istore_n hR (i := 2) (lv' := [(2, .int x2_33), (0, .ref (ad 0)), (1, .int x1), (3, .int x3)]) dX9_lettersIn_33 hx rfl (by decide) rfl ?_
  obtain ⟨x3_34, hx, h⟩ := bn_some h
  refine r_iinc hR (i := 3) (lv' := [(3, .int x3_34), (2, .int x2_33), (0, .ref (ad 0)), (1, .int x1)]) dX9_lettersIn_34 3 rfl (inc_ok hx kc_iconst_1) (by decide) rfl ?_
  refine r_goto hR (tgt := 4) dX9_lettersIn_37 (by decide) ?_
  exact r_sub hR [2, 3, 1, 0] rfl (hbk4 _ _ _ h)
theorem t9_lettersIn_l4_B (hR : Rl wM 1 RX9 cX9_lettersIn 4 (some .int) ad J P) (N : Nat) (q : SS) {r : Int32} (hP : P (some (.int r)) q) (bk4 : Int32 → Int32 → Int32 → Option Int32) (hbk4 : ∀ (x1 : Int32) (x2 : Int32) (x3 : Int32), bk4 x1 x2 x3 = some r → J [(0, .ref (ad 0)), (1, .int x1), (2, .int x2), (3, .int x3)] [] q 4) (x1 : Int32) (x2 : Int32) (x3 : Int32) (h : f9_lettersIn_l4_B N q bk4 x1 x2 x3 = some r) : J [(0, .ref (ad 0)), (1, .int x1), (2, .int x2), (3, .int x3)] [] q 4 := by
  unfold f9_lettersIn_l4_B at h
  refine r_iload_n hR dX9_lettersIn_4 rfl 3 rfl ?_
  refine r_aload_n hR dX9_lettersIn_5 rfl 0 rfl ?_
  refine g_X9_tables hR m_4_119 dX9_lettersIn_6 ?_
  refine r_icmp_ge hR (tgt := 40) dX9_lettersIn_9 (by decide) (fun c_9 => ?_) (fun c_9 => ?_)
  · replace h := it_t c_9 h
    refine r_iload_n hR dX9_lettersIn_40 rfl 2 rfl ?_
    exact r_iret hR dX9_lettersIn_41 rfl (rt1 hP h)
  · replace h := it_f c_9 h
    refine r_iload_n hR dX9_lettersIn_12 rfl 2 rfl ?_
    refine r_iload_n hR dX9_lettersIn_13 rfl 1 rfl ?_
    refine r_iload_n hR dX9_lettersIn_14 rfl 3 rfl ?_
    refine r_ishr hR dX9_lettersIn_15 ?_
    refine r_iconst hR dX9_lettersIn_16 kc_iconst_1 ?_
    refine r_iand hR dX9_lettersIn_17 ?_
    refine r_iconst hR dX9_lettersIn_18 kc_iconst_1 ?_
    refine r_icmp_ne hR (tgt := 31) dX9_lettersIn_19 (by decide) (fun c_19 => ?_) (fun c_19 => ?_)
    · replace h := it_f c_19 h
      refine r_iconst hR dX9_lettersIn_31 kc_iconst_0 ?_
      exact r_sub hR [0, 1, 3] rfl (t9_lettersIn_b32 hR N q hP bk4 hbk4 _ _ _ _ h)
    · replace h := it_t c_19 h
      refine r_aload_n hR dX9_lettersIn_22 rfl 0 rfl ?_
      refine g_X9_lettersOf hR m_4_120 dX9_lettersIn_23 ?_
      refine r_iload_n hR dX9_lettersIn_26 rfl 3 rfl ?_
      obtain ⟨hin, h⟩ := ck_some h
      refine ld_X9_lettersOf hR dX9_lettersIn_27 hin ?_
      refine r_goto hR (tgt := 32) dX9_lettersIn_28 (by decide) ?_
      exact r_sub hR [0, 1, 3] rfl (t9_lettersIn_b32 hR N q hP bk4 hbk4 _ _ _ _ h)
theorem t9_lettersIn_l4 (hR : Rl wM 1 RX9 cX9_lettersIn 4 (some .int) ad J P) (N : Nat) (q : SS) {r : Int32} (hP : P (some (.int r)) q) : ∀ (n : Nat) (x1 : Int32) (x2 : Int32) (x3 : Int32), f9_lettersIn_l4 N q n x1 x2 x3 = some r → J [(0, .ref (ad 0)), (1, .int x1), (2, .int x2), (3, .int x3)] [] q 4 := by
  intro n
  induction n with
  | zero => intro x1 x2 x3 h; exact mu_noneF h
  | succ n ih => intro x1 x2 x3 h; exact t9_lettersIn_l4_B hR N q hP _ ih x1 x2 x3 h
theorem t9_lettersIn (hR : Rl wM 1 RX9 cX9_lettersIn 4 (some .int) ad J P) (N : Nat) (q : SS) {r : Int32} (hP : P (some (.int r)) q) (x1 : Int32) (h : f9_lettersIn N q x1 = some r) : J [(0, .ref (ad 0)), (1, .int x1)] [] q 0 := by
  unfold f9_lettersIn at h
  refine r_iconst hR dX9_lettersIn_0 kc_iconst_0 ?_
  refine r_istore_n hR (i := 2) (lv' := [(2, .int (0 : Int32)), (0, .ref (ad 0)), (1, .int x1)]) dX9_lettersIn_1 rfl rfl (by decide) rfl ?_
  refine r_iconst hR dX9_lettersIn_2 kc_iconst_0 ?_
  refine r_istore_n hR (i := 3) (lv' := [(3, .int (0 : Int32)), (2, .int (0 : Int32)), (0, .ref (ad 0)), (1, .int x1)]) dX9_lettersIn_3 rfl rfl (by decide) rfl ?_
  exact r_sub hR [2, 3, 1, 0] rfl (t9_lettersIn_l4 hR N q hP N _ _ _ h)
theorem c9_lettersIn (N : Nat) {x1 : Int32} {q : SS} {r : Int32} (h : f9_lettersIn N q x1 = some r) : Ct wM 1 yX9_lettersIn cX9_lettersIn 4 (some .int) (fun ad => [.ref (ad 0), .int x1]) q (fun _ => some (.int r)) q :=
  ct_of (by decide) (fun _ => Nat.le_of_ble_eq_true rfl) (fun ad J hR => t9_lettersIn hR N q ⟨rfl, rfl⟩ x1 h)
theorem t9_sharedBy_b37 (hR : Rl wM 2 RX9 cX9_sharedBy 5 (some .int) ad J P) (N : Nat) (q : SS) {r : Int32} (hP : P (some (.int r)) q) (x4 : Int32) (h : f9_sharedBy_b37 N q x4 = some r) : J [(4, .int x4)] [] q 37 := by
  unfold f9_sharedBy_b37 at h
  refine r_iload hR dX9_sharedBy_37 0 rfl ?_
  refine r_bipush hR dX9_sharedBy_39 kc_bipush_8 ?_
  refine r_icmp_ge hR (tgt := 49) dX9_sharedBy_41 (by decide) (fun c_41 => ?_) (fun c_41 => ?_)
  · replace h := it_t c_41 h
    refine r_iconst hR dX9_sharedBy_49 kc_iconst_m1 ?_
    exact r_iret hR dX9_sharedBy_50 rfl (rt1 hP h)
  · replace h := it_f c_41 h
    refine r_iload hR dX9_sharedBy_44 0 rfl ?_
    refine r_goto hR (tgt := 50) dX9_sharedBy_46 (by decide) ?_
    exact r_iret hR dX9_sharedBy_50 rfl (rt1 hP h)
theorem t9_sharedBy_l15_B (hR : Rl wM 2 RX9 cX9_sharedBy 5 (some .int) ad J P) (N : Nat) (q : SS) {r : Int32} (hP : P (some (.int r)) q) (bk15 : Int32 → Int32 → Option Int32) (hbk15 : ∀ (x3 : Int32) (x4 : Int32), bk15 x3 x4 = some r → J [(3, .int x3), (4, .int x4)] [] q 15) (x3 : Int32) (x4 : Int32) (h : f9_sharedBy_l15_B N q bk15 x3 x4 = some r) : J [(3, .int x3), (4, .int x4)] [] q 15 := by
  unfold f9_sharedBy_l15_B at h
  refine r_iload hR dX9_sharedBy_15 1 rfl ?_
  refine r_bipush hR dX9_sharedBy_17 kc_bipush_8 ?_
  refine r_icmp_ge hR (tgt := 37) dX9_sharedBy_19 (by decide) (fun c_19 => ?_) (fun c_19 => ?_)
  · replace h := it_t c_19 h
    exact r_sub hR [1] rfl (t9_sharedBy_b37 hR N q hP _ h)
  · replace h := it_f c_19 h
    refine r_iload_n hR dX9_sharedBy_22 rfl 0 rfl ?_
    refine r_iload hR dX9_sharedBy_23 1 rfl ?_
    refine r_ishr hR dX9_sharedBy_25 ?_
    refine r_iconst hR dX9_sharedBy_26 kc_iconst_1 ?_
    refine r_iand hR dX9_sharedBy_27 ?_
    refine r_if_ne hR (tgt := 37) dX9_sharedBy_28 (by decide) (fun c_28 => ?_) (fun c_28 => ?_)
    · replace h := it_f c_28 h
      exact r_sub hR [1] rfl (t9_sharedBy_b37 hR N q hP _ h)
    · replace h := it_t c_28 h
      obtain ⟨x4_31, hx, h⟩ := bn_some h
      refine r_iinc hR (i := 4) (lv' := [(4, .int x4_31), (3, .int x3)]) dX9_sharedBy_31 1 rfl (inc_ok hx kc_iconst_1) (by decide) rfl ?_
      refine r_goto hR (tgt := 15) dX9_sharedBy_34 (by decide) ?_
      exact r_sub hR [1, 0] rfl (hbk15 _ _ h)
theorem t9_sharedBy_l15 (hR : Rl wM 2 RX9 cX9_sharedBy 5 (some .int) ad J P) (N : Nat) (q : SS) {r : Int32} (hP : P (some (.int r)) q) : ∀ (n : Nat) (x3 : Int32) (x4 : Int32), f9_sharedBy_l15 N q n x3 x4 = some r → J [(3, .int x3), (4, .int x4)] [] q 15 := by
  intro n
  induction n with
  | zero => intro x3 x4 h; exact mu_noneF h
  | succ n ih => intro x3 x4 h; exact t9_sharedBy_l15_B hR N q hP _ ih x3 x4 h
theorem t9_sharedBy (hR : Rl wM 2 RX9 cX9_sharedBy 5 (some .int) ad J P) (N : Nat) (q : SS) {r : Int32} (hP : P (some (.int r)) q) (x1 : Int32) (x2 : Int32) (h : f9_sharedBy N q x1 x2 = some r) : J [(0, .ref (ad 0)), (1, .int x1), (2, .int x2)] [] q 0 := by
  unfold f9_sharedBy at h
  refine r_aload_n hR dX9_sharedBy_0 rfl 0 rfl ?_
  refine r_iload_n hR dX9_sharedBy_1 rfl 1 rfl ?_
  obtain ⟨r_2, hc, h⟩ := bd_some h
  refine r_callVi hR (c9_lettersIn N hc) (cf_X9_230 (by decide)) ⟨m_5_208, ms_5_2⟩ (As := [.int x1]) (q0 := 0) (ci := 7) rfl rfl rfl rfl (rc_X9 ad _) (Nat.le_of_ble_eq_true rfl) rfl dX9_sharedBy_2 ?_
  refine r_aload_n hR dX9_sharedBy_5 rfl 0 rfl ?_
  refine r_iload_n hR dX9_sharedBy_6 rfl 2 rfl ?_
  obtain ⟨r_7, hc, h⟩ := bd_some h
  refine r_callVi hR (c9_lettersIn N hc) (cf_X9_230 (by decide)) ⟨m_5_208, ms_5_2⟩ (As := [.int x2]) (q0 := 0) (ci := 7) rfl rfl rfl rfl (rc_X9 ad _) (Nat.le_of_ble_eq_true rfl) rfl dX9_sharedBy_7 ?_
  refine r_iand hR dX9_sharedBy_10 ?_
  obtain ⟨x3_11, hx, h⟩ := bn_some h
  refine r_istore_n hR (i := 3) (lv' := [(3, .int x3_11), (0, .ref (ad 0)), (1, .int x1), (2, .int x2)]) dX9_sharedBy_11 hx rfl (by decide) rfl ?_
  refine r_iconst hR dX9_sharedBy_12 kc_iconst_0 ?_
  refine r_istore hR (i := 4) (lv' := [(4, .int (0 : Int32)), (3, .int x3_11), (0, .ref (ad 0)), (1, .int x1), (2, .int x2)]) dX9_sharedBy_13 rfl (by decide) rfl ?_
  exact r_sub hR [1, 0] rfl (t9_sharedBy_l15 hR N q hP N _ _ h)
theorem c9_sharedBy (N : Nat) {x1 : Int32} {x2 : Int32} {q : SS} {r : Int32} (h : f9_sharedBy N q x1 x2 = some r) : Ct wM 2 yX9_sharedBy cX9_sharedBy 5 (some .int) (fun ad => [.ref (ad 0), .int x1, .int x2]) q (fun _ => some (.int r)) q :=
  ct_of (by decide) (fun _ => Nat.le_of_ble_eq_true rfl) (fun ad J hR => t9_sharedBy hR N q ⟨rfl, rfl⟩ x1 x2 h)
theorem t9_layPages_l2_B (hR : Rl wM 9 RX9 cX9_layPages 3 none ad J P) (N : Nat) {q2 : SS} (hP : P none q2) (bk2 : Int32 → Int32 → SS → Option SS) (hbk2 : ∀ (x1 : Int32) (x2 : Int32) (q : SS), bk2 x1 x2 q = some q2 → J [(0, .ref (ad 0)), (1, .int x1), (2, .int x2)] [] q 2) (x1 : Int32) (x2 : Int32) (q : SS) (h : f9_layPages_l2_B N bk2 x1 x2 q = some q2) : J [(0, .ref (ad 0)), (1, .int x1), (2, .int x2)] [] q 2 := by
  unfold f9_layPages_l2_B at h
  refine r_iload_n hR dX9_layPages_2 rfl 2 rfl ?_
  refine r_iconst hR dX9_layPages_3 kc_iconst_1 ?_
  refine r_aload_n hR dX9_layPages_4 rfl 0 rfl ?_
  refine g_X9_tables hR m_4_119 dX9_layPages_5 ?_
  refine r_ishl hR dX9_layPages_8 ?_
  refine r_icmp_ge hR (tgt := 30) dX9_layPages_9 (by decide) (fun c_9 => ?_) (fun c_9 => ?_)
  · replace h := it_t c_9 h
    exact r_vret hR dX9_layPages_30 rfl (rtv hP h)
  · replace h := it_f c_9 h
    refine r_aload_n hR dX9_layPages_12 rfl 0 rfl ?_
    refine g_X9_pagesNow hR m_4_141 dX9_layPages_13 ?_
    refine r_iload_n hR dX9_layPages_16 rfl 2 rfl ?_
    refine r_aload_n hR dX9_layPages_17 rfl 0 rfl ?_
    refine r_iload_n hR dX9_layPages_18 rfl 2 rfl ?_
    refine r_iload_n hR dX9_layPages_19 rfl 1 rfl ?_
    obtain ⟨r_20, q_20, hc, h⟩ := bd2_some h
    refine r_callVi hR (c9_pagesOf N hc) (cf_X9_192 (by decide)) ⟨m_5_138, ms_4_8⟩ (As := [.int x2, .int x1]) (q0 := 0) (ci := 7) rfl rfl rfl rfl (rc_X9 ad _) (Nat.le_of_ble_eq_true rfl) rfl dX9_layPages_20 ?_
    obtain ⟨hin, h⟩ := ck_some h
    obtain ⟨q_23, hq, h⟩ := bn_some h
    refine sv_X9_pagesNow hR dX9_layPages_23 hin hq ?_
    obtain ⟨x2_24, hx, h⟩ := bn_some h
    refine r_iinc hR (i := 2) (lv' := [(2, .int x2_24), (0, .ref (ad 0)), (1, .int x1)]) dX9_layPages_24 2 rfl (inc_ok hx kc_iconst_1) (by decide) rfl ?_
    refine r_goto hR (tgt := 2) dX9_layPages_27 (by decide) ?_
    exact r_sub hR [1, 2, 0] rfl (hbk2 _ _ _ h)
theorem t9_layPages_l2 (hR : Rl wM 9 RX9 cX9_layPages 3 none ad J P) (N : Nat) {q2 : SS} (hP : P none q2) : ∀ (n : Nat) (x1 : Int32) (x2 : Int32) (q : SS), f9_layPages_l2 N n x1 x2 q = some q2 → J [(0, .ref (ad 0)), (1, .int x1), (2, .int x2)] [] q 2 := by
  intro n
  induction n with
  | zero => intro x1 x2 q h; exact mu_noneF h
  | succ n ih => intro x1 x2 q h; exact t9_layPages_l2_B hR N hP _ ih x1 x2 q h
theorem t9_layPages (hR : Rl wM 9 RX9 cX9_layPages 3 none ad J P) (N : Nat) {q2 : SS} (hP : P none q2) (x1 : Int32) (q : SS) (h : f9_layPages N x1 q = some q2) : J [(0, .ref (ad 0)), (1, .int x1)] [] q 0 := by
  unfold f9_layPages at h
  refine r_iconst hR dX9_layPages_0 kc_iconst_1 ?_
  refine r_istore_n hR (i := 2) (lv' := [(2, .int (1 : Int32)), (0, .ref (ad 0)), (1, .int x1)]) dX9_layPages_1 rfl rfl (by decide) rfl ?_
  exact r_sub hR [1, 2, 0] rfl (t9_layPages_l2 hR N hP N _ _ _ h)
theorem c9_layPages (N : Nat) {x1 : Int32} {q : SS} {q2 : SS} (h : f9_layPages N x1 q = some q2) : Ct wM 9 yX9_layPages cX9_layPages 3 none (fun ad => [.ref (ad 0), .int x1]) q (fun _ => none) q2 :=
  ct_of (by decide) (fun _ => Nat.le_of_ble_eq_true rfl) (fun ad J hR => t9_layPages hR N ⟨rfl, rfl⟩ x1 q h)
theorem t9_stepCost_b149 (hR : Rl wM 3 RX9 cX9_stepCost 9 (some .int) ad J P) (N : Nat) (q : SS) {r : Int32} (hP : P (some (.int r)) q) (s0 : Int32) (s1 : Int32) (h : f9_stepCost_b149 N q s0 s1 = some r) : J [] [.int s0, .int s1] q 149 := by
  unfold f9_stepCost_b149 at h
  refine r_iadd hR dX9_stepCost_149 ?_
  exact r_iret hR dX9_stepCost_150 rfl (rt1 hP h)
theorem t9_stepCost_b130 (hR : Rl wM 3 RX9 cX9_stepCost 9 (some .int) ad J P) (N : Nat) (q : SS) {r : Int32} (hP : P (some (.int r)) q) (x5 : Int32) (x7 : Int32) (x8 : Int32) (s0 : Int32) (h : f9_stepCost_b130 N q x5 x7 x8 s0 = some r) : J [(0, .ref (ad 0)), (5, .int x5), (7, .int x7), (8, .int x8)] [.int s0] q 130 := by
  unfold f9_stepCost_b130 at h
  refine r_iload hR dX9_stepCost_130 1 rfl ?_
  refine r_iload hR dX9_stepCost_132 3 rfl ?_
  refine r_iconst hR dX9_stepCost_134 kc_iconst_1 ?_
  refine r_iadd hR dX9_stepCost_135 ?_
  refine r_icmp_ne hR (tgt := 143) dX9_stepCost_136 (by decide) (fun c_136 => ?_) (fun c_136 => ?_)
  · replace h := it_f c_136 h
    refine r_aload_n hR dX9_stepCost_143 rfl 0 rfl ?_
    refine r_iload hR dX9_stepCost_144 2 rfl ?_
    obtain ⟨r_146, hc, h⟩ := bd_some h
    refine r_callVi hR (c9_sorting N hc) (cf_X9_236 (by decide)) ⟨m_5_212, ms_5_3⟩ (As := [.int x7]) (q0 := 0) (ci := 7) rfl rfl rfl rfl (rc_X9 ad _) (Nat.le_of_ble_eq_true rfl) rfl dX9_stepCost_146 ?_
    exact r_sub hR [] rfl (t9_stepCost_b149 hR N q hP _ _ h)
  · replace h := it_t c_136 h
    refine r_iconst hR dX9_stepCost_139 kc_iconst_0 ?_
    refine r_goto hR (tgt := 149) dX9_stepCost_140 (by decide) ?_
    exact r_sub hR [] rfl (t9_stepCost_b149 hR N q hP _ _ h)
theorem t9_stepCost_b90 (hR : Rl wM 3 RX9 cX9_stepCost 9 (some .int) ad J P) (N : Nat) (q : SS) {r : Int32} (hP : P (some (.int r)) q) (x6 : Int32) (x7 : Int32) (s0 : Int32) (h : f9_stepCost_b90 N q x6 x7 s0 = some r) : J [(0, .ref (ad 0)), (6, .int x6), (7, .int x7)] [.int s0] q 90 := by
  unfold f9_stepCost_b90 at h
  refine r_aload_n hR dX9_stepCost_90 rfl 0 rfl ?_
  refine g_X9_memory hR m_4_125 dX9_stepCost_91 ?_
  refine r_iconst hR dX9_stepCost_94 kc_iconst_2 ?_
  refine r_isub hR dX9_stepCost_95 ?_
  refine r_icmp_le hR (tgt := 109) dX9_stepCost_96 (by decide) (fun c_96 => ?_) (fun c_96 => ?_)
  · replace h := it_t c_96 h
    refine r_iconst hR dX9_stepCost_109 kc_iconst_0 ?_
    exact r_iret hR dX9_stepCost_110 rfl (rt1 hP h)
  · replace h := it_f c_96 h
    refine r_iconst hR dX9_stepCost_99 kc_iconst_2 ?_
    refine r_iload hR dX9_stepCost_100 1 rfl ?_
    refine r_iload hR dX9_stepCost_102 2 rfl ?_
    refine r_iadd hR dX9_stepCost_104 ?_
    refine r_imul hR dX9_stepCost_105 ?_
    refine r_goto hR (tgt := 110) dX9_stepCost_106 (by decide) ?_
    exact r_iret hR dX9_stepCost_110 rfl (rt1 hP h)
theorem t9_stepCost (hR : Rl wM 3 RX9 cX9_stepCost 9 (some .int) ad J P) (N : Nat) (q : SS) {r : Int32} (hP : P (some (.int r)) q) (x1 : Int32) (x2 : Int32) (x3 : Int32) (x4 : Int32) (x5 : Int32) (h : f9_stepCost N q x1 x2 x3 x4 x5 = some r) : J [(0, .ref (ad 0)), (1, .int x1), (2, .int x2), (3, .int x3), (4, .int x4), (5, .int x5)] [] q 0 := by
  unfold f9_stepCost at h
  refine r_aload_n hR dX9_stepCost_0 rfl 0 rfl ?_
  refine g_X9_pagesNow hR m_4_141 dX9_stepCost_1 ?_
  refine r_iload_n hR dX9_stepCost_4 rfl 2 rfl ?_
  obtain ⟨hin, h⟩ := ck_some h
  refine ld_X9_pagesNow hR dX9_stepCost_5 hin ?_
  obtain ⟨x6_6, hx, h⟩ := bn_some h
  refine r_istore hR (i := 6) (lv' := [(6, .int x6_6), (0, .ref (ad 0)), (1, .int x1), (2, .int x2), (3, .int x3), (4, .int x4), (5, .int x5)]) dX9_stepCost_6 hx (by decide) rfl ?_
  refine r_aload_n hR dX9_stepCost_8 rfl 1 rfl ?_
  refine g_X9_pagesNow hR m_4_141 dX9_stepCost_9 ?_
  refine r_iload_n hR dX9_stepCost_12 rfl 4 rfl ?_
  obtain ⟨hin, h⟩ := ck_some h
  refine ld_X9_pagesNow hR dX9_stepCost_13 hin ?_
  obtain ⟨x7_14, hx, h⟩ := bn_some h
  refine r_istore hR (i := 7) (lv' := [(7, .int x7_14), (6, .int x6_6), (0, .ref (ad 0)), (1, .int x1), (2, .int x2), (3, .int x3), (4, .int x4), (5, .int x5)]) dX9_stepCost_14 hx (by decide) rfl ?_
  refine r_aload_n hR dX9_stepCost_16 rfl 2 rfl ?_
  refine r_iload_n hR dX9_stepCost_17 rfl 4 rfl ?_
  refine r_iload_n hR dX9_stepCost_18 rfl 5 rfl ?_
  obtain ⟨r_19, hc, h⟩ := bd_some h
  refine r_callVi hR (c9_sharedBy N hc) (cf_X9_233 (by decide)) ⟨m_5_204, ms_5_1⟩ (As := [.int x2, .int x3]) (q0 := 0) (ci := 7) rfl rfl rfl rfl (rc_X9 ad _) (Nat.le_of_ble_eq_true rfl) rfl dX9_stepCost_19 ?_
  refine r_istore hR (i := 8) (lv' := [(8, .int r_19), (7, .int x7_14), (6, .int x6_6), (0, .ref (ad 0)), (1, .int x1), (2, .int x2), (3, .int x3), (4, .int x4), (5, .int x5)]) dX9_stepCost_22 rfl (by decide) rfl ?_
  refine r_iload_n hR dX9_stepCost_24 rfl 4 rfl ?_
  refine r_bipush hR dX9_stepCost_25 kc_bipush_108 ?_
  refine r_icmp_ne hR (tgt := 62) dX9_stepCost_27 (by decide) (fun c_27 => ?_) (fun c_27 => ?_)
  · replace h := it_f c_27 h
    refine r_iload hR dX9_stepCost_62 0 rfl ?_
    refine r_iconst hR dX9_stepCost_64 kc_iconst_m1 ?_
    refine r_icmp_ne hR (tgt := 70) dX9_stepCost_65 (by decide) (fun c_65 => ?_) (fun c_65 => ?_)
    · replace h := it_f c_65 h
      refine r_iload_n hR dX9_stepCost_70 rfl 4 rfl ?_
      refine r_bipush hR dX9_stepCost_71 kc_bipush_112 ?_
      refine r_icmp_ne hR (tgt := 111) dX9_stepCost_73 (by decide) (fun c_73 => ?_) (fun c_73 => ?_)
      · replace h := it_f c_73 h
        refine r_iload hR dX9_stepCost_111 7 rfl ?_
        refine r_iload hR dX9_stepCost_113 0 rfl ?_
        refine r_iconst hR dX9_stepCost_115 kc_iconst_1 ?_
        refine r_iadd hR dX9_stepCost_116 ?_
        refine r_icmp_ne hR (tgt := 124) dX9_stepCost_117 (by decide) (fun c_117 => ?_) (fun c_117 => ?_)
        · replace h := it_f c_117 h
          refine r_aload_n hR dX9_stepCost_124 rfl 3 rfl ?_
          refine r_iload hR dX9_stepCost_125 2 rfl ?_
          obtain ⟨r_127, hc, h⟩ := bd_some h
          refine r_callVi hR (c9_sorting N hc) (cf_X9_236 (by decide)) ⟨m_5_212, ms_5_3⟩ (As := [.int x6_6]) (q0 := 0) (ci := 7) rfl rfl rfl rfl (rc_X9 ad _) (Nat.le_of_ble_eq_true rfl) rfl dX9_stepCost_127 ?_
          exact r_sub hR [3, 8, 1, 0] rfl (t9_stepCost_b130 hR N q hP _ _ _ _ h)
        · replace h := it_t c_117 h
          refine r_iconst hR dX9_stepCost_120 kc_iconst_0 ?_
          refine r_goto hR (tgt := 130) dX9_stepCost_121 (by decide) ?_
          exact r_sub hR [3, 8, 1, 0] rfl (t9_stepCost_b130 hR N q hP _ _ _ _ h)
      · replace h := it_t c_73 h
        refine r_iload hR dX9_stepCost_76 2 rfl ?_
        refine r_iload hR dX9_stepCost_78 1 rfl ?_
        refine r_icmp_ge hR (tgt := 88) dX9_stepCost_80 (by decide) (fun c_80 => ?_) (fun c_80 => ?_)
        · replace h := it_t c_80 h
          refine r_iload hR dX9_stepCost_88 1 rfl ?_
          exact r_sub hR [3, 2, 1] rfl (t9_stepCost_b90 hR N q hP _ _ _ h)
        · replace h := it_f c_80 h
          refine r_iload hR dX9_stepCost_83 2 rfl ?_
          refine r_goto hR (tgt := 90) dX9_stepCost_85 (by decide) ?_
          exact r_sub hR [3, 2, 1] rfl (t9_stepCost_b90 hR N q hP _ _ _ h)
    · replace h := it_t c_65 h
      refine r_iconst hR dX9_stepCost_68 kc_iconst_m1 ?_
      exact r_iret hR dX9_stepCost_69 rfl (rt1 hP h)
  · replace h := it_t c_27 h
    refine r_iload hR dX9_stepCost_30 2 rfl ?_
    refine r_aload_n hR dX9_stepCost_32 rfl 3 rfl ?_
    refine g_X9_memory hR m_4_125 dX9_stepCost_33 ?_
    refine r_iconst hR dX9_stepCost_36 kc_iconst_2 ?_
    refine r_isub hR dX9_stepCost_37 ?_
    refine r_icmp_le hR (tgt := 60) dX9_stepCost_38 (by decide) (fun c_38 => ?_) (fun c_38 => ?_)
    · replace h := it_t c_38 h
      refine r_iconst hR dX9_stepCost_60 kc_iconst_0 ?_
      exact r_iret hR dX9_stepCost_61 rfl (rt1 hP h)
    · replace h := it_f c_38 h
      refine r_iload hR dX9_stepCost_41 1 rfl ?_
      refine r_iload hR dX9_stepCost_43 2 rfl ?_
      refine r_aload_n hR dX9_stepCost_45 rfl 3 rfl ?_
      refine g_X9_memory hR m_4_125 dX9_stepCost_46 ?_
      refine r_iconst hR dX9_stepCost_49 kc_iconst_2 ?_
      refine r_isub hR dX9_stepCost_50 ?_
      obtain ⟨r_51, hc, h⟩ := bd_some h
      refine r_callSi hR (c9_up hc) (cf_X9_143 (by decide)) m_5_69 (As := [.int x6_6, .int ((fi q 2) - (2 : Int32))]) rfl rfl (Nat.le_of_ble_eq_true rfl) rfl dX9_stepCost_51 ?_
      refine r_iconst hR dX9_stepCost_54 kc_iconst_1 ?_
      refine r_isub hR dX9_stepCost_55 ?_
      refine r_imul hR dX9_stepCost_56 ?_
      refine r_goto hR (tgt := 61) dX9_stepCost_57 (by decide) ?_
      exact r_iret hR dX9_stepCost_61 rfl (rt1 hP h)
theorem c9_stepCost (N : Nat) {x1 : Int32} {x2 : Int32} {x3 : Int32} {x4 : Int32} {x5 : Int32} {q : SS} {r : Int32} (h : f9_stepCost N q x1 x2 x3 x4 x5 = some r) : Ct wM 3 yX9_stepCost cX9_stepCost 9 (some .int) (fun ad => [.ref (ad 0), .int x1, .int x2, .int x3, .int x4, .int x5]) q (fun _ => some (.int r)) q :=
  ct_of (by decide) (fun _ => Nat.le_of_ble_eq_true rfl) (fun ad J hR => t9_stepCost hR N q ⟨rfl, rfl⟩ x1 x2 x3 x4 x5 h)
theorem t9_stepOrder (hR : Rl wM 3 RX9 cX9_stepOrder 5 (some .int) ad J P) (N : Nat) (q : SS) {r : Int32} (hP : P (some (.int r)) q) (x1 : Int32) (x2 : Int32) (x3 : Int32) (x4 : Int32) (h : f9_stepOrder N q x1 x2 x3 x4 = some r) : J [(0, .ref (ad 0)), (1, .int x1), (2, .int x2), (3, .int x3), (4, .int x4)] [] q 0 := by
  unfold f9_stepOrder at h
  refine r_iload_n hR dX9_stepOrder_0 rfl 1 rfl ?_
  refine r_bipush hR dX9_stepOrder_1 kc_bipush_108 ?_
  refine r_icmp_ne hR (tgt := 11) dX9_stepOrder_3 (by decide) (fun c_3 => ?_) (fun c_3 => ?_)
  · replace h := it_f c_3 h
    refine r_iload_n hR dX9_stepOrder_11 rfl 1 rfl ?_
    refine r_bipush hR dX9_stepOrder_12 kc_bipush_112 ?_
    refine r_icmp_ne hR (tgt := 21) dX9_stepOrder_14 (by decide) (fun c_14 => ?_) (fun c_14 => ?_)
    · replace h := it_f c_14 h
      refine r_aload_n hR dX9_stepOrder_21 rfl 0 rfl ?_
      refine r_iload_n hR dX9_stepOrder_22 rfl 2 rfl ?_
      refine r_iload_n hR dX9_stepOrder_23 rfl 3 rfl ?_
      obtain ⟨r_24, hc, h⟩ := bd_some h
      refine r_callVi hR (c9_sharedBy N hc) (cf_X9_233 (by decide)) ⟨m_5_204, ms_5_1⟩ (As := [.int x2, .int x3]) (q0 := 0) (ci := 7) rfl rfl rfl rfl (rc_X9 ad _) (Nat.le_of_ble_eq_true rfl) rfl dX9_stepOrder_24 ?_
      refine r_iconst hR dX9_stepOrder_27 kc_iconst_1 ?_
      refine r_iadd hR dX9_stepOrder_28 ?_
      exact r_iret hR dX9_stepOrder_29 rfl (rt1 hP h)
    · replace h := it_t c_14 h
      refine r_iconst hR dX9_stepOrder_17 kc_iconst_0 ?_
      refine r_goto hR (tgt := 29) dX9_stepOrder_18 (by decide) ?_
      exact r_iret hR dX9_stepOrder_29 rfl (rt1 hP h)
  · replace h := it_t c_3 h
    refine r_iload hR dX9_stepOrder_6 4 rfl ?_
    refine r_goto hR (tgt := 29) dX9_stepOrder_8 (by decide) ?_
    exact r_iret hR dX9_stepOrder_29 rfl (rt1 hP h)
theorem c9_stepOrder (N : Nat) {x1 : Int32} {x2 : Int32} {x3 : Int32} {x4 : Int32} {q : SS} {r : Int32} (h : f9_stepOrder N q x1 x2 x3 x4 = some r) : Ct wM 3 yX9_stepOrder cX9_stepOrder 5 (some .int) (fun ad => [.ref (ad 0), .int x1, .int x2, .int x3, .int x4]) q (fun _ => some (.int r)) q :=
  ct_of (by decide) (fun _ => Nat.le_of_ble_eq_true rfl) (fun ad J hR => t9_stepOrder hR N q ⟨rfl, rfl⟩ x1 x2 x3 x4 h)
end
