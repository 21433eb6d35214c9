section
variable {ad : Nat → Nat} {J : JT} {P : PT} {ld : Nat}
theorem t9_row_b73 (hR : Rl wM 4 RX9 cX9_row 6 (some .int) ad J P) (N : Nat) {r : Int32} {q2 : SS} (hP : P (some (.int r)) q2) (x1 : Int32) (x2 : Int32) (x3 : Int32) (x4 : Int32) (s0 : Int64) (s1 : Int64) (s2 : Int64) (q : SS) (h : f9_row_b73 N x1 x2 x3 x4 s0 s1 s2 q = some (r, q2)) : J [(0, .ref (ad 0)), (1, .int x1), (2, .int x2), (3, .int x3), (4, .int x4)] [.long s0, .long s1, .long s2] q 73 := by
  unfold f9_row_b73 at h
  obtain ⟨r_73, hc, h⟩ := bd_some h
  refine r_callSi hR (c9_in hc) (cf_X9_92 (by decide)) m_5_6 (As := [.long s2, .long s1, .long s0]) rfl rfl (Nat.le_of_ble_eq_true rfl) rfl dX9_row_73 ?_
  refine r_if_ne hR (tgt := 82) dX9_row_76 (by decide) (fun c_76 => ?_) (fun c_76 => ?_)
  · replace h := it_f c_76 h
    refine r_aload_n hR dX9_row_82 rfl 0 rfl ?_
    refine g_X9_rows hR m_4_122 dX9_row_83 ?_
    refine r_iload_n hR dX9_row_86 rfl 1 rfl ?_
    obtain ⟨hin, h⟩ := ck_some h
    refine ld_X9_rows hR dX9_row_87 hin ?_
    refine r_bipush hR dX9_row_88 kc_bipush_8 ?_
    refine r_icmp_ne hR (tgt := 96) dX9_row_90 (by decide) (fun c_90 => ?_) (fun c_90 => ?_)
    · replace h := it_f c_90 h
      refine r_aload_n hR dX9_row_96 rfl 0 rfl ?_
      refine r_iload_n hR dX9_row_97 rfl 1 rfl ?_
      refine r_iload_n hR dX9_row_98 rfl 2 rfl ?_
      refine r_iload_n hR dX9_row_99 rfl 3 rfl ?_
      refine r_iload hR dX9_row_100 4 rfl ?_
      obtain ⟨q_102, hc, h⟩ := bd_some h
      refine r_callVv hR (c9_lay N hc) (cf_X9_122 (by decide)) ⟨m_5_23, ms_3_7⟩ (As := [.int x1, .int x2, .int x3, .int x4]) (q0 := 0) (ci := 7) rfl rfl rfl rfl (rc_X9 ad _) (Nat.le_of_ble_eq_true rfl) rfl dX9_row_102 ?_
      refine r_aload_n hR dX9_row_105 rfl 0 rfl ?_
      refine g_X9_rows hR m_4_122 dX9_row_106 ?_
      refine r_iload_n hR dX9_row_109 rfl 1 rfl ?_
      obtain ⟨hin, h⟩ := ck_some h
      refine ld_X9_rows hR dX9_row_110 hin ?_
      exact r_iret hR dX9_row_111 rfl (rt2 hP h)
    · replace h := it_t c_90 h
      refine r_bipush hR dX9_row_93 kc_bipush_m104 ?_
      exact r_iret hR dX9_row_95 rfl (rt2 hP h)
  · replace h := it_t c_76 h
    refine r_bipush hR dX9_row_79 kc_bipush_m102 ?_
    exact r_iret hR dX9_row_81 rfl (rt2 hP h)
theorem t9_row_b50 (hR : Rl wM 4 RX9 cX9_row 6 (some .int) ad J P) (N : Nat) {r : Int32} {q2 : SS} (hP : P (some (.int r)) q2) (x1 : Int32) (x2 : Int32) (x3 : Int32) (x4 : Int32) (x5 : Int32) (s0 : Int64) (s1 : Int64) (s2 : Int64) (q : SS) (h : f9_row_b50 N x1 x2 x3 x4 x5 s0 s1 s2 q = some (r, q2)) : J [(0, .ref (ad 0)), (1, .int x1), (2, .int x2), (3, .int x3), (4, .int x4), (5, .int x5)] [.long s0, .long s1, .long s2] q 50 := by
  unfold f9_row_b50 at h
  obtain ⟨r_50, hc, h⟩ := bd_some h
  refine r_callSi hR (c9_in hc) (cf_X9_92 (by decide)) m_5_6 (As := [.long s2, .long s1, .long s0]) rfl rfl (Nat.le_of_ble_eq_true rfl) rfl dX9_row_50 ?_
  refine r_if_eq hR (tgt := 79) dX9_row_53 (by decide) (fun c_53 => ?_) (fun c_53 => ?_)
  · replace h := it_t c_53 h
    refine r_bipush hR dX9_row_79 kc_bipush_m102 ?_
    exact r_iret hR dX9_row_81 rfl (rt2 hP h)
  · replace h := it_f c_53 h
    refine r_iload hR dX9_row_56 4 rfl ?_
    refine r_i2l hR dX9_row_58 ?_
    refine r_lconst hR dX9_row_59 kc_lconst_0 ?_
    refine r_iload hR dX9_row_60 5 rfl ?_
    refine r_iconst hR dX9_row_62 kc_iconst_2 ?_
    refine r_icmp_le hR (tgt := 72) dX9_row_63 (by decide) (fun c_63 => ?_) (fun c_63 => ?_)
    · replace h := it_t c_63 h
      refine r_lconst hR dX9_row_72 kc_lconst_0 ?_
      exact r_sub hR [0, 1, 2, 3, 4] rfl (t9_row_b73 hR N hP _ _ _ _ _ _ _ _ h)
    · replace h := it_f c_63 h
      refine r_ldc2 hR dX9_row_66 m_5_20 ?_
      refine r_goto hR (tgt := 73) dX9_row_69 (by decide) ?_
      exact r_sub hR [0, 1, 2, 3, 4] rfl (t9_row_b73 hR N hP _ _ _ _ _ _ _ _ h)
theorem t9_row (hR : Rl wM 4 RX9 cX9_row 6 (some .int) ad J P) (N : Nat) {r : Int32} {q2 : SS} (hP : P (some (.int r)) q2) (x1 : Int32) (x2 : Int32) (x3 : Int32) (x4 : Int32) (q : SS) (h : f9_row N x1 x2 x3 x4 q = some (r, q2)) : J [(0, .ref (ad 0)), (1, .int x1), (2, .int x2), (3, .int x3), (4, .int x4)] [] q 0 := by
  unfold f9_row at h
  refine r_aload_n hR dX9_row_0 rfl 0 rfl ?_
  refine r_iload_n hR dX9_row_1 rfl 1 rfl ?_
  obtain ⟨r_2, hc, h⟩ := bd_some h
  refine r_callVi hR (c9_isTable hc) (cf_X9_116 (by decide)) ⟨m_5_18, ms_3_6⟩ (As := [.int x1]) (q0 := 0) (ci := 7) rfl rfl rfl rfl (rc_X9 ad _) (Nat.le_of_ble_eq_true rfl) rfl dX9_row_2 ?_
  refine r_if_ne hR (tgt := 11) dX9_row_5 (by decide) (fun c_5 => ?_) (fun c_5 => ?_)
  · replace h := it_f c_5 h
    refine r_aload_n hR dX9_row_11 rfl 0 rfl ?_
    refine g_X9_lettersOf hR m_4_120 dX9_row_12 ?_
    refine r_iload_n hR dX9_row_15 rfl 1 rfl ?_
    obtain ⟨hin, h⟩ := ck_some h
    refine ld_X9_lettersOf hR dX9_row_16 hin ?_
    obtain ⟨r_17, hc, h⟩ := bd_some h
    refine r_callSi hR (c9_bitsOf N hc) (cf_X9_98 (by decide)) m_5_9 (As := [.int (ar q 1 (ix x1))]) rfl rfl (Nat.le_of_ble_eq_true rfl) rfl dX9_row_17 ?_
    refine r_istore hR (i := 5) (lv' := [(5, .int r_17), (0, .ref (ad 0)), (1, .int x1), (2, .int x2), (3, .int x3), (4, .int x4)]) dX9_row_20 rfl (by decide) rfl ?_
    refine r_iload_n hR dX9_row_22 rfl 3 rfl ?_
    refine r_i2l hR dX9_row_23 ?_
    refine r_lconst hR dX9_row_24 kc_lconst_0 ?_
    refine r_ldc2 hR dX9_row_25 m_5_20 ?_
    obtain ⟨r_28, hc, h⟩ := bd_some h
    refine r_callSi hR (c9_in hc) (cf_X9_92 (by decide)) m_5_6 (As := [.long (Int32.toInt64 x2), .long (0 : Int64), .long (9 : Int64)]) rfl rfl (Nat.le_of_ble_eq_true rfl) rfl dX9_row_28 ?_
    refine r_if_eq hR (tgt := 79) dX9_row_31 (by decide) (fun c_31 => ?_) (fun c_31 => ?_)
    · replace h := it_t c_31 h
      refine r_bipush hR dX9_row_79 kc_bipush_m102 ?_
      exact r_iret hR dX9_row_81 rfl (rt2 hP h)
    · replace h := it_f c_31 h
      refine r_iload_n hR dX9_row_34 rfl 4 rfl ?_
      refine r_i2l hR dX9_row_35 ?_
      refine r_lconst hR dX9_row_36 kc_lconst_0 ?_
      refine r_iload hR dX9_row_37 0 rfl ?_
      refine r_iconst hR dX9_row_39 kc_iconst_1 ?_
      refine r_icmp_le hR (tgt := 49) dX9_row_40 (by decide) (fun c_40 => ?_) (fun c_40 => ?_)
      · replace h := it_t c_40 h
        refine r_lconst hR dX9_row_49 kc_lconst_0 ?_
        exact r_sub hR [1, 2, 3, 4, 5, 0] rfl (t9_row_b50 hR N hP _ _ _ _ _ _ _ _ _ h)
      · replace h := it_f c_40 h
        refine r_ldc2 hR dX9_row_43 m_5_20 ?_
        refine r_goto hR (tgt := 50) dX9_row_46 (by decide) ?_
        exact r_sub hR [1, 2, 3, 4, 5, 0] rfl (t9_row_b50 hR N hP _ _ _ _ _ _ _ _ _ h)
  · replace h := it_t c_5 h
    refine r_bipush hR dX9_row_8 kc_bipush_m101 ?_
    exact r_iret hR dX9_row_10 rfl (rt2 hP h)
theorem c9_row (N : Nat) {x1 : Int32} {x2 : Int32} {x3 : Int32} {x4 : Int32} {q : SS} {r : Int32} {q2 : SS} (h : f9_row N x1 x2 x3 x4 q = some (r, q2)) : Ct wM 4 yX9_row cX9_row 6 (some .int) (fun ad => [.ref (ad 0), .int x1, .int x2, .int x3, .int x4]) q (fun _ => some (.int r)) q2 :=
  ct_of (by decide) (fun _ => Nat.le_of_ble_eq_true rfl) (fun ad J hR => t9_row hR N ⟨rfl, rfl⟩ x1 x2 x3 x4 q h)
theorem t9_fill_l81_B (hR : Rl wM 4 RX9 cX9_fill 10 (some .int) ad J P) (N : Nat) {r : Int32} {q2 : SS} (hP : P (some (.int r)) q2) (bk61 : Int32 → Int32 → Int32 → Int64 → Int32 → Int32 → SS → Option (Int32 × SS)) (hbk61 : ∀ (x1 : Int32) (x3 : Int32) (x4 : Int32) (x5 : Int64) (x7 : Int32) (x8 : Int32) (q : SS), bk61 x1 x3 x4 x5 x7 x8 q = some (r, q2) → J [(0, .ref (ad 0)), (1, .int x1), (3, .int x3), (4, .int x4), (5, .long x5), (7, .int x7), (8, .int x8)] [] q 61) (bk81 : Int32 → Int32 → Int32 → Int64 → Int32 → Int32 → Int32 → SS → Option (Int32 × SS)) (hbk81 : ∀ (x1 : Int32) (x3 : Int32) (x4 : Int32) (x5 : Int64) (x7 : Int32) (x8 : Int32) (x9 : Int32) (q : SS), bk81 x1 x3 x4 x5 x7 x8 x9 q = some (r, q2) → J [(0, .ref (ad 0)), (1, .int x1), (3, .int x3), (4, .int x4), (5, .long x5), (7, .int x7), (8, .int x8), (9, .int x9)] [] q 81) (x1 : Int32) (x3 : Int32) (x4 : Int32) (x5 : Int64) (x7 : Int32) (x8 : Int32) (x9 : Int32) (q : SS) (h : f9_fill_l81_B N bk61 bk81 x1 x3 x4 x5 x7 x8 x9 q = some (r, q2)) : J [(0, .ref (ad 0)), (1, .int x1), (3, .int x3), (4, .int x4), (5, .long x5), (7, .int x7), (8, .int x8), (9, .int x9)] [] q 81 := by
  unfold f9_fill_l81_B at h
  refine r_iload hR dX9_fill_81 7 rfl ?_
  refine r_iload hR dX9_fill_83 6 rfl ?_
  refine r_icmp_ge hR (tgt := 128) dX9_fill_85 (by decide) (fun c_85 => ?_) (fun c_85 => ?_)
  · replace h := it_t c_85 h
    refine r_aload_n hR dX9_fill_128 rfl 0 rfl ?_
    refine r_iload_n hR dX9_fill_129 rfl 1 rfl ?_
    refine r_aload_n hR dX9_fill_130 rfl 0 rfl ?_
    refine g_X9_drawn hR m_4_126 dX9_fill_131 ?_
    refine r_iconst hR dX9_fill_134 kc_iconst_0 ?_
    refine ld_X9_drawn hR dX9_fill_135 (show ¬ ((0 : Int32) < 0 ∨ 3 ≤ Int32.toNatClampNeg (0 : Int32)) by decide) ?_
    refine r_aload_n hR dX9_fill_136 rfl 0 rfl ?_
    refine g_X9_drawn hR m_4_126 dX9_fill_137 ?_
    refine r_iconst hR dX9_fill_140 kc_iconst_1 ?_
    refine ld_X9_drawn hR dX9_fill_141 (show ¬ ((1 : Int32) < 0 ∨ 3 ≤ Int32.toNatClampNeg (1 : Int32)) by decide) ?_
    refine r_aload_n hR dX9_fill_142 rfl 0 rfl ?_
    refine g_X9_drawn hR m_4_126 dX9_fill_143 ?_
    refine r_iconst hR dX9_fill_146 kc_iconst_2 ?_
    refine ld_X9_drawn hR dX9_fill_147 (show ¬ ((2 : Int32) < 0 ∨ 3 ≤ Int32.toNatClampNeg (2 : Int32)) by decide) ?_
    obtain ⟨q_148, hc, h⟩ := bd_some h
    refine r_callVv hR (c9_lay N hc) (cf_X9_122 (by decide)) ⟨m_5_23, ms_3_7⟩ (As := [.int x1, .int (ar q 5 (ix (0 : Int32))), .int (ar q 5 (ix (1 : Int32))), .int (ar q 5 (ix (2 : Int32)))]) (q0 := 0) (ci := 7) rfl rfl rfl rfl (rc_X9 ad _) (Nat.le_of_ble_eq_true rfl) rfl dX9_fill_148 ?_
    obtain ⟨x7_151, hx, h⟩ := bn_some h
    refine r_iinc hR (i := 7) (lv' := [(7, .int x7_151), (0, .ref (ad 0)), (1, .int x1), (3, .int x3), (4, .int x4), (5, .long x5), (8, .int x8), (9, .int x9)]) dX9_fill_151 5 rfl (inc_ok hx kc_iconst_1) (by decide) rfl ?_
    refine r_goto hR (tgt := 61) dX9_fill_154 (by decide) ?_
    exact r_sub hR [1, 2, 3, 4, 5, 0, 6] rfl (hbk61 _ _ _ _ _ _ _ h)
  · replace h := it_f c_85 h
    refine r_ldc2 hR dX9_fill_88 m_5_39 ?_
    refine r_lload hR dX9_fill_91 4 rfl ?_
    refine r_lmul hR dX9_fill_93 ?_
    refine r_ldc2 hR dX9_fill_94 m_5_40 ?_
    refine r_ladd hR dX9_fill_97 ?_
    refine r_ldc2 hR dX9_fill_98 m_5_41 ?_
    refine r_land hR dX9_fill_101 ?_
    obtain ⟨x5_102, hx, h⟩ := bn_some h
    refine r_lstore hR (i := 5) (lv' := [(5, .long x5_102), (0, .ref (ad 0)), (1, .int x1), (3, .int x3), (4, .int x4), (7, .int x7), (8, .int x8), (9, .int x9)]) dX9_fill_102 hx (by decide) rfl ?_
    refine r_aload_n hR dX9_fill_104 rfl 1 rfl ?_
    refine g_X9_drawn hR m_4_126 dX9_fill_105 ?_
    refine r_iload hR dX9_fill_108 7 rfl ?_
    refine r_lload hR dX9_fill_110 0 rfl ?_
    refine r_ldc2 hR dX9_fill_112 m_5_42 ?_
    refine r_ldiv hR dX9_fill_115 (by decide) ?_
    refine r_iload hR dX9_fill_116 4 rfl ?_
    refine r_i2l hR dX9_fill_118 ?_
    obtain ⟨hnz, h⟩ := dzl_some h
    refine r_lrem hR dX9_fill_119 hnz ?_
    refine r_l2i hR dX9_fill_120 ?_
    obtain ⟨hin, h⟩ := ck_some h
    obtain ⟨q_121, hq, h⟩ := bn_some h
    refine sv_X9_drawn hR dX9_fill_121 hin hq ?_
    obtain ⟨x9_122, hx, h⟩ := bn_some h
    refine r_iinc hR (i := 9) (lv' := [(9, .int x9_122), (5, .long x5_102), (0, .ref (ad 0)), (1, .int x1), (3, .int x3), (4, .int x4), (7, .int x7), (8, .int x8)]) dX9_fill_122 7 rfl (inc_ok hx kc_iconst_1) (by decide) rfl ?_
    refine r_goto hR (tgt := 81) dX9_fill_125 (by decide) ?_
    exact r_sub hR [2, 3, 4, 5, 1, 6, 7, 0] rfl (hbk81 _ _ _ _ _ _ _ _ h)
theorem t9_fill_l81 (hR : Rl wM 4 RX9 cX9_fill 10 (some .int) ad J P) (N : Nat) {r : Int32} {q2 : SS} (hP : P (some (.int r)) q2) (bk61 : Int32 → Int32 → Int32 → Int64 → Int32 → Int32 → SS → Option (Int32 × SS)) (hbk61 : ∀ (x1 : Int32) (x3 : Int32) (x4 : Int32) (x5 : Int64) (x7 : Int32) (x8 : Int32) (q : SS), bk61 x1 x3 x4 x5 x7 x8 q = some (r, q2) → J [(0, .ref (ad 0)), (1, .int x1), (3, .int x3), (4, .int x4), (5, .long x5), (7, .int x7), (8, .int x8)] [] q 61) : ∀ (n : Nat) (x1 : Int32) (x3 : Int32) (x4 : Int32) (x5 : Int64) (x7 : Int32) (x8 : Int32) (x9 : Int32) (q : SS), f9_fill_l81 N bk61 n x1 x3 x4 x5 x7 x8 x9 q = some (r, q2) → J [(0, .ref (ad 0)), (1, .int x1), (3, .int x3), (4, .int x4), (5, .long x5), (7, .int x7), (8, .int x8), (9, .int x9)] [] q 81 := by
  intro n
  induction n with
  | zero => intro x1 x3 x4 x5 x7 x8 x9 q h; exact mu_noneF h
  | succ n ih => intro x1 x3 x4 x5 x7 x8 x9 q h; exact t9_fill_l81_B hR N hP bk61 hbk61 _ ih x1 x3 x4 x5 x7 x8 x9 q h
theorem t9_fill_l61_B (hR : Rl wM 4 RX9 cX9_fill 10 (some .int) ad J P) (N : Nat) {r : Int32} {q2 : SS} (hP : P (some (.int r)) q2) (bk61 : Int32 → Int32 → Int32 → Int64 → Int32 → Int32 → SS → Option (Int32 × SS)) (hbk61 : ∀ (x1 : Int32) (x3 : Int32) (x4 : Int32) (x5 : Int64) (x7 : Int32) (x8 : Int32) (q : SS), bk61 x1 x3 x4 x5 x7 x8 q = some (r, q2) → J [(0, .ref (ad 0)), (1, .int x1), (3, .int x3), (4, .int x4), (5, .long x5), (7, .int x7), (8, .int x8)] [] q 61) (x1 : Int32) (x3 : Int32) (x4 : Int32) (x5 : Int64) (x7 : Int32) (x8 : Int32) (q : SS) (h : f9_fill_l61_B N bk61 x1 x3 x4 x5 x7 x8 q = some (r, q2)) : J [(0, .ref (ad 0)), (1, .int x1), (3, .int x3), (4, .int x4), (5, .long x5), (7, .int x7), (8, .int x8)] [] q 61 := by
  unfold f9_fill_l61_B at h
  refine r_iload hR dX9_fill_61 5 rfl ?_
  refine r_iload_n hR dX9_fill_63 rfl 2 rfl ?_
  refine r_icmp_ge hR (tgt := 157) dX9_fill_64 (by decide) (fun c_64 => ?_) (fun c_64 => ?_)
  · replace h := it_t c_64 h
    refine r_iload hR dX9_fill_157 5 rfl ?_
    exact r_iret hR dX9_fill_159 rfl (rt2 hP h)
  · replace h := it_f c_64 h
    refine r_aload_n hR dX9_fill_67 rfl 0 rfl ?_
    refine g_X9_rows hR m_4_122 dX9_fill_68 ?_
    refine r_iload_n hR dX9_fill_71 rfl 1 rfl ?_
    obtain ⟨hin, h⟩ := ck_some h
    refine ld_X9_rows hR dX9_fill_72 hin ?_
    refine r_bipush hR dX9_fill_73 kc_bipush_8 ?_
    refine r_icmp_ge hR (tgt := 157) dX9_fill_75 (by decide) (fun c_75 => ?_) (fun c_75 => ?_)
    · replace h := it_t c_75 h
      refine r_iload hR dX9_fill_157 5 rfl ?_
      exact r_iret hR dX9_fill_159 rfl (rt2 hP h)
    · replace h := it_f c_75 h
      refine r_iconst hR dX9_fill_78 kc_iconst_0 ?_
      refine r_istore hR (i := 9) (lv' := [(9, .int (0 : Int32)), (0, .ref (ad 0)), (1, .int x1), (3, .int x3), (4, .int x4), (5, .long x5), (7, .int x7), (8, .int x8)]) dX9_fill_79 rfl (by decide) rfl ?_
      exact r_sub hR [1, 2, 3, 4, 5, 6, 7, 0] rfl (t9_fill_l81 hR N hP bk61 hbk61 N _ _ _ _ _ _ _ _ h)
theorem t9_fill_l61 (hR : Rl wM 4 RX9 cX9_fill 10 (some .int) ad J P) (N : Nat) {r : Int32} {q2 : SS} (hP : P (some (.int r)) q2) : ∀ (n : Nat) (x1 : Int32) (x3 : Int32) (x4 : Int32) (x5 : Int64) (x7 : Int32) (x8 : Int32) (q : SS), f9_fill_l61 N n x1 x3 x4 x5 x7 x8 q = some (r, q2) → J [(0, .ref (ad 0)), (1, .int x1), (3, .int x3), (4, .int x4), (5, .long x5), (7, .int x7), (8, .int x8)] [] q 61 := by
  intro n
  induction n with
  | zero => intro x1 x3 x4 x5 x7 x8 q h; exact mu_noneF h
  | succ n ih => intro x1 x3 x4 x5 x7 x8 q h; exact t9_fill_l61_B hR N hP _ ih x1 x3 x4 x5 x7 x8 q h
theorem t9_fill (hR : Rl wM 4 RX9 cX9_fill 10 (some .int) ad J P) (N : Nat) {r : Int32} {q2 : SS} (hP : P (some (.int r)) q2) (x1 : Int32) (x2 : Int32) (x3 : Int32) (x4 : Int32) (q : SS) (h : f9_fill N x1 x2 x3 x4 q = some (r, q2)) : J [(0, .ref (ad 0)), (1, .int x1), (2, .int x2), (3, .int x3), (4, .int x4)] [] q 0 := by
  unfold f9_fill at h
  refine r_aload_n hR dX9_fill_0 rfl 0 rfl ?_
  refine r_iload_n hR dX9_fill_1 rfl 1 rfl ?_
  obtain ⟨r_2, hc, h⟩ := bd_some h
  refine r_callVi hR (c9_isTable hc) (cf_X9_116 (by decide)) ⟨m_5_18, ms_3_6⟩ (As := [.int x1]) (q0 := 0) (ci := 7) rfl rfl rfl rfl (rc_X9 ad _) (Nat.le_of_ble_eq_true rfl) rfl dX9_fill_2 ?_
  refine r_if_ne hR (tgt := 11) dX9_fill_5 (by decide) (fun c_5 => ?_) (fun c_5 => ?_)
  · replace h := it_f c_5 h
    refine r_iload_n hR dX9_fill_11 rfl 2 rfl ?_
    refine r_if_lt hR (tgt := 40) dX9_fill_12 (by decide) (fun c_12 => ?_) (fun c_12 => ?_)
    · replace h := it_t c_12 h
      refine r_bipush hR dX9_fill_40 kc_bipush_m102 ?_
      exact r_iret hR dX9_fill_42 rfl (rt2 hP h)
    · replace h := it_f c_12 h
      refine r_iload_n hR dX9_fill_15 rfl 3 rfl ?_
      refine r_i2l hR dX9_fill_16 ?_
      refine r_lconst hR dX9_fill_17 kc_lconst_1 ?_
      refine r_ldc2 hR dX9_fill_18 m_5_37 ?_
      obtain ⟨r_21, hc, h⟩ := bd_some h
      refine r_callSi hR (c9_in hc) (cf_X9_92 (by decide)) m_5_6 (As := [.long (Int32.toInt64 x3), .long (1 : Int64), .long (8 : Int64)]) rfl rfl (Nat.le_of_ble_eq_true rfl) rfl dX9_fill_21 ?_
      refine r_if_eq hR (tgt := 40) dX9_fill_24 (by decide) (fun c_24 => ?_) (fun c_24 => ?_)
      · replace h := it_t c_24 h
        refine r_bipush hR dX9_fill_40 kc_bipush_m102 ?_
        exact r_iret hR dX9_fill_42 rfl (rt2 hP h)
      · replace h := it_f c_24 h
        refine r_iload hR dX9_fill_27 4 rfl ?_
        refine r_i2l hR dX9_fill_29 ?_
        refine r_lconst hR dX9_fill_30 kc_lconst_1 ?_
        refine r_ldc2 hR dX9_fill_31 m_5_38 ?_
        obtain ⟨r_34, hc, h⟩ := bd_some h
        refine r_callSi hR (c9_in hc) (cf_X9_92 (by decide)) m_5_6 (As := [.long (Int32.toInt64 x4), .long (1 : Int64), .long (10 : Int64)]) rfl rfl (Nat.le_of_ble_eq_true rfl) rfl dX9_fill_34 ?_
        refine r_if_ne hR (tgt := 43) dX9_fill_37 (by decide) (fun c_37 => ?_) (fun c_37 => ?_)
        · replace h := it_f c_37 h
          refine r_iload_n hR dX9_fill_43 rfl 2 rfl ?_
          refine r_i2l hR dX9_fill_44 ?_
          obtain ⟨x5_45, hx, h⟩ := bn_some h
          refine r_lstore hR (i := 5) (lv' := [(5, .long x5_45), (0, .ref (ad 0)), (1, .int x1), (2, .int x2), (3, .int x3), (4, .int x4)]) dX9_fill_45 hx (by decide) rfl ?_
          refine r_iconst hR dX9_fill_47 kc_iconst_0 ?_
          refine r_istore hR (i := 7) (lv' := [(7, .int (0 : Int32)), (5, .long x5_45), (0, .ref (ad 0)), (1, .int x1), (2, .int x2), (3, .int x3), (4, .int x4)]) dX9_fill_48 rfl (by decide) rfl ?_
          refine r_aload_n hR dX9_fill_50 rfl 2 rfl ?_
          refine g_X9_lettersOf hR m_4_120 dX9_fill_51 ?_
          refine r_iload_n hR dX9_fill_54 rfl 3 rfl ?_
          obtain ⟨hin, h⟩ := ck_some h
          refine ld_X9_lettersOf hR dX9_fill_55 hin ?_
          obtain ⟨r_56, hc, h⟩ := bd_some h
          refine r_callSi hR (c9_bitsOf N hc) (cf_X9_98 (by decide)) m_5_9 (As := [.int (ar q 1 (ix x1))]) rfl rfl (Nat.le_of_ble_eq_true rfl) rfl dX9_fill_56 ?_
          refine r_istore hR (i := 8) (lv' := [(8, .int r_56), (7, .int (0 : Int32)), (5, .long x5_45), (0, .ref (ad 0)), (1, .int x1), (2, .int x2), (3, .int x3), (4, .int x4)]) dX9_fill_59 rfl (by decide) rfl ?_
          exact r_sub hR [3, 4, 6, 7, 2, 1, 0] rfl (t9_fill_l61 hR N hP N _ _ _ _ _ _ _ h)
        · replace h := it_t c_37 h
          refine r_bipush hR dX9_fill_40 kc_bipush_m102 ?_
          exact r_iret hR dX9_fill_42 rfl (rt2 hP h)
  · replace h := it_t c_5 h
    refine r_bipush hR dX9_fill_8 kc_bipush_m101 ?_
    exact r_iret hR dX9_fill_10 rfl (rt2 hP h)
theorem c9_fill (N : Nat) {x1 : Int32} {x2 : Int32} {x3 : Int32} {x4 : Int32} {q : SS} {r : Int32} {q2 : SS} (h : f9_fill N x1 x2 x3 x4 q = some (r, q2)) : Ct wM 4 yX9_fill cX9_fill 10 (some .int) (fun ad => [.ref (ad 0), .int x1, .int x2, .int x3, .int x4]) q (fun _ => some (.int r)) q2 :=
  ct_of (by decide) (fun _ => Nat.le_of_ble_eq_true rfl) (fun ad J hR => t9_fill hR N ⟨rfl, rfl⟩ x1 x2 x3 x4 q h)
theorem t9_isRow (hR : Rl wM 3 RX9 cX9_isRow 3 (some .boolean) ad J P) (q : SS) {r : Int32} (hP : P (some (.int r)) q) (x1 : Int32) (x2 : Int32) (h : f9_isRow q x1 x2 = some r) : J [(0, .ref (ad 0)), (1, .int x1), (2, .int x2)] [] q 0 := by
  unfold f9_isRow at h
  refine r_aload_n hR dX9_isRow_0 rfl 0 rfl ?_
  refine r_iload_n hR dX9_isRow_1 rfl 1 rfl ?_
  obtain ⟨r_2, hc, h⟩ := bd_some h
  refine r_callVi hR (c9_isTable hc) (cf_X9_116 (by decide)) ⟨m_5_18, ms_3_6⟩ (As := [.int x1]) (q0 := 0) (ci := 7) rfl rfl rfl rfl (rc_X9 ad _) (Nat.le_of_ble_eq_true rfl) rfl dX9_isRow_2 ?_
  refine r_if_eq hR (tgt := 30) dX9_isRow_5 (by decide) (fun c_5 => ?_) (fun c_5 => ?_)
  · replace h := it_t c_5 h
    refine r_iconst hR dX9_isRow_30 kc_iconst_0 ?_
    exact r_zret hR dX9_isRow_31 rfl (Or.inl rfl) (rt1 hP h)
  · replace h := it_f c_5 h
    refine r_iload_n hR dX9_isRow_8 rfl 2 rfl ?_
    refine r_i2l hR dX9_isRow_9 ?_
    refine r_lconst hR dX9_isRow_10 kc_lconst_0 ?_
    refine r_aload_n hR dX9_isRow_11 rfl 0 rfl ?_
    refine g_X9_rows hR m_4_122 dX9_isRow_12 ?_
    refine r_iload_n hR dX9_isRow_15 rfl 1 rfl ?_
    obtain ⟨hin, h⟩ := ck_some h
    refine ld_X9_rows hR dX9_isRow_16 hin ?_
    refine r_iconst hR dX9_isRow_17 kc_iconst_1 ?_
    refine r_isub hR dX9_isRow_18 ?_
    refine r_i2l hR dX9_isRow_19 ?_
    obtain ⟨r_20, hc, h⟩ := bd_some h
    refine r_callSi hR (c9_in hc) (cf_X9_92 (by decide)) m_5_6 (As := [.long (Int32.toInt64 x2), .long (0 : Int64), .long (Int32.toInt64 ((ar q 3 (ix x1)) - (1 : Int32)))]) rfl rfl (Nat.le_of_ble_eq_true rfl) rfl dX9_isRow_20 ?_
    refine r_if_eq hR (tgt := 30) dX9_isRow_23 (by decide) (fun c_23 => ?_) (fun c_23 => ?_)
    · replace h := it_t c_23 h
      refine r_iconst hR dX9_isRow_30 kc_iconst_0 ?_
      exact r_zret hR dX9_isRow_31 rfl (Or.inl rfl) (rt1 hP h)
    · replace h := it_f c_23 h
      refine r_iconst hR dX9_isRow_26 kc_iconst_1 ?_
      refine r_goto hR (tgt := 31) dX9_isRow_27 (by decide) ?_
      exact r_zret hR dX9_isRow_31 rfl (Or.inr rfl) (rt1 hP h)
theorem c9_isRow {x1 : Int32} {x2 : Int32} {q : SS} {r : Int32} (h : f9_isRow q x1 x2 = some r) : Ct wM 3 yX9_isRow cX9_isRow 3 (some .boolean) (fun ad => [.ref (ad 0), .int x1, .int x2]) q (fun _ => some (.int r)) q :=
  ct_of (by decide) (fun _ => Nat.le_of_ble_eq_true rfl) (fun ad J hR => t9_isRow hR q ⟨rfl, rfl⟩ x1 x2 h)
theorem t9_drop_l37_B (hR : Rl wM 4 RX9 cX9_drop 5 (some .int) ad J P) (N : Nat) {r : Int32} {q2 : SS} (hP : P (some (.int r)) q2) (bk24 : Int32 → Int32 → SS → Option (Int32 × SS)) (hbk24 : ∀ (x1 : Int32) (x3 : Int32) (q : SS), bk24 x1 x3 q = some (r, q2) → J [(0, .ref (ad 0)), (1, .int x1), (3, .int x3)] [] q 24) (bk37 : Int32 → Int32 → Int32 → SS → Option (Int32 × SS)) (hbk37 : ∀ (x1 : Int32) (x3 : Int32) (x4 : Int32) (q : SS), bk37 x1 x3 x4 q = some (r, q2) → J [(0, .ref (ad 0)), (1, .int x1), (3, .int x3), (4, .int x4)] [] q 37) (x1 : Int32) (x3 : Int32) (x4 : Int32) (q : SS) (h : f9_drop_l37_B N bk24 bk37 x1 x3 x4 q = some (r, q2)) : J [(0, .ref (ad 0)), (1, .int x1), (3, .int x3), (4, .int x4)] [] q 37 := by
  unfold f9_drop_l37_B at h
  refine r_iload hR dX9_drop_37 3 rfl ?_
  refine r_bipush hR dX9_drop_39 kc_bipush_8 ?_
  refine r_icmp_ge hR (tgt := 87) dX9_drop_41 (by decide) (fun c_41 => ?_) (fun c_41 => ?_)
  · replace h := it_t c_41 h
    obtain ⟨x3_87, hx, h⟩ := bn_some h
    refine r_iinc hR (i := 3) (lv' := [(3, .int x3_87), (0, .ref (ad 0)), (1, .int x1), (4, .int x4)]) dX9_drop_87 2 rfl (inc_ok hx kc_iconst_1) (by decide) rfl ?_
    refine r_goto hR (tgt := 24) dX9_drop_90 (by decide) ?_
    exact r_sub hR [1, 2, 0] rfl (hbk24 _ _ _ h)
  · replace h := it_f c_41 h
    refine r_aload_n hR dX9_drop_44 rfl 0 rfl ?_
    refine g_X9_numbers hR m_4_123 dX9_drop_45 ?_
    refine r_bipush hR dX9_drop_48 kc_bipush_64 ?_
    refine r_iload_n hR dX9_drop_50 rfl 1 rfl ?_
    refine r_imul hR dX9_drop_51 ?_
    refine r_bipush hR dX9_drop_52 kc_bipush_8 ?_
    refine r_iload_n hR dX9_drop_54 rfl 2 rfl ?_
    refine r_imul hR dX9_drop_55 ?_
    refine r_iadd hR dX9_drop_56 ?_
    refine r_iload hR dX9_drop_57 3 rfl ?_
    refine r_iadd hR dX9_drop_59 ?_
    refine r_aload_n hR dX9_drop_60 rfl 0 rfl ?_
    refine g_X9_numbers hR m_4_123 dX9_drop_61 ?_
    refine r_bipush hR dX9_drop_64 kc_bipush_64 ?_
    refine r_iload_n hR dX9_drop_66 rfl 1 rfl ?_
    refine r_imul hR dX9_drop_67 ?_
    refine r_bipush hR dX9_drop_68 kc_bipush_8 ?_
    refine r_iload_n hR dX9_drop_70 rfl 2 rfl ?_
    refine r_imul hR dX9_drop_71 ?_
    refine r_iadd hR dX9_drop_72 ?_
    refine r_bipush hR dX9_drop_73 kc_bipush_8 ?_
    refine r_iadd hR dX9_drop_75 ?_
    refine r_iload hR dX9_drop_76 3 rfl ?_
    refine r_iadd hR dX9_drop_78 ?_
    obtain ⟨hin, h⟩ := ck_some h
    refine ld_X9_numbers hR dX9_drop_79 hin ?_
    obtain ⟨hin, h⟩ := ck_some h
    obtain ⟨q_80, hq, h⟩ := bn_some h
    refine sv_X9_numbers hR dX9_drop_80 hin hq ?_
    obtain ⟨x4_81, hx, h⟩ := bn_some h
    refine r_iinc hR (i := 4) (lv' := [(4, .int x4_81), (0, .ref (ad 0)), (1, .int x1), (3, .int x3)]) dX9_drop_81 3 rfl (inc_ok hx kc_iconst_1) (by decide) rfl ?_
    refine r_goto hR (tgt := 37) dX9_drop_84 (by decide) ?_
    exact r_sub hR [1, 2, 3, 0] rfl (hbk37 _ _ _ _ h)
theorem t9_drop_l37 (hR : Rl wM 4 RX9 cX9_drop 5 (some .int) ad J P) (N : Nat) {r : Int32} {q2 : SS} (hP : P (some (.int r)) q2) (bk24 : Int32 → Int32 → SS → Option (Int32 × SS)) (hbk24 : ∀ (x1 : Int32) (x3 : Int32) (q : SS), bk24 x1 x3 q = some (r, q2) → J [(0, .ref (ad 0)), (1, .int x1), (3, .int x3)] [] q 24) : ∀ (n : Nat) (x1 : Int32) (x3 : Int32) (x4 : Int32) (q : SS), f9_drop_l37 N bk24 n x1 x3 x4 q = some (r, q2) → J [(0, .ref (ad 0)), (1, .int x1), (3, .int x3), (4, .int x4)] [] q 37 := by
  intro n
  induction n with
  | zero => intro x1 x3 x4 q h; exact mu_noneF h
  | succ n ih => intro x1 x3 x4 q h; exact t9_drop_l37_B hR N hP bk24 hbk24 _ ih x1 x3 x4 q h
theorem t9_drop_l24_B (hR : Rl wM 4 RX9 cX9_drop 5 (some .int) ad J P) (N : Nat) {r : Int32} {q2 : SS} (hP : P (some (.int r)) q2) (bk24 : Int32 → Int32 → SS → Option (Int32 × SS)) (hbk24 : ∀ (x1 : Int32) (x3 : Int32) (q : SS), bk24 x1 x3 q = some (r, q2) → J [(0, .ref (ad 0)), (1, .int x1), (3, .int x3)] [] q 24) (x1 : Int32) (x3 : Int32) (q : SS) (h : f9_drop_l24_B N bk24 x1 x3 q = some (r, q2)) : J [(0, .ref (ad 0)), (1, .int x1), (3, .int x3)] [] q 24 := by
  unfold f9_drop_l24_B at h
  refine r_iload_n hR dX9_drop_24 rfl 2 rfl ?_
  refine r_aload_n hR dX9_drop_25 rfl 0 rfl ?_
  refine g_X9_rows hR m_4_122 dX9_drop_26 ?_
  refine r_iload_n hR dX9_drop_29 rfl 1 rfl ?_
  obtain ⟨hin, h⟩ := ck_some h
  refine ld_X9_rows hR dX9_drop_30 hin ?_
  refine r_icmp_ge hR (tgt := 93) dX9_drop_31 (by decide) (fun c_31 => ?_) (fun c_31 => ?_)
  · replace h := it_t c_31 h
    refine r_aload_n hR dX9_drop_93 rfl 0 rfl ?_
    refine r_iconst hR dX9_drop_94 kc_iconst_0 ?_
    obtain ⟨q_95, hq, h⟩ := bn_some h
    refine p_X9_isCounted hR m_4_129 dX9_drop_95 (Or.inl rfl) hq ?_
    refine r_aload_n hR dX9_drop_98 rfl 0 rfl ?_
    refine g_X9_rows hR m_4_122 dX9_drop_99 ?_
    refine r_iload_n hR dX9_drop_102 rfl 1 rfl ?_
    obtain ⟨hin, h⟩ := ck_some h
    refine ld_X9_rows hR dX9_drop_103 hin ?_
    exact r_iret hR dX9_drop_104 rfl (rt2 hP h)
  · replace h := it_f c_31 h
    refine r_iconst hR dX9_drop_34 kc_iconst_0 ?_
    refine r_istore hR (i := 4) (lv' := [(4, .int (0 : Int32)), (0, .ref (ad 0)), (1, .int x1), (3, .int x3)]) dX9_drop_35 rfl (by decide) rfl ?_
    exact r_sub hR [1, 2, 3, 0] rfl (t9_drop_l37 hR N hP bk24 hbk24 N _ _ _ _ h)
theorem t9_drop_l24 (hR : Rl wM 4 RX9 cX9_drop 5 (some .int) ad J P) (N : Nat) {r : Int32} {q2 : SS} (hP : P (some (.int r)) q2) : ∀ (n : Nat) (x1 : Int32) (x3 : Int32) (q : SS), f9_drop_l24 N n x1 x3 q = some (r, q2) → J [(0, .ref (ad 0)), (1, .int x1), (3, .int x3)] [] q 24 := by
  intro n
  induction n with
  | zero => intro x1 x3 q h; exact mu_noneF h
  | succ n ih => intro x1 x3 q h; exact t9_drop_l24_B hR N hP _ ih x1 x3 q h
theorem t9_drop (hR : Rl wM 4 RX9 cX9_drop 5 (some .int) ad J P) (N : Nat) {r : Int32} {q2 : SS} (hP : P (some (.int r)) q2) (x1 : Int32) (x2 : Int32) (q : SS) (h : f9_drop N x1 x2 q = some (r, q2)) : J [(0, .ref (ad 0)), (1, .int x1), (2, .int x2)] [] q 0 := by
  unfold f9_drop at h
  refine r_aload_n hR dX9_drop_0 rfl 0 rfl ?_
  refine r_iload_n hR dX9_drop_1 rfl 1 rfl ?_
  refine r_iload_n hR dX9_drop_2 rfl 2 rfl ?_
  obtain ⟨r_3, hc, h⟩ := bd_some h
  refine r_callVi hR (c9_isRow hc) (cf_X9_138 (by decide)) ⟨m_5_49, ms_3_10⟩ (As := [.int x1, .int x2]) (q0 := 0) (ci := 7) rfl rfl rfl rfl (rc_X9 ad _) (Nat.le_of_ble_eq_true rfl) rfl dX9_drop_3 ?_
  refine r_if_ne hR (tgt := 12) dX9_drop_6 (by decide) (fun c_6 => ?_) (fun c_6 => ?_)
  · replace h := it_f c_6 h
    refine r_aload_n hR dX9_drop_12 rfl 0 rfl ?_
    refine g_X9_rows hR m_4_122 dX9_drop_13 ?_
    refine r_iload_n hR dX9_drop_16 rfl 1 rfl ?_
    refine r_dup2 hR dX9_drop_17 rfl rfl ?_
    obtain ⟨hin, h⟩ := ck_some h
    refine ld_X9_rows hR dX9_drop_18 hin ?_
    refine r_iconst hR dX9_drop_19 kc_iconst_1 ?_
    refine r_isub hR dX9_drop_20 ?_
    obtain ⟨hin, h⟩ := ck_some h
    obtain ⟨q_21, hq, h⟩ := bn_some h
    refine sv_X9_rows hR dX9_drop_21 hin hq ?_
    refine r_iload_n hR dX9_drop_22 rfl 2 rfl ?_
    refine r_istore_n hR (i := 3) (lv' := [(3, .int x2), (0, .ref (ad 0)), (1, .int x1), (2, .int x2)]) dX9_drop_23 rfl rfl (by decide) rfl ?_
    exact r_sub hR [1, 2, 0] rfl (t9_drop_l24 hR N hP N _ _ _ h)
  · replace h := it_t c_6 h
    refine r_bipush hR dX9_drop_9 kc_bipush_m101 ?_
    exact r_iret hR dX9_drop_11 rfl (rt2 hP h)
theorem c9_drop (N : Nat) {x1 : Int32} {x2 : Int32} {q : SS} {r : Int32} {q2 : SS} (h : f9_drop N x1 x2 q = some (r, q2)) : Ct wM 4 yX9_drop cX9_drop 5 (some .int) (fun ad => [.ref (ad 0), .int x1, .int x2]) q (fun _ => some (.int r)) q2 :=
  ct_of (by decide) (fun _ => Nat.le_of_ble_eq_true rfl) (fun ad J hR => t9_drop hR N ⟨rfl, rfl⟩ x1 x2 q h)
theorem t9_sort_l208_B (hR : Rl wM 3 RX9 cX9_sort 6 (some .int) ad J P) (N : Nat) {r : Int32} {q2 : SS} (hP : P (some (.int r)) q2) (bk174 : Int32 → Int32 → Int32 → SS → Option (Int32 × SS)) (hbk174 : ∀ (x1 : Int32) (x3 : Int32) (x4 : Int32) (q : SS), bk174 x1 x3 x4 q = some (r, q2) → J [(0, .ref (ad 0)), (1, .int x1), (3, .int x3), (4, .int x4)] [] q 174) (bk208 : Int32 → Int32 → Int32 → Int32 → SS → Option (Int32 × SS)) (hbk208 : ∀ (x1 : Int32) (x3 : Int32) (x4 : Int32) (x5 : Int32) (q : SS), bk208 x1 x3 x4 x5 q = some (r, q2) → J [(0, .ref (ad 0)), (1, .int x1), (3, .int x3), (4, .int x4), (5, .int x5)] [] q 208) (x1 : Int32) (x3 : Int32) (x4 : Int32) (x5 : Int32) (q : SS) (h : f9_sort_l208_B N bk174 bk208 x1 x3 x4 x5 q = some (r, q2)) : J [(0, .ref (ad 0)), (1, .int x1), (3, .int x3), (4, .int x4), (5, .int x5)] [] q 208 := by
  unfold f9_sort_l208_B at h
  refine r_iload hR dX9_sort_208 4 rfl ?_
  refine r_bipush hR dX9_sort_210 kc_bipush_8 ?_
  refine r_icmp_ge hR (tgt := 257) dX9_sort_212 (by decide) (fun c_212 => ?_) (fun c_212 => ?_)
  · replace h := it_t c_212 h
    obtain ⟨x4_257, hx, h⟩ := bn_some h
    refine r_iinc hR (i := 4) (lv' := [(4, .int x4_257), (0, .ref (ad 0)), (1, .int x1), (3, .int x3), (5, .int x5)]) dX9_sort_257 3 rfl (inc_ok hx kc_iconst_1) (by decide) rfl ?_
    refine r_goto hR (tgt := 174) dX9_sort_260 (by decide) ?_
    exact r_sub hR [1, 2, 3, 0] rfl (hbk174 _ _ _ _ h)
  · replace h := it_f c_212 h
    refine r_aload_n hR dX9_sort_215 rfl 0 rfl ?_
    refine g_X9_numbers hR m_4_123 dX9_sort_216 ?_
    refine r_bipush hR dX9_sort_219 kc_bipush_64 ?_
    refine r_iload_n hR dX9_sort_221 rfl 1 rfl ?_
    refine r_imul hR dX9_sort_222 ?_
    refine r_bipush hR dX9_sort_223 kc_bipush_8 ?_
    refine r_iload hR dX9_sort_225 3 rfl ?_
    refine r_imul hR dX9_sort_227 ?_
    refine r_iadd hR dX9_sort_228 ?_
    refine r_iload hR dX9_sort_229 4 rfl ?_
    refine r_iadd hR dX9_sort_231 ?_
    refine r_aload_n hR dX9_sort_232 rfl 0 rfl ?_
    refine g_X9_held hR m_4_128 dX9_sort_233 ?_
    refine r_bipush hR dX9_sort_236 kc_bipush_8 ?_
    refine r_aload_n hR dX9_sort_238 rfl 0 rfl ?_
    refine g_X9_order hR m_4_127 dX9_sort_239 ?_
    refine r_iload hR dX9_sort_242 3 rfl ?_
    obtain ⟨hin, h⟩ := ck_some h
    refine ld_X9_order hR dX9_sort_244 hin ?_
    refine r_imul hR dX9_sort_245 ?_
    refine r_iload hR dX9_sort_246 4 rfl ?_
    refine r_iadd hR dX9_sort_248 ?_
    obtain ⟨hin, h⟩ := ck_some h
    refine ld_X9_held hR dX9_sort_249 hin ?_
    obtain ⟨hin, h⟩ := ck_some h
    obtain ⟨q_250, hq, h⟩ := bn_some h
    refine sv_X9_numbers hR dX9_sort_250 hin hq ?_
    obtain ⟨x5_251, hx, h⟩ := bn_some h
    refine r_iinc hR (i := 5) (lv' := [(5, .int x5_251), (0, .ref (ad 0)), (1, .int x1), (3, .int x3), (4, .int x4)]) dX9_sort_251 4 rfl (inc_ok hx kc_iconst_1) (by decide) rfl ?_
    refine r_goto hR (tgt := 208) dX9_sort_254 (by decide) ?_
    exact r_sub hR [1, 2, 3, 4, 0] rfl (hbk208 _ _ _ _ _ h)
theorem t9_sort_l208 (hR : Rl wM 3 RX9 cX9_sort 6 (some .int) ad J P) (N : Nat) {r : Int32} {q2 : SS} (hP : P (some (.int r)) q2) (bk174 : Int32 → Int32 → Int32 → SS → Option (Int32 × SS)) (hbk174 : ∀ (x1 : Int32) (x3 : Int32) (x4 : Int32) (q : SS), bk174 x1 x3 x4 q = some (r, q2) → J [(0, .ref (ad 0)), (1, .int x1), (3, .int x3), (4, .int x4)] [] q 174) : ∀ (n : Nat) (x1 : Int32) (x3 : Int32) (x4 : Int32) (x5 : Int32) (q : SS), f9_sort_l208 N bk174 n x1 x3 x4 x5 q = some (r, q2) → J [(0, .ref (ad 0)), (1, .int x1), (3, .int x3), (4, .int x4), (5, .int x5)] [] q 208 := by
  intro n
  induction n with
  | zero => intro x1 x3 x4 x5 q h; exact mu_noneF h
  | succ n ih => intro x1 x3 x4 x5 q h; exact t9_sort_l208_B hR N hP bk174 hbk174 _ ih x1 x3 x4 x5 q h
theorem t9_sort_b203 (hR : Rl wM 3 RX9 cX9_sort 6 (some .int) ad J P) (N : Nat) {r : Int32} {q2 : SS} (hP : P (some (.int r)) q2) (bk174 : Int32 → Int32 → Int32 → SS → Option (Int32 × SS)) (hbk174 : ∀ (x1 : Int32) (x3 : Int32) (x4 : Int32) (q : SS), bk174 x1 x3 x4 q = some (r, q2) → J [(0, .ref (ad 0)), (1, .int x1), (3, .int x3), (4, .int x4)] [] q 174) (x1 : Int32) (x4 : Int32) (s0 : Int32) (s1 : Int32) (q : SS) (h : f9_sort_b203 N bk174 x1 x4 s0 s1 q = some (r, q2)) : J [(0, .ref (ad 0)), (1, .int x1), (4, .int x4)] [.int s0, .int s1] q 203 := by
  unfold f9_sort_b203 at h
  refine r_iadd hR dX9_sort_203 ?_
  obtain ⟨x3_204, hx, h⟩ := bn_some h
  refine r_istore_n hR (i := 3) (lv' := [(3, .int x3_204), (0, .ref (ad 0)), (1, .int x1), (4, .int x4)]) dX9_sort_204 hx rfl (by decide) rfl ?_
  refine r_iconst hR dX9_sort_205 kc_iconst_0 ?_
  refine r_istore hR (i := 5) (lv' := [(5, .int (0 : Int32)), (3, .int x3_204), (0, .ref (ad 0)), (1, .int x1), (4, .int x4)]) dX9_sort_206 rfl (by decide) rfl ?_
  exact r_sub hR [2, 3, 1, 4, 0] rfl (t9_sort_l208 hR N hP bk174 hbk174 N _ _ _ _ _ h)
theorem t9_sort_l174_B (hR : Rl wM 3 RX9 cX9_sort 6 (some .int) ad J P) (N : Nat) {r : Int32} {q2 : SS} (hP : P (some (.int r)) q2) (bk174 : Int32 → Int32 → Int32 → SS → Option (Int32 × SS)) (hbk174 : ∀ (x1 : Int32) (x3 : Int32) (x4 : Int32) (q : SS), bk174 x1 x3 x4 q = some (r, q2) → J [(0, .ref (ad 0)), (1, .int x1), (3, .int x3), (4, .int x4)] [] q 174) (x1 : Int32) (x3 : Int32) (x4 : Int32) (q : SS) (h : f9_sort_l174_B N bk174 x1 x3 x4 q = some (r, q2)) : J [(0, .ref (ad 0)), (1, .int x1), (3, .int x3), (4, .int x4)] [] q 174 := by
  unfold f9_sort_l174_B at h
  refine r_iload hR dX9_sort_174 3 rfl ?_
  refine r_aload_n hR dX9_sort_176 rfl 0 rfl ?_
  refine g_X9_rows hR m_4_122 dX9_sort_177 ?_
  refine r_iload_n hR dX9_sort_180 rfl 1 rfl ?_
  obtain ⟨hin, h⟩ := ck_some h
  refine ld_X9_rows hR dX9_sort_181 hin ?_
  refine r_icmp_ge hR (tgt := 263) dX9_sort_182 (by decide) (fun c_182 => ?_) (fun c_182 => ?_)
  · replace h := it_t c_182 h
    refine r_aload_n hR dX9_sort_263 rfl 0 rfl ?_
    refine r_iconst hR dX9_sort_264 kc_iconst_0 ?_
    obtain ⟨q_265, hq, h⟩ := bn_some h
    refine p_X9_isCounted hR m_4_129 dX9_sort_265 (Or.inl rfl) hq ?_
    refine r_iload_n hR dX9_sort_268 rfl 2 rfl ?_
    exact r_iret hR dX9_sort_269 rfl (rt2 hP h)
  · replace h := it_f c_182 h
    refine r_iload_n hR dX9_sort_185 rfl 2 rfl ?_
    refine r_aload_n hR dX9_sort_186 rfl 0 rfl ?_
    refine g_X9_order hR m_4_127 dX9_sort_187 ?_
    refine r_iload hR dX9_sort_190 3 rfl ?_
    obtain ⟨hin, h⟩ := ck_some h
    refine ld_X9_order hR dX9_sort_192 hin ?_
    refine r_iload hR dX9_sort_193 3 rfl ?_
    refine r_icmp_ne hR (tgt := 202) dX9_sort_195 (by decide) (fun c_195 => ?_) (fun c_195 => ?_)
    · replace h := it_f c_195 h
      refine r_iconst hR dX9_sort_202 kc_iconst_1 ?_
      exact r_sub hR [0, 1, 3] rfl (t9_sort_b203 hR N hP bk174 hbk174 _ _ _ _ _ h)
    · replace h := it_t c_195 h
      refine r_iconst hR dX9_sort_198 kc_iconst_0 ?_
      refine r_goto hR (tgt := 203) dX9_sort_199 (by decide) ?_
      exact r_sub hR [0, 1, 3] rfl (t9_sort_b203 hR N hP bk174 hbk174 _ _ _ _ _ h)
theorem t9_sort_l174 (hR : Rl wM 3 RX9 cX9_sort 6 (some .int) ad J P) (N : Nat) {r : Int32} {q2 : SS} (hP : P (some (.int r)) q2) : ∀ (n : Nat) (x1 : Int32) (x3 : Int32) (x4 : Int32) (q : SS), f9_sort_l174 N n x1 x3 x4 q = some (r, q2) → J [(0, .ref (ad 0)), (1, .int x1), (3, .int x3), (4, .int x4)] [] q 174 := by
  intro n
  induction n with
  | zero => intro x1 x3 x4 q h; exact mu_noneF h
  | succ n ih => intro x1 x3 x4 q h; exact t9_sort_l174_B hR N hP _ ih x1 x3 x4 q h
theorem t9_sort_l139_B (hR : Rl wM 3 RX9 cX9_sort 6 (some .int) ad J P) (N : Nat) {r : Int32} {q2 : SS} (hP : P (some (.int r)) q2) (bk139 : Int32 → Int32 → Int32 → SS → Option (Int32 × SS)) (hbk139 : ∀ (x1 : Int32) (x3 : Int32) (x4 : Int32) (q : SS), bk139 x1 x3 x4 q = some (r, q2) → J [(0, .ref (ad 0)), (1, .int x1), (3, .int x3), (4, .int x4)] [] q 139) (x1 : Int32) (x3 : Int32) (x4 : Int32) (q : SS) (h : f9_sort_l139_B N bk139 x1 x3 x4 q = some (r, q2)) : J [(0, .ref (ad 0)), (1, .int x1), (3, .int x3), (4, .int x4)] [] q 139 := by
  unfold f9_sort_l139_B at h
  refine r_iload hR dX9_sort_139 3 rfl ?_
  refine r_bipush hR dX9_sort_141 kc_bipush_64 ?_
  refine r_icmp_ge hR (tgt := 171) dX9_sort_143 (by decide) (fun c_143 => ?_) (fun c_143 => ?_)
  · replace h := it_t c_143 h
    refine r_iconst hR dX9_sort_171 kc_iconst_0 ?_
    refine r_istore hR (i := 4) (lv' := [(4, .int (0 : Int32)), (0, .ref (ad 0)), (1, .int x1), (3, .int x3)]) dX9_sort_172 rfl (by decide) rfl ?_
    exact r_sub hR [1, 2, 3, 0] rfl (t9_sort_l174 hR N hP N _ _ _ _ h)
  · replace h := it_f c_143 h
    refine r_aload_n hR dX9_sort_146 rfl 0 rfl ?_
    refine g_X9_held hR m_4_128 dX9_sort_147 ?_
    refine r_iload hR dX9_sort_150 3 rfl ?_
    refine r_aload_n hR dX9_sort_152 rfl 0 rfl ?_
    refine g_X9_numbers hR m_4_123 dX9_sort_153 ?_
    refine r_bipush hR dX9_sort_156 kc_bipush_64 ?_
    refine r_iload_n hR dX9_sort_158 rfl 1 rfl ?_
    refine r_imul hR dX9_sort_159 ?_
    refine r_iload hR dX9_sort_160 3 rfl ?_
    refine r_iadd hR dX9_sort_162 ?_
    obtain ⟨hin, h⟩ := ck_some h
    refine ld_X9_numbers hR dX9_sort_163 hin ?_
    obtain ⟨hin, h⟩ := ck_some h
    obtain ⟨q_164, hq, h⟩ := bn_some h
    refine sv_X9_held hR dX9_sort_164 hin hq ?_
    obtain ⟨x4_165, hx, h⟩ := bn_some h
    refine r_iinc hR (i := 4) (lv' := [(4, .int x4_165), (0, .ref (ad 0)), (1, .int x1), (3, .int x3)]) dX9_sort_165 3 rfl (inc_ok hx kc_iconst_1) (by decide) rfl ?_
    refine r_goto hR (tgt := 139) dX9_sort_168 (by decide) ?_
    exact r_sub hR [1, 2, 3, 0] rfl (hbk139 _ _ _ _ h)
theorem t9_sort_l139 (hR : Rl wM 3 RX9 cX9_sort 6 (some .int) ad J P) (N : Nat) {r : Int32} {q2 : SS} (hP : P (some (.int r)) q2) : ∀ (n : Nat) (x1 : Int32) (x3 : Int32) (x4 : Int32) (q : SS), f9_sort_l139 N n x1 x3 x4 q = some (r, q2) → J [(0, .ref (ad 0)), (1, .int x1), (3, .int x3), (4, .int x4)] [] q 139 := by
  intro n
  induction n with
  | zero => intro x1 x3 x4 q h; exact mu_noneF h
  | succ n ih => intro x1 x3 x4 q h; exact t9_sort_l139_B hR N hP _ ih x1 x3 x4 q h
theorem t9_sort_b120 (hR : Rl wM 3 RX9 cX9_sort 6 (some .int) ad J P) (N : Nat) {r : Int32} {q2 : SS} (hP : P (some (.int r)) q2) (bk37 : Int32 → Int32 → Int32 → SS → Option (Int32 × SS)) (hbk37 : ∀ (x1 : Int32) (x2 : Int32) (x3 : Int32) (q : SS), bk37 x1 x2 x3 q = some (r, q2) → J [(0, .ref (ad 0)), (1, .int x1), (2, .int x2), (3, .int x3)] [] q 37) (x1 : Int32) (x2 : Int32) (x3 : Int32) (x4 : Int32) (q : SS) (h : f9_sort_b120 N bk37 x1 x2 x3 x4 q = some (r, q2)) : J [(0, .ref (ad 0)), (1, .int x1), (2, .int x2), (3, .int x3), (4, .int x4)] [] q 120 := by
  unfold f9_sort_b120 at h
  refine r_aload_n hR dX9_sort_120 rfl 0 rfl ?_
  refine g_X9_order hR m_4_127 dX9_sort_121 ?_
  refine r_iload hR dX9_sort_124 4 rfl ?_
  refine r_iload_n hR dX9_sort_126 rfl 3 rfl ?_
  obtain ⟨hin, h⟩ := ck_some h
  obtain ⟨q_127, hq, h⟩ := bn_some h
  refine sv_X9_order hR dX9_sort_127 hin hq ?_
  obtain ⟨x3_128, hx, h⟩ := bn_some h
  refine r_iinc hR (i := 3) (lv' := [(3, .int x3_128), (0, .ref (ad 0)), (1, .int x1), (2, .int x2), (4, .int x4)]) dX9_sort_128 3 rfl (inc_ok hx kc_iconst_1) (by decide) rfl ?_
  refine r_goto hR (tgt := 37) dX9_sort_131 (by decide) ?_
  exact r_sub hR [1, 2, 3, 0] rfl (hbk37 _ _ _ _ h)
theorem t9_sort_l50_B (hR : Rl wM 3 RX9 cX9_sort 6 (some .int) ad J P) (N : Nat) {r : Int32} {q2 : SS} (hP : P (some (.int r)) q2) (bk37 : Int32 → Int32 → Int32 → SS → Option (Int32 × SS)) (hbk37 : ∀ (x1 : Int32) (x2 : Int32) (x3 : Int32) (q : SS), bk37 x1 x2 x3 q = some (r, q2) → J [(0, .ref (ad 0)), (1, .int x1), (2, .int x2), (3, .int x3)] [] q 37) (bk50 : Int32 → Int32 → Int32 → Int32 → SS → Option (Int32 × SS)) (hbk50 : ∀ (x1 : Int32) (x2 : Int32) (x3 : Int32) (x4 : Int32) (q : SS), bk50 x1 x2 x3 x4 q = some (r, q2) → J [(0, .ref (ad 0)), (1, .int x1), (2, .int x2), (3, .int x3), (4, .int x4)] [] q 50) (x1 : Int32) (x2 : Int32) (x3 : Int32) (x4 : Int32) (q : SS) (h : f9_sort_l50_B N bk37 bk50 x1 x2 x3 x4 q = some (r, q2)) : J [(0, .ref (ad 0)), (1, .int x1), (2, .int x2), (3, .int x3), (4, .int x4)] [] q 50 := by
  unfold f9_sort_l50_B at h
  refine r_iload hR dX9_sort_50 4 rfl ?_
  refine r_if_le hR (tgt := 120) dX9_sort_52 (by decide) (fun c_52 => ?_) (fun c_52 => ?_)
  · replace h := it_t c_52 h
    exact r_sub hR [0, 1, 2, 3, 4] rfl (t9_sort_b120 hR N hP bk37 hbk37 _ _ _ _ _ h)
  · replace h := it_f c_52 h
    refine r_aload_n hR dX9_sort_55 rfl 0 rfl ?_
    refine g_X9_numbers hR m_4_123 dX9_sort_56 ?_
    refine r_bipush hR dX9_sort_59 kc_bipush_64 ?_
    refine r_iload_n hR dX9_sort_61 rfl 1 rfl ?_
    refine r_imul hR dX9_sort_62 ?_
    refine r_bipush hR dX9_sort_63 kc_bipush_8 ?_
    refine r_iload_n hR dX9_sort_65 rfl 3 rfl ?_
    refine r_imul hR dX9_sort_66 ?_
    refine r_iadd hR dX9_sort_67 ?_
    refine r_iload_n hR dX9_sort_68 rfl 2 rfl ?_
    refine r_iadd hR dX9_sort_69 ?_
    obtain ⟨hin, h⟩ := ck_some h
    refine ld_X9_numbers hR dX9_sort_70 hin ?_
    refine r_aload_n hR dX9_sort_71 rfl 0 rfl ?_
    refine g_X9_numbers hR m_4_123 dX9_sort_72 ?_
    refine r_bipush hR dX9_sort_75 kc_bipush_64 ?_
    refine r_iload_n hR dX9_sort_77 rfl 1 rfl ?_
    refine r_imul hR dX9_sort_78 ?_
    refine r_bipush hR dX9_sort_79 kc_bipush_8 ?_
    refine r_aload_n hR dX9_sort_81 rfl 0 rfl ?_
    refine g_X9_order hR m_4_127 dX9_sort_82 ?_
    refine r_iload hR dX9_sort_85 4 rfl ?_
    refine r_iconst hR dX9_sort_87 kc_iconst_1 ?_
    refine r_isub hR dX9_sort_88 ?_
    obtain ⟨hin, h⟩ := ck_some h
    refine ld_X9_order hR dX9_sort_89 hin ?_
    refine r_imul hR dX9_sort_90 ?_
    refine r_iadd hR dX9_sort_91 ?_
    refine r_iload_n hR dX9_sort_92 rfl 2 rfl ?_
    refine r_iadd hR dX9_sort_93 ?_
    obtain ⟨hin, h⟩ := ck_some h
    refine ld_X9_numbers hR dX9_sort_94 hin ?_
    refine r_icmp_ge hR (tgt := 120) dX9_sort_95 (by decide) (fun c_95 => ?_) (fun c_95 => ?_)
    · replace h := it_t c_95 h
      exact r_sub hR [0, 1, 2, 3, 4] rfl (t9_sort_b120 hR N hP bk37 hbk37 _ _ _ _ _ h)
    · replace h := it_f c_95 h
      refine r_aload_n hR dX9_sort_98 rfl 0 rfl ?_
      refine g_X9_order hR m_4_127 dX9_sort_99 ?_
      refine r_iload hR dX9_sort_102 4 rfl ?_
      refine r_aload_n hR dX9_sort_104 rfl 0 rfl ?_
      refine g_X9_order hR m_4_127 dX9_sort_105 ?_
      refine r_iload hR dX9_sort_108 4 rfl ?_
      refine r_iconst hR dX9_sort_110 kc_iconst_1 ?_
      refine r_isub hR dX9_sort_111 ?_
      obtain ⟨hin, h⟩ := ck_some h
      refine ld_X9_order hR dX9_sort_112 hin ?_
      obtain ⟨hin, h⟩ := ck_some h
      obtain ⟨q_113, hq, h⟩ := bn_some h
      refine sv_X9_order hR dX9_sort_113 hin hq ?_
      obtain ⟨x4_114, hx, h⟩ := bn_some h
      refine r_iinc hR (i := 4) (lv' := [(4, .int x4_114), (0, .ref (ad 0)), (1, .int x1), (2, .int x2), (3, .int x3)]) dX9_sort_114 4 rfl (inc_ok hx kc_iconst_m1) (by decide) rfl ?_
      refine r_goto hR (tgt := 50) dX9_sort_117 (by decide) ?_
      exact r_sub hR [1, 2, 3, 4, 0] rfl (hbk50 _ _ _ _ _ h)
theorem t9_sort_l50 (hR : Rl wM 3 RX9 cX9_sort 6 (some .int) ad J P) (N : Nat) {r : Int32} {q2 : SS} (hP : P (some (.int r)) q2) (bk37 : Int32 → Int32 → Int32 → SS → Option (Int32 × SS)) (hbk37 : ∀ (x1 : Int32) (x2 : Int32) (x3 : Int32) (q : SS), bk37 x1 x2 x3 q = some (r, q2) → J [(0, .ref (ad 0)), (1, .int x1), (2, .int x2), (3, .int x3)] [] q 37) : ∀ (n : Nat) (x1 : Int32) (x2 : Int32) (x3 : Int32) (x4 : Int32) (q : SS), f9_sort_l50 N bk37 n x1 x2 x3 x4 q = some (r, q2) → J [(0, .ref (ad 0)), (1, .int x1), (2, .int x2), (3, .int x3), (4, .int x4)] [] q 50 := by
  intro n
  induction n with
  | zero => intro x1 x2 x3 x4 q h; exact mu_noneF h
  | succ n ih => intro x1 x2 x3 x4 q h; exact t9_sort_l50_B hR N hP bk37 hbk37 _ ih x1 x2 x3 x4 q h
theorem t9_sort_l37_B (hR : Rl wM 3 RX9 cX9_sort 6 (some .int) ad J P) (N : Nat) {r : Int32} {q2 : SS} (hP : P (some (.int r)) q2) (bk37 : Int32 → Int32 → Int32 → SS → Option (Int32 × SS)) (hbk37 : ∀ (x1 : Int32) (x2 : Int32) (x3 : Int32) (q : SS), bk37 x1 x2 x3 q = some (r, q2) → J [(0, .ref (ad 0)), (1, .int x1), (2, .int x2), (3, .int x3)] [] q 37) (x1 : Int32) (x2 : Int32) (x3 : Int32) (q : SS) (h : f9_sort_l37_B N bk37 x1 x2 x3 q = some (r, q2)) : J [(0, .ref (ad 0)), (1, .int x1), (2, .int x2), (3, .int x3)] [] q 37 := by
  unfold f9_sort_l37_B at h
  refine r_iload_n hR dX9_sort_37 rfl 3 rfl ?_
  refine r_aload_n hR dX9_sort_38 rfl 0 rfl ?_
  refine g_X9_rows hR m_4_122 dX9_sort_39 ?_
  refine r_iload_n hR dX9_sort_42 rfl 1 rfl ?_
  obtain ⟨hin, h⟩ := ck_some h
  refine ld_X9_rows hR dX9_sort_43 hin ?_
  refine r_icmp_ge hR (tgt := 134) dX9_sort_44 (by decide) (fun c_44 => ?_) (fun c_44 => ?_)
  · replace h := it_t c_44 h
    refine r_iconst hR dX9_sort_134 kc_iconst_0 ?_
    refine r_istore_n hR (i := 3) (lv' := [(3, .int (0 : Int32)), (0, .ref (ad 0)), (1, .int x1), (2, .int x2)]) dX9_sort_135 rfl rfl (by decide) rfl ?_
    refine r_iconst hR dX9_sort_136 kc_iconst_0 ?_
    refine r_istore hR (i := 4) (lv' := [(4, .int (0 : Int32)), (3, .int (0 : Int32)), (0, .ref (ad 0)), (1, .int x1), (2, .int x2)]) dX9_sort_137 rfl (by decide) rfl ?_
    exact r_sub hR [2, 3, 1, 0] rfl (t9_sort_l139 hR N hP N _ _ _ _ h)
  · replace h := it_f c_44 h
    refine r_iload_n hR dX9_sort_47 rfl 3 rfl ?_
    refine r_istore hR (i := 4) (lv' := [(4, .int x3), (0, .ref (ad 0)), (1, .int x1), (2, .int x2), (3, .int x3)]) dX9_sort_48 rfl (by decide) rfl ?_
    exact r_sub hR [1, 2, 3, 4, 0] rfl (t9_sort_l50 hR N hP bk37 hbk37 N _ _ _ _ _ h)
theorem t9_sort_l37 (hR : Rl wM 3 RX9 cX9_sort 6 (some .int) ad J P) (N : Nat) {r : Int32} {q2 : SS} (hP : P (some (.int r)) q2) : ∀ (n : Nat) (x1 : Int32) (x2 : Int32) (x3 : Int32) (q : SS), f9_sort_l37 N n x1 x2 x3 q = some (r, q2) → J [(0, .ref (ad 0)), (1, .int x1), (2, .int x2), (3, .int x3)] [] q 37 := by
  intro n
  induction n with
  | zero => intro x1 x2 x3 q h; exact mu_noneF h
  | succ n ih => intro x1 x2 x3 q h; exact t9_sort_l37_B hR N hP _ ih x1 x2 x3 q h
theorem t9_sort (hR : Rl wM 3 RX9 cX9_sort 6 (some .int) ad J P) (N : Nat) {r : Int32} {q2 : SS} (hP : P (some (.int r)) q2) (x1 : Int32) (x2 : Int32) (q : SS) (h : f9_sort N x1 x2 q = some (r, q2)) : J [(0, .ref (ad 0)), (1, .int x1), (2, .int x2)] [] q 0 := by
  unfold f9_sort at h
  refine r_aload_n hR dX9_sort_0 rfl 0 rfl ?_
  refine r_iload_n hR dX9_sort_1 rfl 1 rfl ?_
  obtain ⟨r_2, hc, h⟩ := bd_some h
  refine r_callVi hR (c9_isTable hc) (cf_X9_116 (by decide)) ⟨m_5_18, ms_3_6⟩ (As := [.int x1]) (q0 := 0) (ci := 7) rfl rfl rfl rfl (rc_X9 ad _) (Nat.le_of_ble_eq_true rfl) rfl dX9_sort_2 ?_
  refine r_if_ne hR (tgt := 11) dX9_sort_5 (by decide) (fun c_5 => ?_) (fun c_5 => ?_)
  · replace h := it_f c_5 h
    refine r_iload_n hR dX9_sort_11 rfl 2 rfl ?_
    refine r_i2l hR dX9_sort_12 ?_
    refine r_lconst hR dX9_sort_13 kc_lconst_0 ?_
    refine r_ldc2 hR dX9_sort_14 m_5_55 ?_
    obtain ⟨r_17, hc, h⟩ := bd_some h
    refine r_callSi hR (c9_in hc) (cf_X9_92 (by decide)) m_5_6 (As := [.long (Int32.toInt64 x2), .long (0 : Int64), .long (7 : Int64)]) rfl rfl (Nat.le_of_ble_eq_true rfl) rfl dX9_sort_17 ?_
    refine r_if_eq hR (tgt := 32) dX9_sort_20 (by decide) (fun c_20 => ?_) (fun c_20 => ?_)
    · replace h := it_t c_20 h
      refine r_bipush hR dX9_sort_32 kc_bipush_m102 ?_
      exact r_iret hR dX9_sort_34 rfl (rt2 hP h)
    · replace h := it_f c_20 h
      refine r_aload_n hR dX9_sort_23 rfl 0 rfl ?_
      refine r_iload_n hR dX9_sort_24 rfl 1 rfl ?_
      refine r_iload_n hR dX9_sort_25 rfl 2 rfl ?_
      obtain ⟨r_26, hc, h⟩ := bd_some h
      refine r_callVi hR (c9_has hc) (cf_X9_108 (by decide)) ⟨m_5_31, ms_3_9⟩ (As := [.int x1, .int x2]) (q0 := 0) (ci := 7) rfl rfl rfl rfl (rc_X9 ad _) (Nat.le_of_ble_eq_true rfl) rfl dX9_sort_26 ?_
      refine r_if_ne hR (tgt := 35) dX9_sort_29 (by decide) (fun c_29 => ?_) (fun c_29 => ?_)
      · replace h := it_f c_29 h
        refine r_iconst hR dX9_sort_35 kc_iconst_0 ?_
        refine r_istore_n hR (i := 3) (lv' := [(3, .int (0 : Int32)), (0, .ref (ad 0)), (1, .int x1), (2, .int x2)]) dX9_sort_36 rfl rfl (by decide) rfl ?_
        exact r_sub hR [1, 2, 3, 0] rfl (t9_sort_l37 hR N hP N _ _ _ _ h)
      · replace h := it_t c_29 h
        refine r_bipush hR dX9_sort_32 kc_bipush_m102 ?_
        exact r_iret hR dX9_sort_34 rfl (rt2 hP h)
  · replace h := it_t c_5 h
    refine r_bipush hR dX9_sort_8 kc_bipush_m101 ?_
    exact r_iret hR dX9_sort_10 rfl (rt2 hP h)
theorem c9_sort (N : Nat) {x1 : Int32} {x2 : Int32} {q : SS} {r : Int32} {q2 : SS} (h : f9_sort N x1 x2 q = some (r, q2)) : Ct wM 3 yX9_sort cX9_sort 6 (some .int) (fun ad => [.ref (ad 0), .int x1, .int x2]) q (fun _ => some (.int r)) q2 :=
  ct_of (by decide) (fun _ => Nat.le_of_ble_eq_true rfl) (fun ad J hR => t9_sort hR N ⟨rfl, rfl⟩ x1 x2 q h)
theorem t9_get (hR : Rl wM 4 RX9 cX9_get 4 (some .int) ad J P) (q : SS) {r : Int32} (hP : P (some (.int r)) q) (x1 : Int32) (x2 : Int32) (x3 : Int32) (h : f9_get q x1 x2 x3 = some r) : J [(0, .ref (ad 0)), (1, .int x1), (2, .int x2), (3, .int x3)] [] q 0 := by
  unfold f9_get at h
  refine r_aload_n hR dX9_get_0 rfl 0 rfl ?_
  refine r_iload_n hR dX9_get_1 rfl 1 rfl ?_
  refine r_iload_n hR dX9_get_2 rfl 2 rfl ?_
  obtain ⟨r_3, hc, h⟩ := bd_some h
  refine r_callVi hR (c9_isRow hc) (cf_X9_138 (by decide)) ⟨m_5_49, ms_3_10⟩ (As := [.int x1, .int x2]) (q0 := 0) (ci := 7) rfl rfl rfl rfl (rc_X9 ad _) (Nat.le_of_ble_eq_true rfl) rfl dX9_get_3 ?_
  refine r_if_eq hR (tgt := 21) dX9_get_6 (by decide) (fun c_6 => ?_) (fun c_6 => ?_)
  · replace h := it_t c_6 h
    refine r_bipush hR dX9_get_21 kc_bipush_m101 ?_
    exact r_iret hR dX9_get_23 rfl (rt1 hP h)
  · replace h := it_f c_6 h
    refine r_iload_n hR dX9_get_9 rfl 3 rfl ?_
    refine r_i2l hR dX9_get_10 ?_
    refine r_lconst hR dX9_get_11 kc_lconst_0 ?_
    refine r_ldc2 hR dX9_get_12 m_5_55 ?_
    obtain ⟨r_15, hc, h⟩ := bd_some h
    refine r_callSi hR (c9_in hc) (cf_X9_92 (by decide)) m_5_6 (As := [.long (Int32.toInt64 x3), .long (0 : Int64), .long (7 : Int64)]) rfl rfl (Nat.le_of_ble_eq_true rfl) rfl dX9_get_15 ?_
    refine r_if_ne hR (tgt := 24) dX9_get_18 (by decide) (fun c_18 => ?_) (fun c_18 => ?_)
    · replace h := it_f c_18 h
      refine r_aload_n hR dX9_get_24 rfl 0 rfl ?_
      refine r_iload_n hR dX9_get_25 rfl 1 rfl ?_
      refine r_iload_n hR dX9_get_26 rfl 3 rfl ?_
      obtain ⟨r_27, hc, h⟩ := bd_some h
      refine r_callVi hR (c9_has hc) (cf_X9_108 (by decide)) ⟨m_5_31, ms_3_9⟩ (As := [.int x1, .int x3]) (q0 := 0) (ci := 7) rfl rfl rfl rfl (rc_X9 ad _) (Nat.le_of_ble_eq_true rfl) rfl dX9_get_27 ?_
      refine r_if_eq hR (tgt := 52) dX9_get_30 (by decide) (fun c_30 => ?_) (fun c_30 => ?_)
      · replace h := it_t c_30 h
        refine r_iconst hR dX9_get_52 kc_iconst_m1 ?_
        exact r_iret hR dX9_get_53 rfl (rt1 hP h)
      · replace h := it_f c_30 h
        refine r_aload_n hR dX9_get_33 rfl 0 rfl ?_
        refine g_X9_numbers hR m_4_123 dX9_get_34 ?_
        refine r_bipush hR dX9_get_37 kc_bipush_64 ?_
        refine r_iload_n hR dX9_get_39 rfl 1 rfl ?_
        refine r_imul hR dX9_get_40 ?_
        refine r_bipush hR dX9_get_41 kc_bipush_8 ?_
        refine r_iload_n hR dX9_get_43 rfl 2 rfl ?_
        refine r_imul hR dX9_get_44 ?_
        refine r_iadd hR dX9_get_45 ?_
        refine r_iload_n hR dX9_get_46 rfl 3 rfl ?_
        refine r_iadd hR dX9_get_47 ?_
        obtain ⟨hin, h⟩ := ck_some h
        refine ld_X9_numbers hR dX9_get_48 hin ?_
        refine r_goto hR (tgt := 53) dX9_get_49 (by decide) ?_
        exact r_iret hR dX9_get_53 rfl (rt1 hP h)
    · replace h := it_t c_18 h
      refine r_bipush hR dX9_get_21 kc_bipush_m101 ?_
      exact r_iret hR dX9_get_23 rfl (rt1 hP h)
theorem c9_get {x1 : Int32} {x2 : Int32} {x3 : Int32} {q : SS} {r : Int32} (h : f9_get q x1 x2 x3 = some r) : Ct wM 4 yX9_get cX9_get 4 (some .int) (fun ad => [.ref (ad 0), .int x1, .int x2, .int x3]) q (fun _ => some (.int r)) q :=
  ct_of (by decide) (fun _ => Nat.le_of_ble_eq_true rfl) (fun ad J hR => t9_get hR q ⟨rfl, rfl⟩ x1 x2 x3 h)
theorem t9_sortedBy_b78 (hR : Rl wM 2 RX9 cX9_sortedBy 5 (some .int) ad J P) (N : Nat) (q : SS) {r : Int32} (hP : P (some (.int r)) q) (bk2 : Int32 → Int32 → Option Int32) (hbk2 : ∀ (x1 : Int32) (x2 : Int32), bk2 x1 x2 = some r → J [(0, .ref (ad 0)), (1, .int x1), (2, .int x2)] [] q 2) (bk18 : Int32 → Int32 → Int32 → Int32 → Option Int32) (hbk18 : ∀ (x1 : Int32) (x2 : Int32) (x3 : Int32) (x4 : Int32), bk18 x1 x2 x3 x4 = some r → J [(0, .ref (ad 0)), (1, .int x1), (2, .int x2), (3, .int x3), (4, .int x4)] [] q 18) (x1 : Int32) (x2 : Int32) (x4 : Int32) (s0 : Int32) (h : f9_sortedBy_b78 N q bk2 bk18 x1 x2 x4 s0 = some r) : J [(0, .ref (ad 0)), (1, .int x1), (2, .int x2), (4, .int x4)] [.int s0] q 78 := by
  unfold f9_sortedBy_b78 at h
  refine r_istore_n hR (i := 3) (lv' := [(3, .int s0), (0, .ref (ad 0)), (1, .int x1), (2, .int x2), (4, .int x4)]) dX9_sortedBy_78 rfl rfl (by decide) rfl ?_
  obtain ⟨x4_79, hx, h⟩ := bn_some h
  refine r_iinc hR (i := 4) (lv' := [(4, .int x4_79), (3, .int s0), (0, .ref (ad 0)), (1, .int x1), (2, .int x2)]) dX9_sortedBy_79 4 rfl (inc_ok hx kc_iconst_1) (by decide) rfl ?_
  refine r_goto hR (tgt := 18) dX9_sortedBy_82 (by decide) ?_
  exact r_sub hR [2, 3, 4, 1, 0] rfl (hbk18 _ _ _ _ h)
theorem t9_sortedBy_b77 (hR : Rl wM 2 RX9 cX9_sortedBy 5 (some .int) ad J P) (N : Nat) (q : SS) {r : Int32} (hP : P (some (.int r)) q) (bk2 : Int32 → Int32 → Option Int32) (hbk2 : ∀ (x1 : Int32) (x2 : Int32), bk2 x1 x2 = some r → J [(0, .ref (ad 0)), (1, .int x1), (2, .int x2)] [] q 2) (bk18 : Int32 → Int32 → Int32 → Int32 → Option Int32) (hbk18 : ∀ (x1 : Int32) (x2 : Int32) (x3 : Int32) (x4 : Int32), bk18 x1 x2 x3 x4 = some r → J [(0, .ref (ad 0)), (1, .int x1), (2, .int x2), (3, .int x3), (4, .int x4)] [] q 18) (x1 : Int32) (x2 : Int32) (x4 : Int32) (h : f9_sortedBy_b77 N q bk2 bk18 x1 x2 x4 = some r) : J [(0, .ref (ad 0)), (1, .int x1), (2, .int x2), (4, .int x4)] [] q 77 := by
  unfold f9_sortedBy_b77 at h
  refine r_iconst hR dX9_sortedBy_77 kc_iconst_0 ?_
  exact r_sub hR [0, 1, 2, 3] rfl (t9_sortedBy_b78 hR N q hP bk2 hbk2 bk18 hbk18 _ _ _ _ h)
theorem t9_sortedBy_l18_B (hR : Rl wM 2 RX9 cX9_sortedBy 5 (some .int) ad J P) (N : Nat) (q : SS) {r : Int32} (hP : P (some (.int r)) q) (bk2 : Int32 → Int32 → Option Int32) (hbk2 : ∀ (x1 : Int32) (x2 : Int32), bk2 x1 x2 = some r → J [(0, .ref (ad 0)), (1, .int x1), (2, .int x2)] [] q 2) (bk18 : Int32 → Int32 → Int32 → Int32 → Option Int32) (hbk18 : ∀ (x1 : Int32) (x2 : Int32) (x3 : Int32) (x4 : Int32), bk18 x1 x2 x3 x4 = some r → J [(0, .ref (ad 0)), (1, .int x1), (2, .int x2), (3, .int x3), (4, .int x4)] [] q 18) (x1 : Int32) (x2 : Int32) (x3 : Int32) (x4 : Int32) (h : f9_sortedBy_l18_B N q bk2 bk18 x1 x2 x3 x4 = some r) : J [(0, .ref (ad 0)), (1, .int x1), (2, .int x2), (3, .int x3), (4, .int x4)] [] q 18 := by
  unfold f9_sortedBy_l18_B at h
  refine r_iload hR dX9_sortedBy_18 4 rfl ?_
  refine r_aload_n hR dX9_sortedBy_20 rfl 0 rfl ?_
  refine g_X9_rows hR m_4_122 dX9_sortedBy_21 ?_
  refine r_iload_n hR dX9_sortedBy_24 rfl 1 rfl ?_
  obtain ⟨hin, h⟩ := ck_some h
  refine ld_X9_rows hR dX9_sortedBy_25 hin ?_
  refine r_icmp_ge hR (tgt := 85) dX9_sortedBy_26 (by decide) (fun c_26 => ?_) (fun c_26 => ?_)
  · replace h := it_t c_26 h
    refine r_iload_n hR dX9_sortedBy_85 rfl 3 rfl ?_
    refine r_if_eq hR (tgt := 91) dX9_sortedBy_86 (by decide) (fun c_86 => ?_) (fun c_86 => ?_)
    · replace h := it_t c_86 h
      obtain ⟨x2_91, hx, h⟩ := bn_some h
      refine r_iinc hR (i := 2) (lv' := [(2, .int x2_91), (0, .ref (ad 0)), (1, .int x1), (3, .int x3), (4, .int x4)]) dX9_sortedBy_91 2 rfl (inc_ok hx kc_iconst_1) (by decide) rfl ?_
      refine r_goto hR (tgt := 2) dX9_sortedBy_94 (by decide) ?_
      exact r_sub hR [1, 2, 0] rfl (hbk2 _ _ h)
    · replace h := it_f c_86 h
      refine r_iload_n hR dX9_sortedBy_89 rfl 2 rfl ?_
      exact r_iret hR dX9_sortedBy_90 rfl (rt1 hP h)
  · replace h := it_f c_26 h
    refine r_iload_n hR dX9_sortedBy_29 rfl 3 rfl ?_
    refine r_if_eq hR (tgt := 77) dX9_sortedBy_30 (by decide) (fun c_30 => ?_) (fun c_30 => ?_)
    · replace h := it_t c_30 h
      exact r_sub hR [0, 1, 2, 4] rfl (t9_sortedBy_b77 hR N q hP bk2 hbk2 bk18 hbk18 _ _ _ h)
    · replace h := it_f c_30 h
      refine r_aload_n hR dX9_sortedBy_33 rfl 0 rfl ?_
      refine g_X9_numbers hR m_4_123 dX9_sortedBy_34 ?_
      refine r_bipush hR dX9_sortedBy_37 kc_bipush_64 ?_
      refine r_iload_n hR dX9_sortedBy_39 rfl 1 rfl ?_
      refine r_imul hR dX9_sortedBy_40 ?_
      refine r_bipush hR dX9_sortedBy_41 kc_bipush_8 ?_
      refine r_iload hR dX9_sortedBy_43 4 rfl ?_
      refine r_imul hR dX9_sortedBy_45 ?_
      refine r_iadd hR dX9_sortedBy_46 ?_
      refine r_iload_n hR dX9_sortedBy_47 rfl 2 rfl ?_
      refine r_iadd hR dX9_sortedBy_48 ?_
      obtain ⟨hin, h⟩ := ck_some h
      refine ld_X9_numbers hR dX9_sortedBy_49 hin ?_
      refine r_aload_n hR dX9_sortedBy_50 rfl 0 rfl ?_
      refine g_X9_numbers hR m_4_123 dX9_sortedBy_51 ?_
      refine r_bipush hR dX9_sortedBy_54 kc_bipush_64 ?_
      refine r_iload_n hR dX9_sortedBy_56 rfl 1 rfl ?_
      refine r_imul hR dX9_sortedBy_57 ?_
      refine r_bipush hR dX9_sortedBy_58 kc_bipush_8 ?_
      refine r_iload hR dX9_sortedBy_60 4 rfl ?_
      refine r_imul hR dX9_sortedBy_62 ?_
      refine r_iadd hR dX9_sortedBy_63 ?_
      refine r_bipush hR dX9_sortedBy_64 kc_bipush_8 ?_
      refine r_isub hR dX9_sortedBy_66 ?_
      refine r_iload_n hR dX9_sortedBy_67 rfl 2 rfl ?_
      refine r_iadd hR dX9_sortedBy_68 ?_
      obtain ⟨hin, h⟩ := ck_some h
      refine ld_X9_numbers hR dX9_sortedBy_69 hin ?_
      refine r_icmp_lt hR (tgt := 77) dX9_sortedBy_70 (by decide) (fun c_70 => ?_) (fun c_70 => ?_)
      · replace h := it_t c_70 h
        exact r_sub hR [0, 1, 2, 4] rfl (t9_sortedBy_b77 hR N q hP bk2 hbk2 bk18 hbk18 _ _ _ h)
      · replace h := it_f c_70 h
        refine r_iconst hR dX9_sortedBy_73 kc_iconst_1 ?_
        refine r_goto hR (tgt := 78) dX9_sortedBy_74 (by decide) ?_
        exact r_sub hR [0, 1, 2, 4] rfl (t9_sortedBy_b78 hR N q hP bk2 hbk2 bk18 hbk18 _ _ _ _ h)
theorem t9_sortedBy_l18 (hR : Rl wM 2 RX9 cX9_sortedBy 5 (some .int) ad J P) (N : Nat) (q : SS) {r : Int32} (hP : P (some (.int r)) q) (bk2 : Int32 → Int32 → Option Int32) (hbk2 : ∀ (x1 : Int32) (x2 : Int32), bk2 x1 x2 = some r → J [(0, .ref (ad 0)), (1, .int x1), (2, .int x2)] [] q 2) : ∀ (n : Nat) (x1 : Int32) (x2 : Int32) (x3 : Int32) (x4 : Int32), f9_sortedBy_l18 N q bk2 n x1 x2 x3 x4 = some r → J [(0, .ref (ad 0)), (1, .int x1), (2, .int x2), (3, .int x3), (4, .int x4)] [] q 18 := by
  intro n
  induction n with
  | zero => intro x1 x2 x3 x4 h; exact mu_noneF h
  | succ n ih => intro x1 x2 x3 x4 h; exact t9_sortedBy_l18_B hR N q hP bk2 hbk2 _ ih x1 x2 x3 x4 h
theorem t9_sortedBy_l2_B (hR : Rl wM 2 RX9 cX9_sortedBy 5 (some .int) ad J P) (N : Nat) (q : SS) {r : Int32} (hP : P (some (.int r)) q) (bk2 : Int32 → Int32 → Option Int32) (hbk2 : ∀ (x1 : Int32) (x2 : Int32), bk2 x1 x2 = some r → J [(0, .ref (ad 0)), (1, .int x1), (2, .int x2)] [] q 2) (x1 : Int32) (x2 : Int32) (h : f9_sortedBy_l2_B N q bk2 x1 x2 = some r) : J [(0, .ref (ad 0)), (1, .int x1), (2, .int x2)] [] q 2 := by
  unfold f9_sortedBy_l2_B at h
  refine r_iload_n hR dX9_sortedBy_2 rfl 2 rfl ?_
  refine r_bipush hR dX9_sortedBy_3 kc_bipush_8 ?_
  refine r_icmp_ge hR (tgt := 97) dX9_sortedBy_5 (by decide) (fun c_5 => ?_) (fun c_5 => ?_)
  · replace h := it_t c_5 h
    refine r_iconst hR dX9_sortedBy_97 kc_iconst_m1 ?_
    exact r_iret hR dX9_sortedBy_98 rfl (rt1 hP h)
  · replace h := it_f c_5 h
    refine r_aload_n hR dX9_sortedBy_8 rfl 0 rfl ?_
    refine r_iload_n hR dX9_sortedBy_9 rfl 1 rfl ?_
    refine r_iload_n hR dX9_sortedBy_10 rfl 2 rfl ?_
    obtain ⟨r_11, hc, h⟩ := bd_some h
    refine r_callVi hR (c9_has hc) (cf_X9_108 (by decide)) ⟨m_5_31, ms_3_9⟩ (As := [.int x1, .int x2]) (q0 := 0) (ci := 7) rfl rfl rfl rfl (rc_X9 ad _) (Nat.le_of_ble_eq_true rfl) rfl dX9_sortedBy_11 ?_
    refine r_istore_n hR (i := 3) (lv' := [(3, .int r_11), (0, .ref (ad 0)), (1, .int x1), (2, .int x2)]) dX9_sortedBy_14 rfl rfl (by decide) rfl ?_
    refine r_iconst hR dX9_sortedBy_15 kc_iconst_1 ?_
    refine r_istore hR (i := 4) (lv' := [(4, .int (1 : Int32)), (3, .int r_11), (0, .ref (ad 0)), (1, .int x1), (2, .int x2)]) dX9_sortedBy_16 rfl (by decide) rfl ?_
    exact r_sub hR [2, 3, 4, 1, 0] rfl (t9_sortedBy_l18 hR N q hP bk2 hbk2 N _ _ _ _ h)
theorem t9_sortedBy_l2 (hR : Rl wM 2 RX9 cX9_sortedBy 5 (some .int) ad J P) (N : Nat) (q : SS) {r : Int32} (hP : P (some (.int r)) q) : ∀ (n : Nat) (x1 : Int32) (x2 : Int32), f9_sortedBy_l2 N q n x1 x2 = some r → J [(0, .ref (ad 0)), (1, .int x1), (2, .int x2)] [] q 2 := by
  intro n
  induction n with
  | zero => intro x1 x2 h; exact mu_noneF h
  | succ n ih => intro x1 x2 h; exact t9_sortedBy_l2_B hR N q hP _ ih x1 x2 h
theorem t9_sortedBy (hR : Rl wM 2 RX9 cX9_sortedBy 5 (some .int) ad J P) (N : Nat) (q : SS) {r : Int32} (hP : P (some (.int r)) q) (x1 : Int32) (h : f9_sortedBy N q x1 = some r) : J [(0, .ref (ad 0)), (1, .int x1)] [] q 0 := by
  unfold f9_sortedBy at h
  refine r_iconst hR dX9_sortedBy_0 kc_iconst_0 ?_
  refine r_istore_n hR (i := 2) (lv' := [(2, .int (0 : Int32)), (0, .ref (ad 0)), (1, .int x1)]) dX9_sortedBy_1 rfl rfl (by decide) rfl ?_
  exact r_sub hR [1, 2, 0] rfl (t9_sortedBy_l2 hR N q hP N _ _ h)
theorem c9_sortedBy (N : Nat) {x1 : Int32} {q : SS} {r : Int32} (h : f9_sortedBy N q x1 = some r) : Ct wM 2 yX9_sortedBy cX9_sortedBy 5 (some .int) (fun ad => [.ref (ad 0), .int x1]) q (fun _ => some (.int r)) q :=
  ct_of (by decide) (fun _ => Nat.le_of_ble_eq_true rfl) (fun ad J hR => t9_sortedBy hR N q ⟨rfl, rfl⟩ x1 h)
theorem t9_aboutOf (hR : Rl wM 3 RX9 cX9_aboutOf 3 (some .int) ad J P) (N : Nat) (q : SS) {r : Int32} (hP : P (some (.int r)) q) (x1 : Int32) (x2 : Int32) (h : f9_aboutOf N q x1 x2 = some r) : J [(0, .ref (ad 0)), (1, .int x1), (2, .int x2)] [] q 0 := by
  unfold f9_aboutOf at h
  refine r_iload_n hR dX9_aboutOf_0 rfl 2 rfl ?_
  by_cases c_1_0 : x2 = (0 : Int32)
  · replace h := it_t c_1_0 h
    refine r_tableIn hR (off := 35) (tgt := 36) dX9_aboutOf_1 (by rw [c_1_0]; decide) (by rw [c_1_0]; decide) (by rw [c_1_0]; decide) (by decide) ?_
    refine r_aload_n hR dX9_aboutOf_36 rfl 0 rfl ?_
    refine g_X9_lettersOf hR m_4_120 dX9_aboutOf_37 ?_
    refine r_iload_n hR dX9_aboutOf_40 rfl 1 rfl ?_
    obtain ⟨hin, h⟩ := ck_some h
    refine ld_X9_lettersOf hR dX9_aboutOf_41 hin ?_
    exact r_iret hR dX9_aboutOf_42 rfl (rt1 hP h)
  · replace h := it_f c_1_0 h
    by_cases c_1_1 : x2 = (1 : Int32)
    · replace h := it_t c_1_1 h
      refine r_tableIn hR (off := 42) (tgt := 43) dX9_aboutOf_1 (by rw [c_1_1]; decide) (by rw [c_1_1]; decide) (by rw [c_1_1]; decide) (by decide) ?_
      refine r_aload_n hR dX9_aboutOf_43 rfl 0 rfl ?_
      refine g_X9_pers hR m_4_121 dX9_aboutOf_44 ?_
      refine r_iload_n hR dX9_aboutOf_47 rfl 1 rfl ?_
      obtain ⟨hin, h⟩ := ck_some h
      refine ld_X9_pers hR dX9_aboutOf_48 hin ?_
      exact r_iret hR dX9_aboutOf_49 rfl (rt1 hP h)
    · replace h := it_f c_1_1 h
      by_cases c_1_2 : x2 = (2 : Int32)
      · replace h := it_t c_1_2 h
        refine r_tableIn hR (off := 49) (tgt := 50) dX9_aboutOf_1 (by rw [c_1_2]; decide) (by rw [c_1_2]; decide) (by rw [c_1_2]; decide) (by decide) ?_
        refine r_aload_n hR dX9_aboutOf_50 rfl 0 rfl ?_
        refine g_X9_rows hR m_4_122 dX9_aboutOf_51 ?_
        refine r_iload_n hR dX9_aboutOf_54 rfl 1 rfl ?_
        obtain ⟨hin, h⟩ := ck_some h
        refine ld_X9_rows hR dX9_aboutOf_55 hin ?_
        exact r_iret hR dX9_aboutOf_56 rfl (rt1 hP h)
      · replace h := it_f c_1_2 h
        by_cases c_1_3 : x2 = (3 : Int32)
        · replace h := it_t c_1_3 h
          refine r_tableIn hR (off := 56) (tgt := 57) dX9_aboutOf_1 (by rw [c_1_3]; decide) (by rw [c_1_3]; decide) (by rw [c_1_3]; decide) (by decide) ?_
          refine r_aload_n hR dX9_aboutOf_57 rfl 0 rfl ?_
          refine g_X9_rows hR m_4_122 dX9_aboutOf_58 ?_
          refine r_iload_n hR dX9_aboutOf_61 rfl 1 rfl ?_
          obtain ⟨hin, h⟩ := ck_some h
          refine ld_X9_rows hR dX9_aboutOf_62 hin ?_
          refine r_aload_n hR dX9_aboutOf_63 rfl 0 rfl ?_
          refine g_X9_pers hR m_4_121 dX9_aboutOf_64 ?_
          refine r_iload_n hR dX9_aboutOf_67 rfl 1 rfl ?_
          obtain ⟨hin, h⟩ := ck_some h
          refine ld_X9_pers hR dX9_aboutOf_68 hin ?_
          obtain ⟨r_69, hc, h⟩ := bd_some h
          refine r_callSi hR (c9_up hc) (cf_X9_143 (by decide)) m_5_69 (As := [.int (ar q 3 (ix x1)), .int (ar q 2 (ix x1))]) rfl rfl (Nat.le_of_ble_eq_true rfl) rfl dX9_aboutOf_69 ?_
          exact r_iret hR dX9_aboutOf_72 rfl (rt1 hP h)
        · replace h := it_f c_1_3 h
          by_cases c_1_4 : x2 = (4 : Int32)
          · replace h := it_t c_1_4 h
            refine r_tableIn hR (off := 72) (tgt := 73) dX9_aboutOf_1 (by rw [c_1_4]; decide) (by rw [c_1_4]; decide) (by rw [c_1_4]; decide) (by decide) ?_
            refine r_aload_n hR dX9_aboutOf_73 rfl 0 rfl ?_
            refine r_iload_n hR dX9_aboutOf_74 rfl 1 rfl ?_
            obtain ⟨r_75, hc, h⟩ := bd_some h
            refine r_callVi hR (c9_sortedBy N hc) (cf_X9_146 (by decide)) ⟨m_5_73, ms_3_12⟩ (As := [.int x1]) (q0 := 0) (ci := 7) rfl rfl rfl rfl (rc_X9 ad _) (Nat.le_of_ble_eq_true rfl) rfl dX9_aboutOf_75 ?_
            exact r_iret hR dX9_aboutOf_78 rfl (rt1 hP h)
          · replace h := it_f c_1_4 h
            have n_0 : ¬ (x2).toInt = 0 := lv_neT c_1_0 (by decide)
            have n_1 : ¬ (x2).toInt = 1 := lv_neT c_1_1 (by decide)
            have n_2 : ¬ (x2).toInt = 2 := lv_neT c_1_2 (by decide)
            have n_3 : ¬ (x2).toInt = 3 := lv_neT c_1_3 (by decide)
            have n_4 : ¬ (x2).toInt = 4 := lv_neT c_1_4 (by decide)
            refine r_tableOut hR (tgt := 79) dX9_aboutOf_1 (by omega) (by decide) ?_
            refine r_bipush hR dX9_aboutOf_79 kc_bipush_m102 ?_
            exact r_iret hR dX9_aboutOf_81 rfl (rt1 hP h)
theorem c9_aboutOf (N : Nat) {x1 : Int32} {x2 : Int32} {q : SS} {r : Int32} (h : f9_aboutOf N q x1 x2 = some r) : Ct wM 3 yX9_aboutOf cX9_aboutOf 3 (some .int) (fun ad => [.ref (ad 0), .int x1, .int x2]) q (fun _ => some (.int r)) q :=
  ct_of (by decide) (fun _ => Nat.le_of_ble_eq_true rfl) (fun ad J hR => t9_aboutOf hR N q ⟨rfl, rfl⟩ x1 x2 h)
theorem t9_about (hR : Rl wM 4 RX9 cX9_about 3 (some .int) ad J P) (N : Nat) (q : SS) {r : Int32} (hP : P (some (.int r)) q) (x1 : Int32) (x2 : Int32) (h : f9_about N q x1 x2 = some r) : J [(0, .ref (ad 0)), (1, .int x1), (2, .int x2)] [] q 0 := by
  unfold f9_about at h
  refine r_aload_n hR dX9_about_0 rfl 0 rfl ?_
  refine r_iload_n hR dX9_about_1 rfl 1 rfl ?_
  obtain ⟨r_2, hc, h⟩ := bd_some h
  refine r_callVi hR (c9_isTable hc) (cf_X9_116 (by decide)) ⟨m_5_18, ms_3_6⟩ (As := [.int x1]) (q0 := 0) (ci := 7) rfl rfl rfl rfl (rc_X9 ad _) (Nat.le_of_ble_eq_true rfl) rfl dX9_about_2 ?_
  refine r_if_eq hR (tgt := 17) dX9_about_5 (by decide) (fun c_5 => ?_) (fun c_5 => ?_)
  · replace h := it_t c_5 h
    refine r_bipush hR dX9_about_17 kc_bipush_m101 ?_
    exact r_iret hR dX9_about_19 rfl (rt1 hP h)
  · replace h := it_f c_5 h
    refine r_aload_n hR dX9_about_8 rfl 0 rfl ?_
    refine r_iload_n hR dX9_about_9 rfl 1 rfl ?_
    refine r_iload_n hR dX9_about_10 rfl 2 rfl ?_
    obtain ⟨r_11, hc, h⟩ := bd_some h
    refine r_callVi hR (c9_aboutOf N hc) (cf_X9_149 (by decide)) ⟨m_5_66, ms_3_11⟩ (As := [.int x1, .int x2]) (q0 := 0) (ci := 7) rfl rfl rfl rfl (rc_X9 ad _) (Nat.le_of_ble_eq_true rfl) rfl dX9_about_11 ?_
    refine r_goto hR (tgt := 19) dX9_about_14 (by decide) ?_
    exact r_iret hR dX9_about_19 rfl (rt1 hP h)
theorem c9_about (N : Nat) {x1 : Int32} {x2 : Int32} {q : SS} {r : Int32} (h : f9_about N q x1 x2 = some r) : Ct wM 4 yX9_about cX9_about 3 (some .int) (fun ad => [.ref (ad 0), .int x1, .int x2]) q (fun _ => some (.int r)) q :=
  ct_of (by decide) (fun _ => Nat.le_of_ble_eq_true rfl) (fun ad J hR => t9_about hR N q ⟨rfl, rfl⟩ x1 x2 h)
theorem t9_unlikeOf_b95 (hR : Rl wM 1 RX9 cX9_unlikeOf 7 (some .int) ad J P) (N : Nat) (q : SS) {r : Int32} (hP : P (some (.int r)) q) (bk5 : Int32 → Int32 → Int32 → Int32 → Option Int32) (hbk5 : ∀ (x1 : Int32) (x2 : Int32) (x3 : Int32) (x4 : Int32), bk5 x1 x2 x3 x4 = some r → J [(0, .ref (ad 0)), (1, .int x1), (2, .int x2), (3, .int x3), (4, .int x4)] [] q 5) (x1 : Int32) (x2 : Int32) (x4 : Int32) (s0 : Int32) (s1 : Int32) (h : f9_unlikeOf_b95 N q bk5 x1 x2 x4 s0 s1 = some r) : J [(0, .ref (ad 0)), (1, .int x1), (2, .int x2), (4, .int x4)] [.int s0, .int s1] q 95 := by
  unfold f9_unlikeOf_b95 at h
  refine r_iadd hR dX9_unlikeOf_95 ?_
  obtain ⟨x3_96, hx, h⟩ := bn_some h
  refine r_istore_n hR (i := 3) (lv' := [(3, .int x3_96), (0, .ref (ad 0)), (1, .int x1), (2, .int x2), (4, .int x4)]) dX9_unlikeOf_96 hx rfl (by decide) rfl ?_
  obtain ⟨x4_97, hx, h⟩ := bn_some h
  refine r_iinc hR (i := 4) (lv' := [(4, .int x4_97), (3, .int x3_96), (0, .ref (ad 0)), (1, .int x1), (2, .int x2)]) dX9_unlikeOf_97 4 rfl (inc_ok hx kc_iconst_1) (by decide) rfl ?_
  refine r_goto hR (tgt := 5) dX9_unlikeOf_100 (by decide) ?_
  exact r_sub hR [2, 3, 4, 1, 0] rfl (hbk5 _ _ _ _ h)
theorem t9_unlikeOf_b76 (hR : Rl wM 1 RX9 cX9_unlikeOf 7 (some .int) ad J P) (N : Nat) (q : SS) {r : Int32} (hP : P (some (.int r)) q) (bk5 : Int32 → Int32 → Int32 → Int32 → Option Int32) (hbk5 : ∀ (x1 : Int32) (x2 : Int32) (x3 : Int32) (x4 : Int32), bk5 x1 x2 x3 x4 = some r → J [(0, .ref (ad 0)), (1, .int x1), (2, .int x2), (3, .int x3), (4, .int x4)] [] q 5) (bk22 : Int32 → Int32 → Int32 → Int32 → Int32 → Int32 → Option Int32) (hbk22 : ∀ (x1 : Int32) (x2 : Int32) (x3 : Int32) (x4 : Int32) (x5 : Int32) (x6 : Int32), bk22 x1 x2 x3 x4 x5 x6 = some r → J [(0, .ref (ad 0)), (1, .int x1), (2, .int x2), (3, .int x3), (4, .int x4), (5, .int x5), (6, .int x6)] [] q 22) (x1 : Int32) (x2 : Int32) (x3 : Int32) (x4 : Int32) (x6 : Int32) (s0 : Int32) (h : f9_unlikeOf_b76 N q bk5 bk22 x1 x2 x3 x4 x6 s0 = some r) : J [(0, .ref (ad 0)), (1, .int x1), (2, .int x2), (3, .int x3), (4, .int x4), (6, .int x6)] [.int s0] q 76 := by
  unfold f9_unlikeOf_b76 at h
  refine r_istore hR (i := 5) (lv' := [(5, .int s0), (0, .ref (ad 0)), (1, .int x1), (2, .int x2), (3, .int x3), (4, .int x4), (6, .int x6)]) dX9_unlikeOf_76 rfl (by decide) rfl ?_
  obtain ⟨x6_78, hx, h⟩ := bn_some h
  refine r_iinc hR (i := 6) (lv' := [(6, .int x6_78), (5, .int s0), (0, .ref (ad 0)), (1, .int x1), (2, .int x2), (3, .int x3), (4, .int x4)]) dX9_unlikeOf_78 6 rfl (inc_ok hx kc_iconst_1) (by decide) rfl ?_
  refine r_goto hR (tgt := 22) dX9_unlikeOf_81 (by decide) ?_
  exact r_sub hR [2, 3, 4, 5, 6, 1, 0] rfl (hbk22 _ _ _ _ _ _ h)
theorem t9_unlikeOf_b75 (hR : Rl wM 1 RX9 cX9_unlikeOf 7 (some .int) ad J P) (N : Nat) (q : SS) {r : Int32} (hP : P (some (.int r)) q) (bk5 : Int32 → Int32 → Int32 → Int32 → Option Int32) (hbk5 : ∀ (x1 : Int32) (x2 : Int32) (x3 : Int32) (x4 : Int32), bk5 x1 x2 x3 x4 = some r → J [(0, .ref (ad 0)), (1, .int x1), (2, .int x2), (3, .int x3), (4, .int x4)] [] q 5) (bk22 : Int32 → Int32 → Int32 → Int32 → Int32 → Int32 → Option Int32) (hbk22 : ∀ (x1 : Int32) (x2 : Int32) (x3 : Int32) (x4 : Int32) (x5 : Int32) (x6 : Int32), bk22 x1 x2 x3 x4 x5 x6 = some r → J [(0, .ref (ad 0)), (1, .int x1), (2, .int x2), (3, .int x3), (4, .int x4), (5, .int x5), (6, .int x6)] [] q 22) (x1 : Int32) (x2 : Int32) (x3 : Int32) (x4 : Int32) (x6 : Int32) (h : f9_unlikeOf_b75 N q bk5 bk22 x1 x2 x3 x4 x6 = some r) : J [(0, .ref (ad 0)), (1, .int x1), (2, .int x2), (3, .int x3), (4, .int x4), (6, .int x6)] [] q 75 := by
  unfold f9_unlikeOf_b75 at h
  refine r_iconst hR dX9_unlikeOf_75 kc_iconst_0 ?_
  exact r_sub hR [0, 1, 2, 3, 4, 5] rfl (t9_unlikeOf_b76 hR N q hP bk5 hbk5 bk22 hbk22 _ _ _ _ _ _ h)
theorem t9_unlikeOf_l22_B (hR : Rl wM 1 RX9 cX9_unlikeOf 7 (some .int) ad J P) (N : Nat) (q : SS) {r : Int32} (hP : P (some (.int r)) q) (bk5 : Int32 → Int32 → Int32 → Int32 → Option Int32) (hbk5 : ∀ (x1 : Int32) (x2 : Int32) (x3 : Int32) (x4 : Int32), bk5 x1 x2 x3 x4 = some r → J [(0, .ref (ad 0)), (1, .int x1), (2, .int x2), (3, .int x3), (4, .int x4)] [] q 5) (bk22 : Int32 → Int32 → Int32 → Int32 → Int32 → Int32 → Option Int32) (hbk22 : ∀ (x1 : Int32) (x2 : Int32) (x3 : Int32) (x4 : Int32) (x5 : Int32) (x6 : Int32), bk22 x1 x2 x3 x4 x5 x6 = some r → J [(0, .ref (ad 0)), (1, .int x1), (2, .int x2), (3, .int x3), (4, .int x4), (5, .int x5), (6, .int x6)] [] q 22) (x1 : Int32) (x2 : Int32) (x3 : Int32) (x4 : Int32) (x5 : Int32) (x6 : Int32) (h : f9_unlikeOf_l22_B N q bk5 bk22 x1 x2 x3 x4 x5 x6 = some r) : J [(0, .ref (ad 0)), (1, .int x1), (2, .int x2), (3, .int x3), (4, .int x4), (5, .int x5), (6, .int x6)] [] q 22 := by
  unfold f9_unlikeOf_l22_B at h
  refine r_iload hR dX9_unlikeOf_22 6 rfl ?_
  refine r_iload hR dX9_unlikeOf_24 4 rfl ?_
  refine r_icmp_ge hR (tgt := 84) dX9_unlikeOf_26 (by decide) (fun c_26 => ?_) (fun c_26 => ?_)
  · replace h := it_t c_26 h
    refine r_iload_n hR dX9_unlikeOf_84 rfl 3 rfl ?_
    refine r_iload hR dX9_unlikeOf_85 5 rfl ?_
    refine r_if_eq hR (tgt := 94) dX9_unlikeOf_87 (by decide) (fun c_87 => ?_) (fun c_87 => ?_)
    · replace h := it_t c_87 h
      refine r_iconst hR dX9_unlikeOf_94 kc_iconst_0 ?_
      exact r_sub hR [0, 1, 2, 4] rfl (t9_unlikeOf_b95 hR N q hP bk5 hbk5 _ _ _ _ _ h)
    · replace h := it_f c_87 h
      refine r_iconst hR dX9_unlikeOf_90 kc_iconst_1 ?_
      refine r_goto hR (tgt := 95) dX9_unlikeOf_91 (by decide) ?_
      exact r_sub hR [0, 1, 2, 4] rfl (t9_unlikeOf_b95 hR N q hP bk5 hbk5 _ _ _ _ _ h)
  · replace h := it_f c_26 h
    refine r_iload hR dX9_unlikeOf_29 5 rfl ?_
    refine r_if_eq hR (tgt := 75) dX9_unlikeOf_31 (by decide) (fun c_31 => ?_) (fun c_31 => ?_)
    · replace h := it_t c_31 h
      exact r_sub hR [0, 1, 2, 3, 4, 6] rfl (t9_unlikeOf_b75 hR N q hP bk5 hbk5 bk22 hbk22 _ _ _ _ _ h)
    · replace h := it_f c_31 h
      refine r_aload_n hR dX9_unlikeOf_34 rfl 0 rfl ?_
      refine g_X9_numbers hR m_4_123 dX9_unlikeOf_35 ?_
      refine r_bipush hR dX9_unlikeOf_38 kc_bipush_64 ?_
      refine r_iload_n hR dX9_unlikeOf_40 rfl 1 rfl ?_
      refine r_imul hR dX9_unlikeOf_41 ?_
      refine r_bipush hR dX9_unlikeOf_42 kc_bipush_8 ?_
      refine r_iload hR dX9_unlikeOf_44 6 rfl ?_
      refine r_imul hR dX9_unlikeOf_46 ?_
      refine r_iadd hR dX9_unlikeOf_47 ?_
      refine r_iload_n hR dX9_unlikeOf_48 rfl 2 rfl ?_
      refine r_iadd hR dX9_unlikeOf_49 ?_
      obtain ⟨hin, h⟩ := ck_some h
      refine ld_X9_numbers hR dX9_unlikeOf_50 hin ?_
      refine r_aload_n hR dX9_unlikeOf_51 rfl 0 rfl ?_
      refine g_X9_numbers hR m_4_123 dX9_unlikeOf_52 ?_
      refine r_bipush hR dX9_unlikeOf_55 kc_bipush_64 ?_
      refine r_iload_n hR dX9_unlikeOf_57 rfl 1 rfl ?_
      refine r_imul hR dX9_unlikeOf_58 ?_
      refine r_bipush hR dX9_unlikeOf_59 kc_bipush_8 ?_
      refine r_iload hR dX9_unlikeOf_61 4 rfl ?_
      refine r_imul hR dX9_unlikeOf_63 ?_
      refine r_iadd hR dX9_unlikeOf_64 ?_
      refine r_iload_n hR dX9_unlikeOf_65 rfl 2 rfl ?_
      refine r_iadd hR dX9_unlikeOf_66 ?_
      obtain ⟨hin, h⟩ := ck_some h
      refine ld_X9_numbers hR dX9_unlikeOf_67 hin ?_
      refine r_icmp_eq hR (tgt := 75) dX9_unlikeOf_68 (by decide) (fun c_68 => ?_) (fun c_68 => ?_)
      · replace h := it_t c_68 h
        exact r_sub hR [0, 1, 2, 3, 4, 6] rfl (t9_unlikeOf_b75 hR N q hP bk5 hbk5 bk22 hbk22 _ _ _ _ _ h)
      · replace h := it_f c_68 h
        refine r_iconst hR dX9_unlikeOf_71 kc_iconst_1 ?_
        refine r_goto hR (tgt := 76) dX9_unlikeOf_72 (by decide) ?_
        exact r_sub hR [0, 1, 2, 3, 4, 6] rfl (t9_unlikeOf_b76 hR N q hP bk5 hbk5 bk22 hbk22 _ _ _ _ _ _ h)
theorem t9_unlikeOf_l22 (hR : Rl wM 1 RX9 cX9_unlikeOf 7 (some .int) ad J P) (N : Nat) (q : SS) {r : Int32} (hP : P (some (.int r)) q) (bk5 : Int32 → Int32 → Int32 → Int32 → Option Int32) (hbk5 : ∀ (x1 : Int32) (x2 : Int32) (x3 : Int32) (x4 : Int32), bk5 x1 x2 x3 x4 = some r → J [(0, .ref (ad 0)), (1, .int x1), (2, .int x2), (3, .int x3), (4, .int x4)] [] q 5) : ∀ (n : Nat) (x1 : Int32) (x2 : Int32) (x3 : Int32) (x4 : Int32) (x5 : Int32) (x6 : Int32), f9_unlikeOf_l22 N q bk5 n x1 x2 x3 x4 x5 x6 = some r → J [(0, .ref (ad 0)), (1, .int x1), (2, .int x2), (3, .int x3), (4, .int x4), (5, .int x5), (6, .int x6)] [] q 22 := by
  intro n
  induction n with
  | zero => intro x1 x2 x3 x4 x5 x6 h; exact mu_noneF h
  | succ n ih => intro x1 x2 x3 x4 x5 x6 h; exact t9_unlikeOf_l22_B hR N q hP bk5 hbk5 _ ih x1 x2 x3 x4 x5 x6 h
theorem t9_unlikeOf_l5_B (hR : Rl wM 1 RX9 cX9_unlikeOf 7 (some .int) ad J P) (N : Nat) (q : SS) {r : Int32} (hP : P (some (.int r)) q) (bk5 : Int32 → Int32 → Int32 → Int32 → Option Int32) (hbk5 : ∀ (x1 : Int32) (x2 : Int32) (x3 : Int32) (x4 : Int32), bk5 x1 x2 x3 x4 = some r → J [(0, .ref (ad 0)), (1, .int x1), (2, .int x2), (3, .int x3), (4, .int x4)] [] q 5) (x1 : Int32) (x2 : Int32) (x3 : Int32) (x4 : Int32) (h : f9_unlikeOf_l5_B N q bk5 x1 x2 x3 x4 = some r) : J [(0, .ref (ad 0)), (1, .int x1), (2, .int x2), (3, .int x3), (4, .int x4)] [] q 5 := by
  unfold f9_unlikeOf_l5_B at h
  refine r_iload hR dX9_unlikeOf_5 4 rfl ?_
  refine r_aload_n hR dX9_unlikeOf_7 rfl 0 rfl ?_
  refine g_X9_rows hR m_4_122 dX9_unlikeOf_8 ?_
  refine r_iload_n hR dX9_unlikeOf_11 rfl 1 rfl ?_
  obtain ⟨hin, h⟩ := ck_some h
  refine ld_X9_rows hR dX9_unlikeOf_12 hin ?_
  refine r_icmp_ge hR (tgt := 103) dX9_unlikeOf_13 (by decide) (fun c_13 => ?_) (fun c_13 => ?_)
  · replace h := it_t c_13 h
    refine r_iload_n hR dX9_unlikeOf_103 rfl 3 rfl ?_
    exact r_iret hR dX9_unlikeOf_104 rfl (rt1 hP h)
  · replace h := it_f c_13 h
    refine r_iconst hR dX9_unlikeOf_16 kc_iconst_1 ?_
    refine r_istore hR (i := 5) (lv' := [(5, .int (1 : Int32)), (0, .ref (ad 0)), (1, .int x1), (2, .int x2), (3, .int x3), (4, .int x4)]) dX9_unlikeOf_17 rfl (by decide) rfl ?_
    refine r_iconst hR dX9_unlikeOf_19 kc_iconst_0 ?_
    refine r_istore hR (i := 6) (lv' := [(6, .int (0 : Int32)), (5, .int (1 : Int32)), (0, .ref (ad 0)), (1, .int x1), (2, .int x2), (3, .int x3), (4, .int x4)]) dX9_unlikeOf_20 rfl (by decide) rfl ?_
    exact r_sub hR [2, 3, 4, 5, 6, 1, 0] rfl (t9_unlikeOf_l22 hR N q hP bk5 hbk5 N _ _ _ _ _ _ h)
theorem t9_unlikeOf_l5 (hR : Rl wM 1 RX9 cX9_unlikeOf 7 (some .int) ad J P) (N : Nat) (q : SS) {r : Int32} (hP : P (some (.int r)) q) : ∀ (n : Nat) (x1 : Int32) (x2 : Int32) (x3 : Int32) (x4 : Int32), f9_unlikeOf_l5 N q n x1 x2 x3 x4 = some r → J [(0, .ref (ad 0)), (1, .int x1), (2, .int x2), (3, .int x3), (4, .int x4)] [] q 5 := by
  intro n
  induction n with
  | zero => intro x1 x2 x3 x4 h; exact mu_noneF h
  | succ n ih => intro x1 x2 x3 x4 h; exact t9_unlikeOf_l5_B hR N q hP _ ih x1 x2 x3 x4 h
theorem t9_unlikeOf (hR : Rl wM 1 RX9 cX9_unlikeOf 7 (some .int) ad J P) (N : Nat) (q : SS) {r : Int32} (hP : P (some (.int r)) q) (x1 : Int32) (x2 : Int32) (h : f9_unlikeOf N q x1 x2 = some r) : J [(0, .ref (ad 0)), (1, .int x1), (2, .int x2)] [] q 0 := by
  unfold f9_unlikeOf at h
  refine r_iconst hR dX9_unlikeOf_0 kc_iconst_0 ?_
  refine r_istore_n hR (i := 3) (lv' := [(3, .int (0 : Int32)), (0, .ref (ad 0)), (1, .int x1), (2, .int x2)]) dX9_unlikeOf_1 rfl rfl (by decide) rfl ?_
  refine r_iconst hR dX9_unlikeOf_2 kc_iconst_0 ?_
  refine r_istore hR (i := 4) (lv' := [(4, .int (0 : Int32)), (3, .int (0 : Int32)), (0, .ref (ad 0)), (1, .int x1), (2, .int x2)]) dX9_unlikeOf_3 rfl (by decide) rfl ?_
  exact r_sub hR [2, 3, 4, 1, 0] rfl (t9_unlikeOf_l5 hR N q hP N _ _ _ _ h)
theorem c9_unlikeOf (N : Nat) {x1 : Int32} {x2 : Int32} {q : SS} {r : Int32} (h : f9_unlikeOf N q x1 x2 = some r) : Ct wM 1 yX9_unlikeOf cX9_unlikeOf 7 (some .int) (fun ad => [.ref (ad 0), .int x1, .int x2]) q (fun _ => some (.int r)) q :=
  ct_of (by decide) (fun _ => Nat.le_of_ble_eq_true rfl) (fun ad J hR => t9_unlikeOf hR N q ⟨rfl, rfl⟩ x1 x2 h)
theorem t9_unlike (hR : Rl wM 3 RX9 cX9_unlike 3 (some .int) ad J P) (N : Nat) (q : SS) {r : Int32} (hP : P (some (.int r)) q) (x1 : Int32) (x2 : Int32) (h : f9_unlike N q x1 x2 = some r) : J [(0, .ref (ad 0)), (1, .int x1), (2, .int x2)] [] q 0 := by
  unfold f9_unlike at h
  refine r_aload_n hR dX9_unlike_0 rfl 0 rfl ?_
  refine r_iload_n hR dX9_unlike_1 rfl 1 rfl ?_
  obtain ⟨r_2, hc, h⟩ := bd_some h
  refine r_callVi hR (c9_isTable hc) (cf_X9_116 (by decide)) ⟨m_5_18, ms_3_6⟩ (As := [.int x1]) (q0 := 0) (ci := 7) rfl rfl rfl rfl (rc_X9 ad _) (Nat.le_of_ble_eq_true rfl) rfl dX9_unlike_2 ?_
  refine r_if_ne hR (tgt := 11) dX9_unlike_5 (by decide) (fun c_5 => ?_) (fun c_5 => ?_)
  · replace h := it_f c_5 h
    refine r_iload_n hR dX9_unlike_11 rfl 2 rfl ?_
    refine r_i2l hR dX9_unlike_12 ?_
    refine r_lconst hR dX9_unlike_13 kc_lconst_0 ?_
    refine r_ldc2 hR dX9_unlike_14 m_5_55 ?_
    obtain ⟨r_17, hc, h⟩ := bd_some h
    refine r_callSi hR (c9_in hc) (cf_X9_92 (by decide)) m_5_6 (As := [.long (Int32.toInt64 x2), .long (0 : Int64), .long (7 : Int64)]) rfl rfl (Nat.le_of_ble_eq_true rfl) rfl dX9_unlike_17 ?_
    refine r_if_eq hR (tgt := 41) dX9_unlike_20 (by decide) (fun c_20 => ?_) (fun c_20 => ?_)
    · replace h := it_t c_20 h
      refine r_bipush hR dX9_unlike_41 kc_bipush_m102 ?_
      exact r_iret hR dX9_unlike_43 rfl (rt1 hP h)
    · replace h := it_f c_20 h
      refine r_aload_n hR dX9_unlike_23 rfl 0 rfl ?_
      refine r_iload_n hR dX9_unlike_24 rfl 1 rfl ?_
      refine r_iload_n hR dX9_unlike_25 rfl 2 rfl ?_
      obtain ⟨r_26, hc, h⟩ := bd_some h
      refine r_callVi hR (c9_has hc) (cf_X9_108 (by decide)) ⟨m_5_31, ms_3_9⟩ (As := [.int x1, .int x2]) (q0 := 0) (ci := 7) rfl rfl rfl rfl (rc_X9 ad _) (Nat.le_of_ble_eq_true rfl) rfl dX9_unlike_26 ?_
      refine r_if_eq hR (tgt := 41) dX9_unlike_29 (by decide) (fun c_29 => ?_) (fun c_29 => ?_)
      · replace h := it_t c_29 h
        refine r_bipush hR dX9_unlike_41 kc_bipush_m102 ?_
        exact r_iret hR dX9_unlike_43 rfl (rt1 hP h)
      · replace h := it_f c_29 h
        refine r_aload_n hR dX9_unlike_32 rfl 0 rfl ?_
        refine r_iload_n hR dX9_unlike_33 rfl 1 rfl ?_
        refine r_iload_n hR dX9_unlike_34 rfl 2 rfl ?_
        obtain ⟨r_35, hc, h⟩ := bd_some h
        refine r_callVi hR (c9_unlikeOf N hc) (cf_X9_152 (by decide)) ⟨m_5_81, ms_3_13⟩ (As := [.int x1, .int x2]) (q0 := 0) (ci := 7) rfl rfl rfl rfl (rc_X9 ad _) (Nat.le_of_ble_eq_true rfl) rfl dX9_unlike_35 ?_
        refine r_goto hR (tgt := 43) dX9_unlike_38 (by decide) ?_
        exact r_iret hR dX9_unlike_43 rfl (rt1 hP h)
  · replace h := it_t c_5 h
    refine r_bipush hR dX9_unlike_8 kc_bipush_m101 ?_
    exact r_iret hR dX9_unlike_10 rfl (rt1 hP h)
theorem c9_unlike (N : Nat) {x1 : Int32} {x2 : Int32} {q : SS} {r : Int32} (h : f9_unlike N q x1 x2 = some r) : Ct wM 3 yX9_unlike cX9_unlike 3 (some .int) (fun ad => [.ref (ad 0), .int x1, .int x2]) q (fun _ => some (.int r)) q :=
  ct_of (by decide) (fun _ => Nat.le_of_ble_eq_true rfl) (fun ad J hR => t9_unlike hR N q ⟨rfl, rfl⟩ x1 x2 h)
theorem t9_rule_b95 (hR : Rl wM 2 RX9 cX9_rule 4 (some .int) ad J P) {r : Int32} {q2 : SS} (hP : P (some (.int r)) q2) (x3 : Int32) (s0 : Int32) (q : SS) (h : f9_rule_b95 x3 s0 q = some (r, q2)) : J [(3, .int x3)] [.int s0, .ref (ad 0)] q 95 := by
  unfold f9_rule_b95 at h
  obtain ⟨q_95, hq, h⟩ := bn_some h
  refine p_X9_memory hR m_4_125 dX9_rule_95 hq ?_
  refine r_iload_n hR dX9_rule_98 rfl 0 rfl ?_
  exact r_iret hR dX9_rule_99 rfl (rt2 hP h)
theorem t9_rule_b78 (hR : Rl wM 2 RX9 cX9_rule 4 (some .int) ad J P) {r : Int32} {q2 : SS} (hP : P (some (.int r)) q2) (x1 : Int32) (x2 : Int32) (x3 : Int32) (s0 : Int32) (q : SS) (h : f9_rule_b78 x1 x2 x3 s0 q = some (r, q2)) : J [(0, .ref (ad 0)), (1, .int x1), (2, .int x2), (3, .int x3)] [.int s0, .ref (ad 0)] q 78 := by
  unfold f9_rule_b78 at h
  obtain ⟨q_78, hq, h⟩ := bn_some h
  refine p_X9_wide hR m_4_124 dX9_rule_78 hq ?_
  refine r_aload_n hR dX9_rule_81 rfl 0 rfl ?_
  refine r_iload_n hR dX9_rule_82 rfl 1 rfl ?_
  refine r_iconst hR dX9_rule_83 kc_iconst_1 ?_
  refine r_icmp_ne hR (tgt := 91) dX9_rule_84 (by decide) (fun c_84 => ?_) (fun c_84 => ?_)
  · replace h := it_f c_84 h
    refine r_aload_n hR dX9_rule_91 rfl 0 rfl ?_
    refine g_X9_memory hR m_4_125 dX9_rule_92 ?_
    exact r_sub hR [3] rfl (t9_rule_b95 hR hP _ _ _ h)
  · replace h := it_t c_84 h
    refine r_iload_n hR dX9_rule_87 rfl 2 rfl ?_
    refine r_goto hR (tgt := 95) dX9_rule_88 (by decide) ?_
    exact r_sub hR [3] rfl (t9_rule_b95 hR hP _ _ _ h)
theorem t9_rule_b64 (hR : Rl wM 2 RX9 cX9_rule 4 (some .int) ad J P) {r : Int32} {q2 : SS} (hP : P (some (.int r)) q2) (x1 : Int32) (x2 : Int32) (s0 : Int32) (q : SS) (h : f9_rule_b64 x1 x2 s0 q = some (r, q2)) : J [(0, .ref (ad 0)), (1, .int x1), (2, .int x2)] [.int s0] q 64 := by
  unfold f9_rule_b64 at h
  refine r_istore_n hR (i := 3) (lv' := [(3, .int s0), (0, .ref (ad 0)), (1, .int x1), (2, .int x2)]) dX9_rule_64 rfl rfl (by decide) rfl ?_
  refine r_aload_n hR dX9_rule_65 rfl 1 rfl ?_
  refine r_iload_n hR dX9_rule_66 rfl 2 rfl ?_
  refine r_if_ne hR (tgt := 74) dX9_rule_67 (by decide) (fun c_67 => ?_) (fun c_67 => ?_)
  · replace h := it_f c_67 h
    refine r_aload_n hR dX9_rule_74 rfl 1 rfl ?_
    refine g_X9_wide hR m_4_124 dX9_rule_75 ?_
    exact r_sub hR [1, 2, 3, 0] rfl (t9_rule_b78 hR hP _ _ _ _ _ h)
  · replace h := it_t c_67 h
    refine r_iload_n hR dX9_rule_70 rfl 3 rfl ?_
    refine r_goto hR (tgt := 78) dX9_rule_71 (by decide) ?_
    exact r_sub hR [1, 2, 3, 0] rfl (t9_rule_b78 hR hP _ _ _ _ _ h)
theorem t9_rule_b49 (hR : Rl wM 2 RX9 cX9_rule 4 (some .int) ad J P) {r : Int32} {q2 : SS} (hP : P (some (.int r)) q2) (x1 : Int32) (x2 : Int32) (q : SS) (h : f9_rule_b49 x1 x2 q = some (r, q2)) : J [(0, .ref (ad 0)), (1, .int x1), (2, .int x2)] [] q 49 := by
  unfold f9_rule_b49 at h
  refine r_iload_n hR dX9_rule_49 rfl 1 rfl ?_
  refine r_if_ne hR (tgt := 60) dX9_rule_50 (by decide) (fun c_50 => ?_) (fun c_50 => ?_)
  · replace h := it_f c_50 h
    refine r_aload_n hR dX9_rule_60 rfl 0 rfl ?_
    refine g_X9_memory hR m_4_125 dX9_rule_61 ?_
    exact r_sub hR [0, 1, 2] rfl (t9_rule_b64 hR hP _ _ _ _ h)
  · replace h := it_t c_50 h
    refine r_aload_n hR dX9_rule_53 rfl 0 rfl ?_
    refine g_X9_wide hR m_4_124 dX9_rule_54 ?_
    refine r_goto hR (tgt := 64) dX9_rule_57 (by decide) ?_
    exact r_sub hR [0, 1, 2] rfl (t9_rule_b64 hR hP _ _ _ _ h)
theorem t9_rule (hR : Rl wM 2 RX9 cX9_rule 4 (some .int) ad J P) {r : Int32} {q2 : SS} (hP : P (some (.int r)) q2) (x1 : Int32) (x2 : Int32) (q : SS) (h : f9_rule x1 x2 q = some (r, q2)) : J [(0, .ref (ad 0)), (1, .int x1), (2, .int x2)] [] q 0 := by
  unfold f9_rule at h
  refine r_iload_n hR dX9_rule_0 rfl 1 rfl ?_
  refine r_i2l hR dX9_rule_1 ?_
  refine r_lconst hR dX9_rule_2 kc_lconst_0 ?_
  refine r_lconst hR dX9_rule_3 kc_lconst_1 ?_
  obtain ⟨r_4, hc, h⟩ := bd_some h
  refine r_callSi hR (c9_in hc) (cf_X9_92 (by decide)) m_5_6 (As := [.long (Int32.toInt64 x1), .long (0 : Int64), .long (1 : Int64)]) rfl rfl (Nat.le_of_ble_eq_true rfl) rfl dX9_rule_4 ?_
  refine r_if_ne hR (tgt := 13) dX9_rule_7 (by decide) (fun c_7 => ?_) (fun c_7 => ?_)
  · replace h := it_f c_7 h
    refine r_iload_n hR dX9_rule_13 rfl 1 rfl ?_
    refine r_if_ne hR (tgt := 32) dX9_rule_14 (by decide) (fun c_14 => ?_) (fun c_14 => ?_)
    · replace h := it_f c_14 h
      refine r_iload_n hR dX9_rule_32 rfl 2 rfl ?_
      refine r_i2l hR dX9_rule_33 ?_
      refine r_ldc2 hR dX9_rule_34 m_5_87 ?_
      refine r_ldc2 hR dX9_rule_37 m_5_20 ?_
      obtain ⟨r_40, hc, h⟩ := bd_some h
      refine r_callSi hR (c9_in hc) (cf_X9_92 (by decide)) m_5_6 (As := [.long (Int32.toInt64 x2), .long (3 : Int64), .long (9 : Int64)]) rfl rfl (Nat.le_of_ble_eq_true rfl) rfl dX9_rule_40 ?_
      refine r_if_ne hR (tgt := 49) dX9_rule_43 (by decide) (fun c_43 => ?_) (fun c_43 => ?_)
      · replace h := it_f c_43 h
        exact r_sub hR [0, 1, 2] rfl (t9_rule_b49 hR hP _ _ _ h)
      · replace h := it_t c_43 h
        refine r_bipush hR dX9_rule_46 kc_bipush_m102 ?_
        exact r_iret hR dX9_rule_48 rfl (rt2 hP h)
    · replace h := it_t c_14 h
      refine r_iload_n hR dX9_rule_17 rfl 2 rfl ?_
      refine r_i2l hR dX9_rule_18 ?_
      refine r_lconst hR dX9_rule_19 kc_lconst_1 ?_
      refine r_ldc2 hR dX9_rule_20 m_5_37 ?_
      obtain ⟨r_23, hc, h⟩ := bd_some h
      refine r_callSi hR (c9_in hc) (cf_X9_92 (by decide)) m_5_6 (As := [.long (Int32.toInt64 x2), .long (1 : Int64), .long (8 : Int64)]) rfl rfl (Nat.le_of_ble_eq_true rfl) rfl dX9_rule_23 ?_
      refine r_if_ne hR (tgt := 49) dX9_rule_26 (by decide) (fun c_26 => ?_) (fun c_26 => ?_)
      · replace h := it_f c_26 h
        exact r_sub hR [0, 1, 2] rfl (t9_rule_b49 hR hP _ _ _ h)
      · replace h := it_t c_26 h
        refine r_goto hR (tgt := 46) dX9_rule_29 (by decide) ?_
        refine r_bipush hR dX9_rule_46 kc_bipush_m102 ?_
        exact r_iret hR dX9_rule_48 rfl (rt2 hP h)
  · replace h := it_t c_7 h
    refine r_bipush hR dX9_rule_10 kc_bipush_m101 ?_
    exact r_iret hR dX9_rule_12 rfl (rt2 hP h)
theorem c9_rule {x1 : Int32} {x2 : Int32} {q : SS} {r : Int32} {q2 : SS} (h : f9_rule x1 x2 q = some (r, q2)) : Ct wM 2 yX9_rule cX9_rule 4 (some .int) (fun ad => [.ref (ad 0), .int x1, .int x2]) q (fun _ => some (.int r)) q2 :=
  ct_of (by decide) (fun _ => Nat.le_of_ble_eq_true rfl) (fun ad J hR => t9_rule hR ⟨rfl, rfl⟩ x1 x2 q h)
theorem t9_takeMembers_b44 (hR : Rl wM 1 RX9 cX9_takeMembers 3 none ad J P) (N : Nat) {q2 : SS} (hP : P none q2) (bk7 : Int32 → Int32 → SS → Option SS) (hbk7 : ∀ (x1 : Int32) (x2 : Int32) (q : SS), bk7 x1 x2 q = some q2 → J [(0, .ref (ad 0)), (1, .int x1), (2, .int x2)] [] q 7) (x1 : Int32) (x2 : Int32) (q : SS) (h : f9_takeMembers_b44 N bk7 x1 x2 q = some q2) : J [(0, .ref (ad 0)), (1, .int x1), (2, .int x2)] [] q 44 := by
  unfold f9_takeMembers_b44 at h
  obtain ⟨x2_44, hx, h⟩ := bn_some h
  refine r_iinc hR (i := 2) (lv' := [(2, .int x2_44), (0, .ref (ad 0)), (1, .int x1)]) dX9_takeMembers_44 2 rfl (inc_ok hx kc_iconst_1) (by decide) rfl ?_
  refine r_goto hR (tgt := 7) dX9_takeMembers_47 (by decide) ?_
  exact r_sub hR [1, 2, 0] rfl (hbk7 _ _ _ h)
theorem t9_takeMembers_l7_B (hR : Rl wM 1 RX9 cX9_takeMembers 3 none ad J P) (N : Nat) {q2 : SS} (hP : P none q2) (bk7 : Int32 → Int32 → SS → Option SS) (hbk7 : ∀ (x1 : Int32) (x2 : Int32) (q : SS), bk7 x1 x2 q = some q2 → J [(0, .ref (ad 0)), (1, .int x1), (2, .int x2)] [] q 7) (x1 : Int32) (x2 : Int32) (q : SS) (h : f9_takeMembers_l7_B N bk7 x1 x2 q = some q2) : J [(0, .ref (ad 0)), (1, .int x1), (2, .int x2)] [] q 7 := by
  unfold f9_takeMembers_l7_B at h
  refine r_iload_n hR dX9_takeMembers_7 rfl 2 rfl ?_
  refine r_aload_n hR dX9_takeMembers_8 rfl 0 rfl ?_
  refine g_X9_tables hR m_4_119 dX9_takeMembers_9 ?_
  refine r_icmp_ge hR (tgt := 50) dX9_takeMembers_12 (by decide) (fun c_12 => ?_) (fun c_12 => ?_)
  · replace h := it_t c_12 h
    exact r_vret hR dX9_takeMembers_50 rfl (rtv hP h)
  · replace h := it_f c_12 h
    refine r_iload_n hR dX9_takeMembers_15 rfl 1 rfl ?_
    refine r_iload_n hR dX9_takeMembers_16 rfl 2 rfl ?_
    refine r_ishr hR dX9_takeMembers_17 ?_
    refine r_iconst hR dX9_takeMembers_18 kc_iconst_1 ?_
    refine r_iand hR dX9_takeMembers_19 ?_
    refine r_iconst hR dX9_takeMembers_20 kc_iconst_1 ?_
    refine r_icmp_ne hR (tgt := 44) dX9_takeMembers_21 (by decide) (fun c_21 => ?_) (fun c_21 => ?_)
    · replace h := it_f c_21 h
      exact r_sub hR [0, 1, 2] rfl (t9_takeMembers_b44 hR N hP bk7 hbk7 _ _ _ h)
    · replace h := it_t c_21 h
      refine r_aload_n hR dX9_takeMembers_24 rfl 0 rfl ?_
      refine g_X9_members hR m_4_131 dX9_takeMembers_25 ?_
      refine r_aload_n hR dX9_takeMembers_28 rfl 0 rfl ?_
      refine g_X9_memberMany hR m_4_132 dX9_takeMembers_29 ?_
      refine r_iload_n hR dX9_takeMembers_32 rfl 2 rfl ?_
      obtain ⟨hin, h⟩ := ck_some h
      obtain ⟨q_33, hq, h⟩ := bn_some h
      refine sv_X9_members hR dX9_takeMembers_33 hin hq ?_
      refine r_aload_n hR dX9_takeMembers_34 rfl 0 rfl ?_
      refine r_dup hR dX9_takeMembers_35 rfl ?_
      refine g_X9_memberMany hR m_4_132 dX9_takeMembers_36 ?_
      refine r_iconst hR dX9_takeMembers_39 kc_iconst_1 ?_
      refine r_iadd hR dX9_takeMembers_40 ?_
      obtain ⟨q_41, hq, h⟩ := bn_some h
      refine p_X9_memberMany hR m_4_132 dX9_takeMembers_41 hq ?_
      exact r_sub hR [0, 1, 2] rfl (t9_takeMembers_b44 hR N hP bk7 hbk7 _ _ _ h)
theorem t9_takeMembers_l7 (hR : Rl wM 1 RX9 cX9_takeMembers 3 none ad J P) (N : Nat) {q2 : SS} (hP : P none q2) : ∀ (n : Nat) (x1 : Int32) (x2 : Int32) (q : SS), f9_takeMembers_l7 N n x1 x2 q = some q2 → J [(0, .ref (ad 0)), (1, .int x1), (2, .int x2)] [] q 7 := by
  intro n
  induction n with
  | zero => intro x1 x2 q h; exact mu_noneF h
  | succ n ih => intro x1 x2 q h; exact t9_takeMembers_l7_B hR N hP _ ih x1 x2 q h
theorem t9_takeMembers (hR : Rl wM 1 RX9 cX9_takeMembers 3 none ad J P) (N : Nat) {q2 : SS} (hP : P none q2) (x1 : Int32) (q : SS) (h : f9_takeMembers N x1 q = some q2) : J [(0, .ref (ad 0)), (1, .int x1)] [] q 0 := by
  unfold f9_takeMembers at h
  refine r_aload_n hR dX9_takeMembers_0 rfl 0 rfl ?_
  refine r_iconst hR dX9_takeMembers_1 kc_iconst_0 ?_
  obtain ⟨q_2, hq, h⟩ := bn_some h
  refine p_X9_memberMany hR m_4_132 dX9_takeMembers_2 hq ?_
  refine r_iconst hR dX9_takeMembers_5 kc_iconst_0 ?_
  refine r_istore_n hR (i := 2) (lv' := [(2, .int (0 : Int32)), (0, .ref (ad 0)), (1, .int x1)]) dX9_takeMembers_6 rfl rfl (by decide) rfl ?_
  exact r_sub hR [1, 2, 0] rfl (t9_takeMembers_l7 hR N hP N _ _ _ h)
theorem c9_takeMembers (N : Nat) {x1 : Int32} {q : SS} {q2 : SS} (h : f9_takeMembers N x1 q = some q2) : Ct wM 1 yX9_takeMembers cX9_takeMembers 3 none (fun ad => [.ref (ad 0), .int x1]) q (fun _ => none) q2 :=
  ct_of (by decide) (fun _ => Nat.le_of_ble_eq_true rfl) (fun ad J hR => t9_takeMembers hR N ⟨rfl, rfl⟩ x1 q h)
theorem t9_fit_b86 (hR : Rl wM 1 RX9 cX9_fit 8 (some .boolean) ad J P) (N : Nat) (q : SS) {r : Int32} (hP : P (some (.int r)) q) (bk21 : Int32 → Int32 → Int32 → Int32 → Int32 → Int32 → Int32 → Option Int32) (hbk21 : ∀ (x1 : Int32) (x2 : Int32) (x3 : Int32) (x4 : Int32) (x5 : Int32) (x6 : Int32) (x7 : Int32), bk21 x1 x2 x3 x4 x5 x6 x7 = some r → J [(0, .ref (ad 0)), (1, .int x1), (2, .int x2), (3, .int x3), (4, .int x4), (5, .int x5), (6, .int x6), (7, .int x7)] [] q 21) (x1 : Int32) (x2 : Int32) (x3 : Int32) (x4 : Int32) (x5 : Int32) (x7 : Int32) (s0 : Int32) (h : f9_fit_b86 N q bk21 x1 x2 x3 x4 x5 x7 s0 = some r) : J [(0, .ref (ad 0)), (1, .int x1), (2, .int x2), (3, .int x3), (4, .int x4), (5, .int x5), (7, .int x7)] [.int s0] q 86 := by
  unfold f9_fit_b86 at h
  refine r_istore hR (i := 6) (lv' := [(6, .int s0), (0, .ref (ad 0)), (1, .int x1), (2, .int x2), (3, .int x3), (4, .int x4), (5, .int x5), (7, .int x7)]) dX9_fit_86 rfl (by decide) rfl ?_
  obtain ⟨x7_88, hx, h⟩ := bn_some h
  refine r_iinc hR (i := 7) (lv' := [(7, .int x7_88), (6, .int s0), (0, .ref (ad 0)), (1, .int x1), (2, .int x2), (3, .int x3), (4, .int x4), (5, .int x5)]) dX9_fit_88 7 rfl (inc_ok hx kc_iconst_1) (by decide) rfl ?_
  refine r_goto hR (tgt := 21) dX9_fit_91 (by decide) ?_
  exact r_sub hR [2, 3, 4, 5, 6, 7, 1, 0] rfl (hbk21 _ _ _ _ _ _ _ h)
theorem t9_fit_b85 (hR : Rl wM 1 RX9 cX9_fit 8 (some .boolean) ad J P) (N : Nat) (q : SS) {r : Int32} (hP : P (some (.int r)) q) (bk21 : Int32 → Int32 → Int32 → Int32 → Int32 → Int32 → Int32 → Option Int32) (hbk21 : ∀ (x1 : Int32) (x2 : Int32) (x3 : Int32) (x4 : Int32) (x5 : Int32) (x6 : Int32) (x7 : Int32), bk21 x1 x2 x3 x4 x5 x6 x7 = some r → J [(0, .ref (ad 0)), (1, .int x1), (2, .int x2), (3, .int x3), (4, .int x4), (5, .int x5), (6, .int x6), (7, .int x7)] [] q 21) (x1 : Int32) (x2 : Int32) (x3 : Int32) (x4 : Int32) (x5 : Int32) (x7 : Int32) (h : f9_fit_b85 N q bk21 x1 x2 x3 x4 x5 x7 = some r) : J [(0, .ref (ad 0)), (1, .int x1), (2, .int x2), (3, .int x3), (4, .int x4), (5, .int x5), (7, .int x7)] [] q 85 := by
  unfold f9_fit_b85 at h
  refine r_iconst hR dX9_fit_85 kc_iconst_0 ?_
  exact r_sub hR [0, 1, 2, 3, 4, 5, 6] rfl (t9_fit_b86 hR N q hP bk21 hbk21 _ _ _ _ _ _ _ h)
theorem t9_fit_b81 (hR : Rl wM 1 RX9 cX9_fit 8 (some .boolean) ad J P) (N : Nat) (q : SS) {r : Int32} (hP : P (some (.int r)) q) (bk21 : Int32 → Int32 → Int32 → Int32 → Int32 → Int32 → Int32 → Option Int32) (hbk21 : ∀ (x1 : Int32) (x2 : Int32) (x3 : Int32) (x4 : Int32) (x5 : Int32) (x6 : Int32) (x7 : Int32), bk21 x1 x2 x3 x4 x5 x6 x7 = some r → J [(0, .ref (ad 0)), (1, .int x1), (2, .int x2), (3, .int x3), (4, .int x4), (5, .int x5), (6, .int x6), (7, .int x7)] [] q 21) (x1 : Int32) (x2 : Int32) (x3 : Int32) (x4 : Int32) (x5 : Int32) (x7 : Int32) (h : f9_fit_b81 N q bk21 x1 x2 x3 x4 x5 x7 = some r) : J [(0, .ref (ad 0)), (1, .int x1), (2, .int x2), (3, .int x3), (4, .int x4), (5, .int x5), (7, .int x7)] [] q 81 := by
  unfold f9_fit_b81 at h
  refine r_iconst hR dX9_fit_81 kc_iconst_1 ?_
  refine r_goto hR (tgt := 86) dX9_fit_82 (by decide) ?_
  exact r_sub hR [0, 1, 2, 3, 4, 5, 6] rfl (t9_fit_b86 hR N q hP bk21 hbk21 _ _ _ _ _ _ _ h)
theorem t9_fit_l21_B (hR : Rl wM 1 RX9 cX9_fit 8 (some .boolean) ad J P) (N : Nat) (q : SS) {r : Int32} (hP : P (some (.int r)) q) (bk21 : Int32 → Int32 → Int32 → Int32 → Int32 → Int32 → Int32 → Option Int32) (hbk21 : ∀ (x1 : Int32) (x2 : Int32) (x3 : Int32) (x4 : Int32) (x5 : Int32) (x6 : Int32) (x7 : Int32), bk21 x1 x2 x3 x4 x5 x6 x7 = some r → J [(0, .ref (ad 0)), (1, .int x1), (2, .int x2), (3, .int x3), (4, .int x4), (5, .int x5), (6, .int x6), (7, .int x7)] [] q 21) (x1 : Int32) (x2 : Int32) (x3 : Int32) (x4 : Int32) (x5 : Int32) (x6 : Int32) (x7 : Int32) (h : f9_fit_l21_B N q bk21 x1 x2 x3 x4 x5 x6 x7 = some r) : J [(0, .ref (ad 0)), (1, .int x1), (2, .int x2), (3, .int x3), (4, .int x4), (5, .int x5), (6, .int x6), (7, .int x7)] [] q 21 := by
  unfold f9_fit_l21_B at h
  refine r_iload hR dX9_fit_21 7 rfl ?_
  refine r_bipush hR dX9_fit_23 kc_bipush_8 ?_
  refine r_icmp_ge hR (tgt := 94) dX9_fit_25 (by decide) (fun c_25 => ?_) (fun c_25 => ?_)
  · replace h := it_t c_25 h
    refine r_iload hR dX9_fit_94 6 rfl ?_
    obtain ⟨hz, h⟩ := cz_some h
    exact r_zret hR dX9_fit_96 rfl hz (rt1 hP h)
  · replace h := it_f c_25 h
    refine r_iload hR dX9_fit_28 6 rfl ?_
    refine r_if_eq hR (tgt := 85) dX9_fit_30 (by decide) (fun c_30 => ?_) (fun c_30 => ?_)
    · replace h := it_t c_30 h
      exact r_sub hR [0, 1, 2, 3, 4, 5, 7] rfl (t9_fit_b85 hR N q hP bk21 hbk21 _ _ _ _ _ _ h)
    · replace h := it_f c_30 h
      refine r_iload hR dX9_fit_33 5 rfl ?_
      refine r_iload hR dX9_fit_35 7 rfl ?_
      refine r_ishr hR dX9_fit_37 ?_
      refine r_iconst hR dX9_fit_38 kc_iconst_1 ?_
      refine r_iand hR dX9_fit_39 ?_
      refine r_if_eq hR (tgt := 81) dX9_fit_40 (by decide) (fun c_40 => ?_) (fun c_40 => ?_)
      · replace h := it_t c_40 h
        exact r_sub hR [0, 1, 2, 3, 4, 5, 7] rfl (t9_fit_b81 hR N q hP bk21 hbk21 _ _ _ _ _ _ h)
      · replace h := it_f c_40 h
        refine r_aload_n hR dX9_fit_43 rfl 0 rfl ?_
        refine g_X9_numbers hR m_4_123 dX9_fit_44 ?_
        refine r_bipush hR dX9_fit_47 kc_bipush_64 ?_
        refine r_iload_n hR dX9_fit_49 rfl 1 rfl ?_
        refine r_imul hR dX9_fit_50 ?_
        refine r_bipush hR dX9_fit_51 kc_bipush_8 ?_
        refine r_iload_n hR dX9_fit_53 rfl 2 rfl ?_
        refine r_imul hR dX9_fit_54 ?_
        refine r_iadd hR dX9_fit_55 ?_
        refine r_iload hR dX9_fit_56 7 rfl ?_
        refine r_iadd hR dX9_fit_58 ?_
        obtain ⟨hin, h⟩ := ck_some h
        refine ld_X9_numbers hR dX9_fit_59 hin ?_
        refine r_aload_n hR dX9_fit_60 rfl 0 rfl ?_
        refine g_X9_numbers hR m_4_123 dX9_fit_61 ?_
        refine r_bipush hR dX9_fit_64 kc_bipush_64 ?_
        refine r_iload_n hR dX9_fit_66 rfl 3 rfl ?_
        refine r_imul hR dX9_fit_67 ?_
        refine r_bipush hR dX9_fit_68 kc_bipush_8 ?_
        refine r_iload hR dX9_fit_70 4 rfl ?_
        refine r_imul hR dX9_fit_72 ?_
        refine r_iadd hR dX9_fit_73 ?_
        refine r_iload hR dX9_fit_74 7 rfl ?_
        refine r_iadd hR dX9_fit_76 ?_
        obtain ⟨hin, h⟩ := ck_some h
        refine ld_X9_numbers hR dX9_fit_77 hin ?_
        refine r_icmp_ne hR (tgt := 85) dX9_fit_78 (by decide) (fun c_78 => ?_) (fun c_78 => ?_)
        · replace h := it_f c_78 h
          exact r_sub hR [0, 1, 2, 3, 4, 5, 7] rfl (t9_fit_b85 hR N q hP bk21 hbk21 _ _ _ _ _ _ h)
        · replace h := it_t c_78 h
          exact r_sub hR [0, 1, 2, 3, 4, 5, 7] rfl (t9_fit_b81 hR N q hP bk21 hbk21 _ _ _ _ _ _ h)
theorem t9_fit_l21 (hR : Rl wM 1 RX9 cX9_fit 8 (some .boolean) ad J P) (N : Nat) (q : SS) {r : Int32} (hP : P (some (.int r)) q) : ∀ (n : Nat) (x1 : Int32) (x2 : Int32) (x3 : Int32) (x4 : Int32) (x5 : Int32) (x6 : Int32) (x7 : Int32), f9_fit_l21 N q n x1 x2 x3 x4 x5 x6 x7 = some r → J [(0, .ref (ad 0)), (1, .int x1), (2, .int x2), (3, .int x3), (4, .int x4), (5, .int x5), (6, .int x6), (7, .int x7)] [] q 21 := by
  intro n
  induction n with
  | zero => intro x1 x2 x3 x4 x5 x6 x7 h; exact mu_noneF h
  | succ n ih => intro x1 x2 x3 x4 x5 x6 x7 h; exact t9_fit_l21_B hR N q hP _ ih x1 x2 x3 x4 x5 x6 x7 h
theorem t9_fit (hR : Rl wM 1 RX9 cX9_fit 8 (some .boolean) ad J P) (N : Nat) (q : SS) {r : Int32} (hP : P (some (.int r)) q) (x1 : Int32) (x2 : Int32) (x3 : Int32) (x4 : Int32) (h : f9_fit N q x1 x2 x3 x4 = some r) : J [(0, .ref (ad 0)), (1, .int x1), (2, .int x2), (3, .int x3), (4, .int x4)] [] q 0 := by
  unfold f9_fit at h
  refine r_aload_n hR dX9_fit_0 rfl 0 rfl ?_
  refine g_X9_lettersOf hR m_4_120 dX9_fit_1 ?_
  refine r_iload_n hR dX9_fit_4 rfl 1 rfl ?_
  obtain ⟨hin, h⟩ := ck_some h
  refine ld_X9_lettersOf hR dX9_fit_5 hin ?_
  refine r_aload_n hR dX9_fit_6 rfl 0 rfl ?_
  refine g_X9_lettersOf hR m_4_120 dX9_fit_7 ?_
  refine r_iload_n hR dX9_fit_10 rfl 3 rfl ?_
  obtain ⟨hin, h⟩ := ck_some h
  refine ld_X9_lettersOf hR dX9_fit_11 hin ?_
  refine r_iand hR dX9_fit_12 ?_
  obtain ⟨x5_13, hx, h⟩ := bn_some h
  refine r_istore hR (i := 5) (lv' := [(5, .int x5_13), (0, .ref (ad 0)), (1, .int x1), (2, .int x2), (3, .int x3), (4, .int x4)]) dX9_fit_13 hx (by decide) rfl ?_
  refine r_iconst hR dX9_fit_15 kc_iconst_1 ?_
  refine r_istore hR (i := 6) (lv' := [(6, .int (1 : Int32)), (5, .int x5_13), (0, .ref (ad 0)), (1, .int x1), (2, .int x2), (3, .int x3), (4, .int x4)]) dX9_fit_16 rfl (by decide) rfl ?_
  refine r_iconst hR dX9_fit_18 kc_iconst_0 ?_
  refine r_istore hR (i := 7) (lv' := [(7, .int (0 : Int32)), (6, .int (1 : Int32)), (5, .int x5_13), (0, .ref (ad 0)), (1, .int x1), (2, .int x2), (3, .int x3), (4, .int x4)]) dX9_fit_19 rfl (by decide) rfl ?_
  exact r_sub hR [3, 4, 5, 6, 7, 2, 1, 0] rfl (t9_fit_l21 hR N q hP N _ _ _ _ _ _ _ h)
theorem c9_fit (N : Nat) {x1 : Int32} {x2 : Int32} {x3 : Int32} {x4 : Int32} {q : SS} {r : Int32} (h : f9_fit N q x1 x2 x3 x4 = some r) : Ct wM 1 yX9_fit cX9_fit 8 (some .boolean) (fun ad => [.ref (ad 0), .int x1, .int x2, .int x3, .int x4]) q (fun _ => some (.int r)) q :=
  ct_of (by decide) (fun _ => Nat.le_of_ble_eq_true rfl) (fun ad J hR => t9_fit hR N q ⟨rfl, rfl⟩ x1 x2 x3 x4 h)
theorem t9_fitsAhead_b49 (hR : Rl wM 2 RX9 cX9_fitsAhead 4 (some .boolean) ad J P) (N : Nat) (q : SS) {r : Int32} (hP : P (some (.int r)) q) (bk4 : Int32 → Int32 → Int32 → Option Int32) (hbk4 : ∀ (x1 : Int32) (x2 : Int32) (x3 : Int32), bk4 x1 x2 x3 = some r → J [(0, .ref (ad 0)), (1, .int x1), (2, .int x2), (3, .int x3)] [] q 4) (x1 : Int32) (x3 : Int32) (s0 : Int32) (h : f9_fitsAhead_b49 N q bk4 x1 x3 s0 = some r) : J [(0, .ref (ad 0)), (1, .int x1), (3, .int x3)] [.int s0] q 49 := by
  unfold f9_fitsAhead_b49 at h
  refine r_istore_n hR (i := 2) (lv' := [(2, .int s0), (0, .ref (ad 0)), (1, .int x1), (3, .int x3)]) dX9_fitsAhead_49 rfl rfl (by decide) rfl ?_
  obtain ⟨x3_50, hx, h⟩ := bn_some h
  refine r_iinc hR (i := 3) (lv' := [(3, .int x3_50), (2, .int s0), (0, .ref (ad 0)), (1, .int x1)]) dX9_fitsAhead_50 3 rfl (inc_ok hx kc_iconst_1) (by decide) rfl ?_
  refine r_goto hR (tgt := 4) dX9_fitsAhead_53 (by decide) ?_
  exact r_sub hR [2, 3, 1, 0] rfl (hbk4 _ _ _ h)
theorem t9_fitsAhead_b48 (hR : Rl wM 2 RX9 cX9_fitsAhead 4 (some .boolean) ad J P) (N : Nat) (q : SS) {r : Int32} (hP : P (some (.int r)) q) (bk4 : Int32 → Int32 → Int32 → Option Int32) (hbk4 : ∀ (x1 : Int32) (x2 : Int32) (x3 : Int32), bk4 x1 x2 x3 = some r → J [(0, .ref (ad 0)), (1, .int x1), (2, .int x2), (3, .int x3)] [] q 4) (x1 : Int32) (x3 : Int32) (h : f9_fitsAhead_b48 N q bk4 x1 x3 = some r) : J [(0, .ref (ad 0)), (1, .int x1), (3, .int x3)] [] q 48 := by
  unfold f9_fitsAhead_b48 at h
  refine r_iconst hR dX9_fitsAhead_48 kc_iconst_0 ?_
  exact r_sub hR [0, 1, 2] rfl (t9_fitsAhead_b49 hR N q hP bk4 hbk4 _ _ _ h)
theorem t9_fitsAhead_l4_B (hR : Rl wM 2 RX9 cX9_fitsAhead 4 (some .boolean) ad J P) (N : Nat) (q : SS) {r : Int32} (hP : P (some (.int r)) q) (bk4 : Int32 → Int32 → Int32 → Option Int32) (hbk4 : ∀ (x1 : Int32) (x2 : Int32) (x3 : Int32), bk4 x1 x2 x3 = some r → J [(0, .ref (ad 0)), (1, .int x1), (2, .int x2), (3, .int x3)] [] q 4) (x1 : Int32) (x2 : Int32) (x3 : Int32) (h : f9_fitsAhead_l4_B N q bk4 x1 x2 x3 = some r) : J [(0, .ref (ad 0)), (1, .int x1), (2, .int x2), (3, .int x3)] [] q 4 := by
  unfold f9_fitsAhead_l4_B at h
  refine r_iload_n hR dX9_fitsAhead_4 rfl 3 rfl ?_
  refine r_iload_n hR dX9_fitsAhead_5 rfl 1 rfl ?_
  refine r_icmp_ge hR (tgt := 56) dX9_fitsAhead_6 (by decide) (fun c_6 => ?_) (fun c_6 => ?_)
  · replace h := it_t c_6 h
    refine r_iload_n hR dX9_fitsAhead_56 rfl 2 rfl ?_
    obtain ⟨hz, h⟩ := cz_some h
    exact r_zret hR dX9_fitsAhead_57 rfl hz (rt1 hP h)
  · replace h := it_f c_6 h
    refine r_iload_n hR dX9_fitsAhead_9 rfl 2 rfl ?_
    refine r_if_eq hR (tgt := 48) dX9_fitsAhead_10 (by decide) (fun c_10 => ?_) (fun c_10 => ?_)
    · replace h := it_t c_10 h
      exact r_sub hR [0, 1, 3] rfl (t9_fitsAhead_b48 hR N q hP bk4 hbk4 _ _ h)
    · replace h := it_f c_10 h
      refine r_aload_n hR dX9_fitsAhead_13 rfl 0 rfl ?_
      refine r_aload_n hR dX9_fitsAhead_14 rfl 0 rfl ?_
      refine g_X9_members hR m_4_131 dX9_fitsAhead_15 ?_
      refine r_iload_n hR dX9_fitsAhead_18 rfl 3 rfl ?_
      obtain ⟨hin, h⟩ := ck_some h
      refine ld_X9_members hR dX9_fitsAhead_19 hin ?_
      refine r_aload_n hR dX9_fitsAhead_20 rfl 0 rfl ?_
      refine g_X9_chosen hR m_4_133 dX9_fitsAhead_21 ?_
      refine r_iload_n hR dX9_fitsAhead_24 rfl 3 rfl ?_
      obtain ⟨hin, h⟩ := ck_some h
      refine ld_X9_chosen hR dX9_fitsAhead_25 hin ?_
      refine r_aload_n hR dX9_fitsAhead_26 rfl 0 rfl ?_
      refine g_X9_members hR m_4_131 dX9_fitsAhead_27 ?_
      refine r_iload_n hR dX9_fitsAhead_30 rfl 1 rfl ?_
      obtain ⟨hin, h⟩ := ck_some h
      refine ld_X9_members hR dX9_fitsAhead_31 hin ?_
      refine r_aload_n hR dX9_fitsAhead_32 rfl 0 rfl ?_
      refine g_X9_chosen hR m_4_133 dX9_fitsAhead_33 ?_
      refine r_iload_n hR dX9_fitsAhead_36 rfl 1 rfl ?_
      obtain ⟨hin, h⟩ := ck_some h
      refine ld_X9_chosen hR dX9_fitsAhead_37 hin ?_
      obtain ⟨r_38, hc, h⟩ := bd_some h
      refine r_callVi hR (c9_fit N hc) (cf_X9_160 (by decide)) ⟨m_5_126, ms_4_6⟩ (As := [.int (ar q 9 (ix x3)), .int (ar q 10 (ix x3)), .int (ar q 9 (ix x1)), .int (ar q 10 (ix x1))]) (q0 := 0) (ci := 7) rfl rfl rfl rfl (rc_X9 ad _) (Nat.le_of_ble_eq_true rfl) rfl dX9_fitsAhead_38 ?_
      refine r_if_eq hR (tgt := 48) dX9_fitsAhead_41 (by decide) (fun c_41 => ?_) (fun c_41 => ?_)
      · replace h := it_t c_41 h
        exact r_sub hR [0, 1, 3] rfl (t9_fitsAhead_b48 hR N q hP bk4 hbk4 _ _ h)
      · replace h := it_f c_41 h
        refine r_iconst hR dX9_fitsAhead_44 kc_iconst_1 ?_
        refine r_goto hR (tgt := 49) dX9_fitsAhead_45 (by decide) ?_
        exact r_sub hR [0, 1, 3] rfl (t9_fitsAhead_b49 hR N q hP bk4 hbk4 _ _ _ h)
theorem t9_fitsAhead_l4 (hR : Rl wM 2 RX9 cX9_fitsAhead 4 (some .boolean) ad J P) (N : Nat) (q : SS) {r : Int32} (hP : P (some (.int r)) q) : ∀ (n : Nat) (x1 : Int32) (x2 : Int32) (x3 : Int32), f9_fitsAhead_l4 N q n x1 x2 x3 = some r → J [(0, .ref (ad 0)), (1, .int x1), (2, .int x2), (3, .int x3)] [] q 4 := by
  intro n
  induction n with
  | zero => intro x1 x2 x3 h; exact mu_noneF h
  | succ n ih => intro x1 x2 x3 h; exact t9_fitsAhead_l4_B hR N q hP _ ih x1 x2 x3 h
theorem t9_fitsAhead (hR : Rl wM 2 RX9 cX9_fitsAhead 4 (some .boolean) ad J P) (N : Nat) (q : SS) {r : Int32} (hP : P (some (.int r)) q) (x1 : Int32) (h : f9_fitsAhead N q x1 = some r) : J [(0, .ref (ad 0)), (1, .int x1)] [] q 0 := by
  unfold f9_fitsAhead at h
  refine r_iconst hR dX9_fitsAhead_0 kc_iconst_1 ?_
  refine r_istore_n hR (i := 2) (lv' := [(2, .int (1 : Int32)), (0, .ref (ad 0)), (1, .int x1)]) dX9_fitsAhead_1 rfl rfl (by decide) rfl ?_
  refine r_iconst hR dX9_fitsAhead_2 kc_iconst_0 ?_
  refine r_istore_n hR (i := 3) (lv' := [(3, .int (0 : Int32)), (2, .int (1 : Int32)), (0, .ref (ad 0)), (1, .int x1)]) dX9_fitsAhead_3 rfl rfl (by decide) rfl ?_
  exact r_sub hR [2, 3, 1, 0] rfl (t9_fitsAhead_l4 hR N q hP N _ _ _ h)
theorem c9_fitsAhead (N : Nat) {x1 : Int32} {q : SS} {r : Int32} (h : f9_fitsAhead N q x1 = some r) : Ct wM 2 yX9_fitsAhead cX9_fitsAhead 4 (some .boolean) (fun ad => [.ref (ad 0), .int x1]) q (fun _ => some (.int r)) q :=
  ct_of (by decide) (fun _ => Nat.le_of_ble_eq_true rfl) (fun ad J hR => t9_fitsAhead hR N q ⟨rfl, rfl⟩ x1 h)
theorem t9_nextJoined_l2_B (hR : Rl wM 3 RX9 cX9_nextJoined 3 (some .boolean) ad J P) (N : Nat) {r : Int32} {q2 : SS} (hP : P (some (.int r)) q2) (bk2 : Int32 → SS → Option (Int32 × SS)) (hbk2 : ∀ (x2 : Int32) (q : SS), bk2 x2 q = some (r, q2) → J [(0, .ref (ad 0)), (2, .int x2)] [] q 2) (x2 : Int32) (q : SS) (h : f9_nextJoined_l2_B N bk2 x2 q = some (r, q2)) : J [(0, .ref (ad 0)), (2, .int x2)] [] q 2 := by
  unfold f9_nextJoined_l2_B at h
  refine r_iload_n hR dX9_nextJoined_2 rfl 1 rfl ?_
  refine r_if_lt hR (tgt := 75) dX9_nextJoined_3 (by decide) (fun c_3 => ?_) (fun c_3 => ?_)
  · replace h := it_t c_3 h
    refine r_iconst hR dX9_nextJoined_75 kc_iconst_0 ?_
    exact r_zret hR dX9_nextJoined_76 rfl (Or.inl rfl) (rt2 hP h)
  · replace h := it_f c_3 h
    refine r_aload_n hR dX9_nextJoined_6 rfl 0 rfl ?_
    refine g_X9_chosen hR m_4_133 dX9_nextJoined_7 ?_
    refine r_iload_n hR dX9_nextJoined_10 rfl 1 rfl ?_
    refine r_dup2 hR dX9_nextJoined_11 rfl rfl ?_
    obtain ⟨hin, h⟩ := ck_some h
    refine ld_X9_chosen hR dX9_nextJoined_12 hin ?_
    refine r_iconst hR dX9_nextJoined_13 kc_iconst_1 ?_
    refine r_iadd hR dX9_nextJoined_14 ?_
    obtain ⟨hin, h⟩ := ck_some h
    obtain ⟨q_15, hq, h⟩ := bn_some h
    refine sv_X9_chosen hR dX9_nextJoined_15 hin hq ?_
    refine r_aload_n hR dX9_nextJoined_16 rfl 0 rfl ?_
    refine g_X9_chosen hR m_4_133 dX9_nextJoined_17 ?_
    refine r_iload_n hR dX9_nextJoined_20 rfl 1 rfl ?_
    obtain ⟨hin, h⟩ := ck_some h
    refine ld_X9_chosen hR dX9_nextJoined_21 hin ?_
    refine r_aload_n hR dX9_nextJoined_22 rfl 0 rfl ?_
    refine g_X9_rows hR m_4_122 dX9_nextJoined_23 ?_
    refine r_aload_n hR dX9_nextJoined_26 rfl 0 rfl ?_
    refine g_X9_members hR m_4_131 dX9_nextJoined_27 ?_
    refine r_iload_n hR dX9_nextJoined_30 rfl 1 rfl ?_
    obtain ⟨hin, h⟩ := ck_some h
    refine ld_X9_members hR dX9_nextJoined_31 hin ?_
    obtain ⟨hin, h⟩ := ck_some h
    refine ld_X9_rows hR dX9_nextJoined_32 hin ?_
    refine r_icmp_ne hR (tgt := 42) dX9_nextJoined_33 (by decide) (fun c_33 => ?_) (fun c_33 => ?_)
    · replace h := it_f c_33 h
      refine r_aload_n hR dX9_nextJoined_42 rfl 0 rfl ?_
      refine r_iload_n hR dX9_nextJoined_43 rfl 1 rfl ?_
      obtain ⟨r_44, hc, h⟩ := bd_some h
      refine r_callVi hR (c9_fitsAhead N hc) (cf_X9_164 (by decide)) ⟨m_5_122, ms_4_5⟩ (As := [.int x2]) (q0 := 0) (ci := 7) rfl rfl rfl rfl (rc_X9 ad _) (Nat.le_of_ble_eq_true rfl) rfl dX9_nextJoined_44 ?_
      refine r_if_eq hR (tgt := 2) dX9_nextJoined_47 (by decide) (fun c_47 => ?_) (fun c_47 => ?_)
      · replace h := it_t c_47 h
        exact r_sub hR [0, 1] rfl (hbk2 _ _ h)
      · replace h := it_f c_47 h
        refine r_iload_n hR dX9_nextJoined_50 rfl 1 rfl ?_
        refine r_aload_n hR dX9_nextJoined_51 rfl 0 rfl ?_
        refine g_X9_memberMany hR m_4_132 dX9_nextJoined_52 ?_
        refine r_iconst hR dX9_nextJoined_55 kc_iconst_1 ?_
        refine r_isub hR dX9_nextJoined_56 ?_
        refine r_icmp_ne hR (tgt := 62) dX9_nextJoined_57 (by decide) (fun c_57 => ?_) (fun c_57 => ?_)
        · replace h := it_f c_57 h
          obtain ⟨x2_62, hx, h⟩ := bn_some h
          refine r_iinc hR (i := 2) (lv' := [(2, .int x2_62), (0, .ref (ad 0))]) dX9_nextJoined_62 1 rfl (inc_ok hx kc_iconst_1) (by decide) rfl ?_
          refine r_aload_n hR dX9_nextJoined_65 rfl 1 rfl ?_
          refine g_X9_chosen hR m_4_133 dX9_nextJoined_66 ?_
          refine r_iload_n hR dX9_nextJoined_69 rfl 0 rfl ?_
          refine r_iconst hR dX9_nextJoined_70 kc_iconst_m1 ?_
          obtain ⟨hin, h⟩ := ck_some h
          obtain ⟨q_71, hq, h⟩ := bn_some h
          refine sv_X9_chosen hR dX9_nextJoined_71 hin hq ?_
          refine r_goto hR (tgt := 2) dX9_nextJoined_72 (by decide) ?_
          exact r_sub hR [1, 0] rfl (hbk2 _ _ h)
        · replace h := it_t c_57 h
          refine r_iconst hR dX9_nextJoined_60 kc_iconst_1 ?_
          exact r_zret hR dX9_nextJoined_61 rfl (Or.inr rfl) (rt2 hP h)
    · replace h := it_t c_33 h
      obtain ⟨x2_36, hx, h⟩ := bn_some h
      refine r_iinc hR (i := 2) (lv' := [(2, .int x2_36), (0, .ref (ad 0))]) dX9_nextJoined_36 1 rfl (inc_ok hx kc_iconst_m1) (by decide) rfl ?_
      refine r_goto hR (tgt := 2) dX9_nextJoined_39 (by decide) ?_
      exact r_sub hR [1, 0] rfl (hbk2 _ _ h)
theorem t9_nextJoined_l2 (hR : Rl wM 3 RX9 cX9_nextJoined 3 (some .boolean) ad J P) (N : Nat) {r : Int32} {q2 : SS} (hP : P (some (.int r)) q2) : ∀ (n : Nat) (x2 : Int32) (q : SS), f9_nextJoined_l2 N n x2 q = some (r, q2) → J [(0, .ref (ad 0)), (2, .int x2)] [] q 2 := by
  intro n
  induction n with
  | zero => intro x2 q h; exact mu_noneF h
  | succ n ih => intro x2 q h; exact t9_nextJoined_l2_B hR N hP _ ih x2 q h
theorem t9_nextJoined (hR : Rl wM 3 RX9 cX9_nextJoined 3 (some .boolean) ad J P) (N : Nat) {r : Int32} {q2 : SS} (hP : P (some (.int r)) q2) (x1 : Int32) (q : SS) (h : f9_nextJoined N x1 q = some (r, q2)) : J [(0, .ref (ad 0)), (1, .int x1)] [] q 0 := by
  unfold f9_nextJoined at h
  refine r_iload_n hR dX9_nextJoined_0 rfl 1 rfl ?_
  refine r_istore_n hR (i := 2) (lv' := [(2, .int x1), (0, .ref (ad 0)), (1, .int x1)]) dX9_nextJoined_1 rfl rfl (by decide) rfl ?_
  exact r_sub hR [1, 0] rfl (t9_nextJoined_l2 hR N hP N _ _ h)
theorem c9_nextJoined (N : Nat) {x1 : Int32} {q : SS} {r : Int32} {q2 : SS} (h : f9_nextJoined N x1 q = some (r, q2)) : Ct wM 3 yX9_nextJoined cX9_nextJoined 3 (some .boolean) (fun ad => [.ref (ad 0), .int x1]) q (fun _ => some (.int r)) q2 :=
  ct_of (by decide) (fun _ => Nat.le_of_ble_eq_true rfl) (fun ad J hR => t9_nextJoined hR N ⟨rfl, rfl⟩ x1 q h)
theorem t9_firstJoined (hR : Rl wM 4 RX9 cX9_firstJoined 2 (some .boolean) ad J P) (N : Nat) {r : Int32} {q2 : SS} (hP : P (some (.int r)) q2) (x1 : Int32) (q : SS) (h : f9_firstJoined N x1 q = some (r, q2)) : J [(0, .ref (ad 0)), (1, .int x1)] [] q 0 := by
  unfold f9_firstJoined at h
  refine r_aload_n hR dX9_firstJoined_0 rfl 0 rfl ?_
  refine r_iload_n hR dX9_firstJoined_1 rfl 1 rfl ?_
  obtain ⟨q_2, hc, h⟩ := bd_some h
  refine r_callVv hR (c9_takeMembers N hc) (cf_X9_167 (by decide)) ⟨m_5_114, ms_4_3⟩ (As := [.int x1]) (q0 := 0) (ci := 7) rfl rfl rfl rfl (rc_X9 ad _) (Nat.le_of_ble_eq_true rfl) rfl dX9_firstJoined_2 ?_
  refine r_aload_n hR dX9_firstJoined_5 rfl 0 rfl ?_
  refine g_X9_chosen hR m_4_133 dX9_firstJoined_6 ?_
  refine r_iconst hR dX9_firstJoined_9 kc_iconst_0 ?_
  refine r_iconst hR dX9_firstJoined_10 kc_iconst_m1 ?_
  obtain ⟨q_11, hq, h⟩ := bn_some h
  refine sv_X9_chosen hR dX9_firstJoined_11 (show ¬ ((0 : Int32) < 0 ∨ 6 ≤ Int32.toNatClampNeg (0 : Int32)) by decide) hq ?_
  refine r_aload_n hR dX9_firstJoined_12 rfl 0 rfl ?_
  refine r_iconst hR dX9_firstJoined_13 kc_iconst_0 ?_
  obtain ⟨r_14, q_14, hc, h⟩ := bd2_some h
  refine r_callVi hR (c9_nextJoined N hc) (cf_X9_171 (by decide)) ⟨m_5_118, ms_4_4⟩ (As := [.int (0 : Int32)]) (q0 := 0) (ci := 7) rfl rfl rfl rfl (rc_X9 ad _) (Nat.le_of_ble_eq_true rfl) rfl dX9_firstJoined_14 ?_
  obtain ⟨hz, h⟩ := cz_some h
  exact r_zret hR dX9_firstJoined_17 rfl hz (rt2 hP h)
theorem c9_firstJoined (N : Nat) {x1 : Int32} {q : SS} {r : Int32} {q2 : SS} (h : f9_firstJoined N x1 q = some (r, q2)) : Ct wM 4 yX9_firstJoined cX9_firstJoined 2 (some .boolean) (fun ad => [.ref (ad 0), .int x1]) q (fun _ => some (.int r)) q2 :=
  ct_of (by decide) (fun _ => Nat.le_of_ble_eq_true rfl) (fun ad J hR => t9_firstJoined hR N ⟨rfl, rfl⟩ x1 q h)
theorem t9_countAll_b61 (hR : Rl wM 5 RX9 cX9_countAll 4 none ad J P) (N : Nat) {q2 : SS} (hP : P none q2) (q : SS) (h : f9_countAll_b61 N q = some q2) : J [(0, .ref (ad 0))] [] q 61 := by
  unfold f9_countAll_b61 at h
  refine r_aload_n hR dX9_countAll_61 rfl 0 rfl ?_
  refine r_iconst hR dX9_countAll_62 kc_iconst_1 ?_
  obtain ⟨q_63, hq, h⟩ := bn_some h
  refine p_X9_isCounted hR m_4_129 dX9_countAll_63 (Or.inr rfl) hq ?_
  exact r_vret hR dX9_countAll_66 rfl (rtv hP h)
theorem t9_countAll_l27_B (hR : Rl wM 5 RX9 cX9_countAll 4 none ad J P) (N : Nat) {q2 : SS} (hP : P none q2) (bk2 : Int32 → SS → Option SS) (hbk2 : ∀ (x1 : Int32) (q : SS), bk2 x1 q = some q2 → J [(0, .ref (ad 0)), (1, .int x1)] [] q 2) (bk27 : Int32 → Int32 → Int32 → SS → Option SS) (hbk27 : ∀ (x1 : Int32) (x2 : Int32) (x3 : Int32) (q : SS), bk27 x1 x2 x3 q = some q2 → J [(0, .ref (ad 0)), (1, .int x1), (2, .int x2), (3, .int x3)] [] q 27) (x1 : Int32) (x2 : Int32) (x3 : Int32) (q : SS) (h : f9_countAll_l27_B N bk2 bk27 x1 x2 x3 q = some q2) : J [(0, .ref (ad 0)), (1, .int x1), (2, .int x2), (3, .int x3)] [] q 27 := by
  unfold f9_countAll_l27_B at h
  refine r_iload_n hR dX9_countAll_27 rfl 3 rfl ?_
  refine r_if_eq hR (tgt := 48) dX9_countAll_28 (by decide) (fun c_28 => ?_) (fun c_28 => ?_)
  · replace h := it_t c_28 h
    refine r_aload_n hR dX9_countAll_48 rfl 0 rfl ?_
    refine g_X9_trueSizes hR m_4_130 dX9_countAll_49 ?_
    refine r_iload_n hR dX9_countAll_52 rfl 1 rfl ?_
    refine r_iload_n hR dX9_countAll_53 rfl 2 rfl ?_
    obtain ⟨hin, h⟩ := ck_some h
    obtain ⟨q_54, hq, h⟩ := bn_some h
    refine sv_X9_trueSizes hR dX9_countAll_54 hin hq ?_
    obtain ⟨x1_55, hx, h⟩ := bn_some h
    refine r_iinc hR (i := 1) (lv' := [(1, .int x1_55), (0, .ref (ad 0)), (2, .int x2), (3, .int x3)]) dX9_countAll_55 1 rfl (inc_ok hx kc_iconst_1) (by decide) rfl ?_
    refine r_goto hR (tgt := 2) dX9_countAll_58 (by decide) ?_
    exact r_sub hR [1, 0] rfl (hbk2 _ _ h)
  · replace h := it_f c_28 h
    obtain ⟨x2_31, hx, h⟩ := bn_some h
    refine r_iinc hR (i := 2) (lv' := [(2, .int x2_31), (0, .ref (ad 0)), (1, .int x1), (3, .int x3)]) dX9_countAll_31 2 rfl (inc_ok hx kc_iconst_1) (by decide) rfl ?_
    refine r_aload_n hR dX9_countAll_34 rfl 1 rfl ?_
    refine r_aload_n hR dX9_countAll_35 rfl 1 rfl ?_
    refine g_X9_memberMany hR m_4_132 dX9_countAll_36 ?_
    refine r_iconst hR dX9_countAll_39 kc_iconst_1 ?_
    refine r_isub hR dX9_countAll_40 ?_
    obtain ⟨r_41, q_41, hc, h⟩ := bd2_some h
    refine r_callVi hR (c9_nextJoined N hc) (cf_X9_171 (by decide)) ⟨m_5_118, ms_4_4⟩ (As := [.int ((fi q 4) - (1 : Int32))]) (q0 := 0) (ci := 7) rfl rfl rfl rfl (rc_X9 ad _) (Nat.le_of_ble_eq_true rfl) rfl dX9_countAll_41 ?_
    refine r_istore_n hR (i := 3) (lv' := [(3, .int r_41), (2, .int x2_31), (0, .ref (ad 0)), (1, .int x1)]) dX9_countAll_44 rfl rfl (by decide) rfl ?_
    refine r_goto hR (tgt := 27) dX9_countAll_45 (by decide) ?_
    exact r_sub hR [2, 3, 1, 0] rfl (hbk27 _ _ _ _ h)
theorem t9_countAll_l27 (hR : Rl wM 5 RX9 cX9_countAll 4 none ad J P) (N : Nat) {q2 : SS} (hP : P none q2) (bk2 : Int32 → SS → Option SS) (hbk2 : ∀ (x1 : Int32) (q : SS), bk2 x1 q = some q2 → J [(0, .ref (ad 0)), (1, .int x1)] [] q 2) : ∀ (n : Nat) (x1 : Int32) (x2 : Int32) (x3 : Int32) (q : SS), f9_countAll_l27 N bk2 n x1 x2 x3 q = some q2 → J [(0, .ref (ad 0)), (1, .int x1), (2, .int x2), (3, .int x3)] [] q 27 := by
  intro n
  induction n with
  | zero => intro x1 x2 x3 q h; exact mu_noneF h
  | succ n ih => intro x1 x2 x3 q h; exact t9_countAll_l27_B hR N hP bk2 hbk2 _ ih x1 x2 x3 q h
theorem t9_countAll_l2_B (hR : Rl wM 5 RX9 cX9_countAll 4 none ad J P) (N : Nat) {q2 : SS} (hP : P none q2) (bk2 : Int32 → SS → Option SS) (hbk2 : ∀ (x1 : Int32) (q : SS), bk2 x1 q = some q2 → J [(0, .ref (ad 0)), (1, .int x1)] [] q 2) (x1 : Int32) (q : SS) (h : f9_countAll_l2_B N bk2 x1 q = some q2) : J [(0, .ref (ad 0)), (1, .int x1)] [] q 2 := by
  unfold f9_countAll_l2_B at h
  refine r_iload_n hR dX9_countAll_2 rfl 1 rfl ?_
  refine r_iconst hR dX9_countAll_3 kc_iconst_1 ?_
  refine r_aload_n hR dX9_countAll_4 rfl 0 rfl ?_
  refine g_X9_tables hR m_4_119 dX9_countAll_5 ?_
  refine r_ishl hR dX9_countAll_8 ?_
  refine r_icmp_ge hR (tgt := 61) dX9_countAll_9 (by decide) (fun c_9 => ?_) (fun c_9 => ?_)
  · replace h := it_t c_9 h
    exact r_sub hR [0] rfl (t9_countAll_b61 hR N hP _ h)
  · replace h := it_f c_9 h
    refine r_aload_n hR dX9_countAll_12 rfl 0 rfl ?_
    refine g_X9_isCounted hR m_4_129 dX9_countAll_13 ?_
    refine r_if_ne hR (tgt := 61) dX9_countAll_16 (by decide) (fun c_16 => ?_) (fun c_16 => ?_)
    · replace h := it_f c_16 h
      exact r_sub hR [0] rfl (t9_countAll_b61 hR N hP _ h)
    · replace h := it_t c_16 h
      refine r_iconst hR dX9_countAll_19 kc_iconst_0 ?_
      refine r_istore_n hR (i := 2) (lv' := [(2, .int (0 : Int32)), (0, .ref (ad 0)), (1, .int x1)]) dX9_countAll_20 rfl rfl (by decide) rfl ?_
      refine r_aload_n hR dX9_countAll_21 rfl 1 rfl ?_
      refine r_iload_n hR dX9_countAll_22 rfl 2 rfl ?_
      obtain ⟨r_23, q_23, hc, h⟩ := bd2_some h
      refine r_callVi hR (c9_firstJoined N hc) (cf_X9_174 (by decide)) ⟨m_5_110, ms_4_2⟩ (As := [.int x1]) (q0 := 0) (ci := 7) rfl rfl rfl rfl (rc_X9 ad _) (Nat.le_of_ble_eq_true rfl) rfl dX9_countAll_23 ?_
      refine r_istore_n hR (i := 3) (lv' := [(3, .int r_23), (2, .int (0 : Int32)), (0, .ref (ad 0)), (1, .int x1)]) dX9_countAll_26 rfl rfl (by decide) rfl ?_
      exact r_sub hR [2, 3, 1, 0] rfl (t9_countAll_l27 hR N hP bk2 hbk2 N _ _ _ _ h)
theorem t9_countAll_l2 (hR : Rl wM 5 RX9 cX9_countAll 4 none ad J P) (N : Nat) {q2 : SS} (hP : P none q2) : ∀ (n : Nat) (x1 : Int32) (q : SS), f9_countAll_l2 N n x1 q = some q2 → J [(0, .ref (ad 0)), (1, .int x1)] [] q 2 := by
  intro n
  induction n with
  | zero => intro x1 q h; exact mu_noneF h
  | succ n ih => intro x1 q h; exact t9_countAll_l2_B hR N hP _ ih x1 q h
theorem t9_countAll (hR : Rl wM 5 RX9 cX9_countAll 4 none ad J P) (N : Nat) {q2 : SS} (hP : P none q2) (q : SS) (h : f9_countAll N q = some q2) : J [(0, .ref (ad 0))] [] q 0 := by
  unfold f9_countAll at h
  refine r_iconst hR dX9_countAll_0 kc_iconst_1 ?_
  refine r_istore_n hR (i := 1) (lv' := [(1, .int (1 : Int32)), (0, .ref (ad 0))]) dX9_countAll_1 rfl rfl (by decide) rfl ?_
  exact r_sub hR [1, 0] rfl (t9_countAll_l2 hR N hP N _ _ h)
theorem c9_countAll (N : Nat) {q : SS} {q2 : SS} (h : f9_countAll N q = some q2) : Ct wM 5 yX9_countAll cX9_countAll 4 none (fun ad => [.ref (ad 0)]) q (fun _ => none) q2 :=
  ct_of (by decide) (fun _ => Nat.le_of_ble_eq_true rfl) (fun ad J hR => t9_countAll hR N ⟨rfl, rfl⟩ q h)
theorem t9_trueSize (hR : Rl wM 6 RX9 cX9_trueSize 2 (some .int) ad J P) (N : Nat) {r : Int32} {q2 : SS} (hP : P (some (.int r)) q2) (x1 : Int32) (q : SS) (h : f9_trueSize N x1 q = some (r, q2)) : J [(0, .ref (ad 0)), (1, .int x1)] [] q 0 := by
  unfold f9_trueSize at h
  refine r_aload_n hR dX9_trueSize_0 rfl 0 rfl ?_
  obtain ⟨q_1, hc, h⟩ := bd_some h
  refine r_callVv hR (c9_countAll N hc) (cf_X9_177 (by decide)) ⟨m_5_106, ms_4_1⟩ (As := []) (q0 := 0) (ci := 7) rfl rfl rfl rfl (rc_X9 ad _) (Nat.le_of_ble_eq_true rfl) rfl dX9_trueSize_1 ?_
  refine r_aload_n hR dX9_trueSize_4 rfl 0 rfl ?_
  refine g_X9_trueSizes hR m_4_130 dX9_trueSize_5 ?_
  refine r_iload_n hR dX9_trueSize_8 rfl 1 rfl ?_
  obtain ⟨hin, h⟩ := ck_some h
  refine ld_X9_trueSizes hR dX9_trueSize_9 hin ?_
  exact r_iret hR dX9_trueSize_10 rfl (rt2 hP h)
theorem c9_trueSize (N : Nat) {x1 : Int32} {q : SS} {r : Int32} {q2 : SS} (h : f9_trueSize N x1 q = some (r, q2)) : Ct wM 6 yX9_trueSize cX9_trueSize 2 (some .int) (fun ad => [.ref (ad 0), .int x1]) q (fun _ => some (.int r)) q2 :=
  ct_of (by decide) (fun _ => Nat.le_of_ble_eq_true rfl) (fun ad J hR => t9_trueSize hR N ⟨rfl, rfl⟩ x1 q h)
end
