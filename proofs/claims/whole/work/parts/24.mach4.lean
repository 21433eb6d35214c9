section
variable {ad : Nat → Nat} {J : JT} {P : PT} {ld : Nat}
theorem t8_joined (hR : Rl wC 13 RX8 cX8_joined 5 (some .int) ad J P) (N : Nat) {r : Int32} {q2 : SS} (hP : P (some (.int r)) q2) (x1 : Int32) (x2 : Int32) (x3 : Int32) (q : SS) (h : f8_joined N x1 x2 x3 q = some (r, q2)) : J [(0, .ref (ad 0)), (1, .int x1), (2, .int x2), (3, .int x3)] [] q 0 := by
  unfold f8_joined at h
  refine r_aload_n hR dX8_joined_0 rfl 0 rfl ?_
  refine r_iload_n hR dX8_joined_1 rfl 1 rfl ?_
  refine r_iload_n hR dX8_joined_2 rfl 3 rfl ?_
  obtain ⟨r_3, hc, h⟩ := bd_some h
  refine r_callVi hR (c8_refusalOfMember hc) (cf_X8_147 (by decide)) ⟨m_2_217, ms_1_9⟩ (As := [.int x1, .int x3]) (q0 := 0) (ci := 6) rfl rfl rfl rfl (rc_X8 ad _) (Nat.le_of_ble_eq_true rfl) rfl dX8_joined_3 ?_
  refine r_istore hR (i := 4) (lv' := [(4, .int r_3), (0, .ref (ad 0)), (1, .int x1), (2, .int x2), (3, .int x3)]) dX8_joined_6 rfl (by decide) rfl ?_
  refine r_iload hR dX8_joined_8 0 rfl ?_
  refine r_if_eq hR (tgt := 16) dX8_joined_10 (by decide) (fun c_10 => ?_) (fun c_10 => ?_)
  · replace h := it_t c_10 h
    refine r_aload_n hR dX8_joined_16 rfl 1 rfl ?_
    refine g_X8_matches hR m_1_202 dX8_joined_17 ?_
    refine r_iload_n hR dX8_joined_20 rfl 2 rfl ?_
    refine r_iload_n hR dX8_joined_21 rfl 3 rfl ?_
    obtain ⟨r_22, q_22, hc, h⟩ := bd2_some h
    refine r_callVi hR (c3_find N hc) (cf_X8_150 (by decide)) ⟨m_2_220, m_2_221⟩ (As := [.int x1, .int x2]) (q0 := 2) (ci := 3) rfl rfl rfl rfl (rc_X3 ad _) (Nat.le_of_ble_eq_true rfl) rfl dX8_joined_22 ?_
    refine r_if_eq hR (tgt := 39) dX8_joined_25 (by decide) (fun c_25 => ?_) (fun c_25 => ?_)
    · replace h := it_t c_25 h
      refine r_iconst hR dX8_joined_39 kc_iconst_m1 ?_
      exact r_iret hR dX8_joined_40 rfl (rt2 hP h)
    · replace h := it_f c_25 h
      refine r_aload_n hR dX8_joined_28 rfl 1 rfl ?_
      refine g_X8_matches hR m_1_202 dX8_joined_29 ?_
      refine r_iload_n hR dX8_joined_32 rfl 4 rfl ?_
      obtain ⟨r_33, hc, h⟩ := bd_some h
      refine r_callVi hR (c3_rowFound hc) (cf_X8_153 (by decide)) ⟨m_2_228, m_2_229⟩ (As := [.int x3]) (q0 := 2) (ci := 3) rfl rfl rfl rfl (rc_X3 ad _) (Nat.le_of_ble_eq_true rfl) rfl dX8_joined_33 ?_
      refine r_goto hR (tgt := 40) dX8_joined_36 (by decide) ?_
      exact r_iret hR dX8_joined_40 rfl (rt2 hP h)
  · replace h := it_f c_10 h
    refine r_iload hR dX8_joined_13 0 rfl ?_
    exact r_iret hR dX8_joined_15 rfl (rt2 hP h)
theorem c8_joined (N : Nat) {x1 : Int32} {x2 : Int32} {x3 : Int32} {q : SS} {r : Int32} {q2 : SS} (h : f8_joined N x1 x2 x3 q = some (r, q2)) : Ct wC 13 yX8_joined cX8_joined 5 (some .int) (fun ad => [.ref (ad 0), .int x1, .int x2, .int x3]) q (fun _ => some (.int r)) q2 :=
  ct_of (by decide) (fun _ => Nat.le_of_ble_eq_true rfl) (fun ad J hR => t8_joined hR N ⟨rfl, rfl⟩ x1 x2 x3 q h)
theorem t8_value_b45 (hR : Rl wC 13 RX8 cX8_value 5 (some .int) ad J P) (N : Nat) {r : Int32} {q2 : SS} (hP : P (some (.int r)) q2) (x1 : Int32) (x2 : Int32) (x3 : Int32) (s0 : Int32) (q : SS) (h : f8_value_b45 N x1 x2 x3 s0 q = some (r, q2)) : J [(0, .ref (ad 0)), (1, .int x1), (2, .int x2), (3, .int x3)] [.int s0] q 45 := by
  unfold f8_value_b45 at h
  refine r_istore hR (i := 4) (lv' := [(4, .int s0), (0, .ref (ad 0)), (1, .int x1), (2, .int x2), (3, .int x3)]) dX8_value_45 rfl (by decide) rfl ?_
  refine r_iload hR dX8_value_47 0 rfl ?_
  refine r_if_eq hR (tgt := 76) dX8_value_49 (by decide) (fun c_49 => ?_) (fun c_49 => ?_)
  · replace h := it_t c_49 h
    refine r_iconst hR dX8_value_76 kc_iconst_m1 ?_
    exact r_iret hR dX8_value_77 rfl (rt2 hP h)
  · replace h := it_f c_49 h
    refine r_aload_n hR dX8_value_52 rfl 1 rfl ?_
    refine g_X8_matches hR m_1_202 dX8_value_53 ?_
    refine r_iload_n hR dX8_value_56 rfl 2 rfl ?_
    refine r_iload_n hR dX8_value_57 rfl 3 rfl ?_
    obtain ⟨r_58, q_58, hc, h⟩ := bd2_some h
    refine r_callVi hR (c3_find N hc) (cf_X8_150 (by decide)) ⟨m_2_220, m_2_221⟩ (As := [.int x1, .int x2]) (q0 := 2) (ci := 3) rfl rfl rfl rfl (rc_X3 ad _) (Nat.le_of_ble_eq_true rfl) rfl dX8_value_58 ?_
    refine r_if_eq hR (tgt := 76) dX8_value_61 (by decide) (fun c_61 => ?_) (fun c_61 => ?_)
    · replace h := it_t c_61 h
      refine r_iconst hR dX8_value_76 kc_iconst_m1 ?_
      exact r_iret hR dX8_value_77 rfl (rt2 hP h)
    · replace h := it_f c_61 h
      refine r_aload_n hR dX8_value_64 rfl 1 rfl ?_
      refine g_X8_matches hR m_1_202 dX8_value_65 ?_
      refine r_iload_n hR dX8_value_68 rfl 2 rfl ?_
      refine r_iload_n hR dX8_value_69 rfl 4 rfl ?_
      obtain ⟨r_70, hc, h⟩ := bd_some h
      refine r_callVi hR (c3_numberFound N hc) (cf_X8_159 (by decide)) ⟨m_2_237, m_2_238⟩ (As := [.int x1, .int x3]) (q0 := 2) (ci := 3) rfl rfl rfl rfl (rc_X3 ad _) (Nat.le_of_ble_eq_true rfl) rfl dX8_value_70 ?_
      refine r_goto hR (tgt := 77) dX8_value_73 (by decide) ?_
      exact r_iret hR dX8_value_77 rfl (rt2 hP h)
theorem t8_value (hR : Rl wC 13 RX8 cX8_value 5 (some .int) ad J P) (N : Nat) {r : Int32} {q2 : SS} (hP : P (some (.int r)) q2) (x1 : Int32) (x2 : Int32) (x3 : Int32) (q : SS) (h : f8_value N x1 x2 x3 q = some (r, q2)) : J [(0, .ref (ad 0)), (1, .int x1), (2, .int x2), (3, .int x3)] [] q 0 := by
  unfold f8_value at h
  refine r_aload_n hR dX8_value_0 rfl 0 rfl ?_
  refine g_X8_shelf hR m_1_201 dX8_value_1 ?_
  refine r_iload_n hR dX8_value_4 rfl 1 rfl ?_
  obtain ⟨r_5, hc, h⟩ := bd_some h
  refine r_callVi hR (c7_isSet hc) (cf_X8_135 (by decide)) ⟨m_2_137, m_2_138⟩ (As := [.int x1]) (q0 := 1) (ci := 5) rfl rfl rfl rfl (rc_X7 ad _) (Nat.le_of_ble_eq_true rfl) rfl dX8_value_5 ?_
  refine r_if_ne hR (tgt := 14) dX8_value_8 (by decide) (fun c_8 => ?_) (fun c_8 => ?_)
  · replace h := it_f c_8 h
    refine r_iload_n hR dX8_value_14 rfl 3 rfl ?_
    obtain ⟨r_15, hc, h⟩ := bd_some h
    refine r_callSi hR (c8_isLetter hc) (cf_X8_108 (by decide)) m_2_83 (As := [.int x3]) rfl rfl (Nat.le_of_ble_eq_true rfl) rfl dX8_value_15 ?_
    refine r_if_ne hR (tgt := 24) dX8_value_18 (by decide) (fun c_18 => ?_) (fun c_18 => ?_)
    · replace h := it_f c_18 h
      refine r_aload_n hR dX8_value_24 rfl 0 rfl ?_
      refine g_X8_shelf hR m_1_201 dX8_value_25 ?_
      refine r_iload_n hR dX8_value_28 rfl 1 rfl ?_
      obtain ⟨r_29, hc, h⟩ := bd_some h
      refine r_callVi hR (c7_lettersOfSet N hc) (cf_X8_156 (by decide)) ⟨m_2_175, m_2_176⟩ (As := [.int x1]) (q0 := 1) (ci := 5) rfl rfl rfl rfl (rc_X7 ad _) (Nat.le_of_ble_eq_true rfl) rfl dX8_value_29 ?_
      refine r_iload_n hR dX8_value_32 rfl 3 rfl ?_
      refine r_ishr hR dX8_value_33 ?_
      refine r_iconst hR dX8_value_34 kc_iconst_1 ?_
      refine r_iand hR dX8_value_35 ?_
      refine r_iconst hR dX8_value_36 kc_iconst_1 ?_
      refine r_icmp_ne hR (tgt := 44) dX8_value_37 (by decide) (fun c_37 => ?_) (fun c_37 => ?_)
      · replace h := it_f c_37 h
        refine r_iconst hR dX8_value_44 kc_iconst_0 ?_
        exact r_sub hR [0, 1, 2, 3] rfl (t8_value_b45 hR N hP _ _ _ _ _ h)
      · replace h := it_t c_37 h
        refine r_iconst hR dX8_value_40 kc_iconst_1 ?_
        refine r_goto hR (tgt := 45) dX8_value_41 (by decide) ?_
        exact r_sub hR [0, 1, 2, 3] rfl (t8_value_b45 hR N hP _ _ _ _ _ h)
    · replace h := it_t c_18 h
      refine r_bipush hR dX8_value_21 kc_bipush_m101 ?_
      exact r_iret hR dX8_value_23 rfl (rt2 hP h)
  · replace h := it_t c_8 h
    refine r_bipush hR dX8_value_11 kc_bipush_m102 ?_
    exact r_iret hR dX8_value_13 rfl (rt2 hP h)
theorem c8_value (N : Nat) {x1 : Int32} {x2 : Int32} {x3 : Int32} {q : SS} {r : Int32} {q2 : SS} (h : f8_value N x1 x2 x3 q = some (r, q2)) : Ct wC 13 yX8_value cX8_value 5 (some .int) (fun ad => [.ref (ad 0), .int x1, .int x2, .int x3]) q (fun _ => some (.int r)) q2 :=
  ct_of (by decide) (fun _ => Nat.le_of_ble_eq_true rfl) (fun ad J hR => t8_value hR N ⟨rfl, rfl⟩ x1 x2 x3 q h)
theorem t8_idle (hR : Rl wC 12 RX8 cX8_idle 4 (some .int) ad J P) (N : Nat) {r : Int32} {q2 : SS} (hP : P (some (.int r)) q2) (x1 : Int32) (x2 : Int32) (q : SS) (h : f8_idle N x1 x2 q = some (r, q2)) : J [(0, .ref (ad 0)), (1, .int x1), (2, .int x2)] [] q 0 := by
  unfold f8_idle at h
  refine r_aload_n hR dX8_idle_0 rfl 0 rfl ?_
  refine r_iload_n hR dX8_idle_1 rfl 1 rfl ?_
  refine r_iload_n hR dX8_idle_2 rfl 2 rfl ?_
  obtain ⟨r_3, hc, h⟩ := bd_some h
  refine r_callVi hR (c8_refusalOfMember hc) (cf_X8_147 (by decide)) ⟨m_2_217, ms_1_9⟩ (As := [.int x1, .int x2]) (q0 := 0) (ci := 6) rfl rfl rfl rfl (rc_X8 ad _) (Nat.le_of_ble_eq_true rfl) rfl dX8_idle_3 ?_
  refine r_istore_n hR (i := 3) (lv' := [(3, .int r_3), (0, .ref (ad 0)), (1, .int x1), (2, .int x2)]) dX8_idle_6 rfl rfl (by decide) rfl ?_
  refine r_iload_n hR dX8_idle_7 rfl 0 rfl ?_
  refine r_if_eq hR (tgt := 15) dX8_idle_8 (by decide) (fun c_8 => ?_) (fun c_8 => ?_)
  · replace h := it_t c_8 h
    refine r_aload_n hR dX8_idle_15 rfl 1 rfl ?_
    refine g_X8_matches hR m_1_202 dX8_idle_16 ?_
    refine r_iload_n hR dX8_idle_19 rfl 2 rfl ?_
    refine r_iload_n hR dX8_idle_20 rfl 3 rfl ?_
    obtain ⟨r_21, q_21, hc, h⟩ := bd2_some h
    refine r_callVi hR (c3_idleRows N hc) (cf_X8_162 (by decide)) ⟨m_3_6, m_3_7⟩ (As := [.int x1, .int x2]) (q0 := 2) (ci := 3) rfl rfl rfl rfl (rc_X3 ad _) (Nat.le_of_ble_eq_true rfl) rfl dX8_idle_21 ?_
    exact r_iret hR dX8_idle_24 rfl (rt2 hP h)
  · replace h := it_f c_8 h
    refine r_iload_n hR dX8_idle_11 rfl 0 rfl ?_
    refine r_goto hR (tgt := 24) dX8_idle_12 (by decide) ?_
    exact r_iret hR dX8_idle_24 rfl (rt2 hP h)
theorem c8_idle (N : Nat) {x1 : Int32} {x2 : Int32} {q : SS} {r : Int32} {q2 : SS} (h : f8_idle N x1 x2 q = some (r, q2)) : Ct wC 12 yX8_idle cX8_idle 4 (some .int) (fun ad => [.ref (ad 0), .int x1, .int x2]) q (fun _ => some (.int r)) q2 :=
  ct_of (by decide) (fun _ => Nat.le_of_ble_eq_true rfl) (fun ad J hR => t8_idle hR N ⟨rfl, rfl⟩ x1 x2 q h)
theorem t8_letters_b67 (hR : Rl wC 2 RX8 cX8_letters 7 (some .int) ad J P) (N : Nat) {r : Int32} {q2 : SS} (hP : P (some (.int r)) q2) (bk5 : Int64 → Int32 → Int32 → SS → Option (Int32 × SS)) (hbk5 : ∀ (x1 : Int64) (x3 : Int32) (x4 : Int32) (q : SS), bk5 x1 x3 x4 q = some (r, q2) → J [(0, .ref (ad 0)), (1, .long x1), (3, .int x3), (4, .int x4)] [] q 5) (x1 : Int64) (x3 : Int32) (x4 : Int32) (q : SS) (h : f8_letters_b67 N bk5 x1 x3 x4 q = some (r, q2)) : J [(0, .ref (ad 0)), (1, .long x1), (3, .int x3), (4, .int x4)] [] q 67 := by
  unfold f8_letters_b67 at h
  obtain ⟨x4_67, hx, h⟩ := bn_some h
  refine r_iinc hR (i := 4) (lv' := [(4, .int x4_67), (0, .ref (ad 0)), (1, .long x1), (3, .int x3)]) dX8_letters_67 3 rfl (inc_ok hx kc_iconst_1) (by decide) rfl ?_
  refine r_goto hR (tgt := 5) dX8_letters_70 (by decide) ?_
  exact r_sub hR [1, 2, 3, 0] rfl (hbk5 _ _ _ _ h)
theorem t8_letters_b42 (hR : Rl wC 2 RX8 cX8_letters 7 (some .int) ad J P) (N : Nat) {r : Int32} {q2 : SS} (hP : P (some (.int r)) q2) (bk5 : Int64 → Int32 → Int32 → SS → Option (Int32 × SS)) (hbk5 : ∀ (x1 : Int64) (x3 : Int32) (x4 : Int32) (q : SS), bk5 x1 x3 x4 q = some (r, q2) → J [(0, .ref (ad 0)), (1, .long x1), (3, .int x3), (4, .int x4)] [] q 5) (x1 : Int64) (x3 : Int32) (x4 : Int32) (x5 : Int32) (s0 : Int32) (q : SS) (h : f8_letters_b42 N bk5 x1 x3 x4 x5 s0 q = some (r, q2)) : J [(0, .ref (ad 0)), (1, .long x1), (3, .int x3), (4, .int x4), (5, .int x5)] [.int s0] q 42 := by
  unfold f8_letters_b42 at h
  refine r_istore hR (i := 6) (lv' := [(6, .int s0), (0, .ref (ad 0)), (1, .long x1), (3, .int x3), (4, .int x4), (5, .int x5)]) dX8_letters_42 rfl (by decide) rfl ?_
  refine r_iload hR dX8_letters_44 5 rfl ?_
  refine r_bipush hR dX8_letters_46 kc_bipush_126 ?_
  refine r_icmp_gt hR (tgt := 56) dX8_letters_48 (by decide) (fun c_48 => ?_) (fun c_48 => ?_)
  · replace h := it_t c_48 h
    refine r_bipush hR dX8_letters_56 kc_bipush_m102 ?_
    exact r_iret hR dX8_letters_58 rfl (rt2 hP h)
  · replace h := it_f c_48 h
    refine r_iload hR dX8_letters_51 0 rfl ?_
    refine r_if_eq hR (tgt := 59) dX8_letters_53 (by decide) (fun c_53 => ?_) (fun c_53 => ?_)
    · replace h := it_t c_53 h
      refine r_iload hR dX8_letters_59 5 rfl ?_
      refine r_if_eq hR (tgt := 67) dX8_letters_61 (by decide) (fun c_61 => ?_) (fun c_61 => ?_)
      · replace h := it_t c_61 h
        exact r_sub hR [1, 2, 3, 4] rfl (t8_letters_b67 hR N hP bk5 hbk5 _ _ _ _ h)
      · replace h := it_f c_61 h
        obtain ⟨x3_64, hx, h⟩ := bn_some h
        refine r_iinc hR (i := 3) (lv' := [(3, .int x3_64), (6, .int s0), (0, .ref (ad 0)), (1, .long x1), (4, .int x4), (5, .int x5)]) dX8_letters_64 3 rfl (inc_ok hx kc_iconst_1) (by decide) rfl ?_
        exact r_sub hR [2, 3, 0, 4] rfl (t8_letters_b67 hR N hP bk5 hbk5 _ _ _ _ h)
    · replace h := it_f c_53 h
      refine r_bipush hR dX8_letters_56 kc_bipush_m102 ?_
      exact r_iret hR dX8_letters_58 rfl (rt2 hP h)
theorem t8_letters_b41 (hR : Rl wC 2 RX8 cX8_letters 7 (some .int) ad J P) (N : Nat) {r : Int32} {q2 : SS} (hP : P (some (.int r)) q2) (bk5 : Int64 → Int32 → Int32 → SS → Option (Int32 × SS)) (hbk5 : ∀ (x1 : Int64) (x3 : Int32) (x4 : Int32) (q : SS), bk5 x1 x3 x4 q = some (r, q2) → J [(0, .ref (ad 0)), (1, .long x1), (3, .int x3), (4, .int x4)] [] q 5) (x1 : Int64) (x3 : Int32) (x4 : Int32) (x5 : Int32) (q : SS) (h : f8_letters_b41 N bk5 x1 x3 x4 x5 q = some (r, q2)) : J [(0, .ref (ad 0)), (1, .long x1), (3, .int x3), (4, .int x4), (5, .int x5)] [] q 41 := by
  unfold f8_letters_b41 at h
  refine r_iconst hR dX8_letters_41 kc_iconst_0 ?_
  exact r_sub hR [0, 1, 2, 3, 4] rfl (t8_letters_b42 hR N hP bk5 hbk5 _ _ _ _ _ _ h)
theorem t8_letters_l5_B (hR : Rl wC 2 RX8 cX8_letters 7 (some .int) ad J P) (N : Nat) {r : Int32} {q2 : SS} (hP : P (some (.int r)) q2) (bk5 : Int64 → Int32 → Int32 → SS → Option (Int32 × SS)) (hbk5 : ∀ (x1 : Int64) (x3 : Int32) (x4 : Int32) (q : SS), bk5 x1 x3 x4 q = some (r, q2) → J [(0, .ref (ad 0)), (1, .long x1), (3, .int x3), (4, .int x4)] [] q 5) (x1 : Int64) (x3 : Int32) (x4 : Int32) (q : SS) (h : f8_letters_l5_B N bk5 x1 x3 x4 q = some (r, q2)) : J [(0, .ref (ad 0)), (1, .long x1), (3, .int x3), (4, .int x4)] [] q 5 := by
  unfold f8_letters_l5_B at h
  refine r_iload hR dX8_letters_5 3 rfl ?_
  refine r_bipush hR dX8_letters_7 kc_bipush_8 ?_
  refine r_icmp_ge hR (tgt := 73) dX8_letters_9 (by decide) (fun c_9 => ?_) (fun c_9 => ?_)
  · replace h := it_t c_9 h
    refine r_aload_n hR dX8_letters_73 rfl 0 rfl ?_
    refine g_X8_sheet hR m_1_203 dX8_letters_74 ?_
    refine r_lload_n hR dX8_letters_77 rfl 1 rfl ?_
    refine r_iload_n hR dX8_letters_78 rfl 2 rfl ?_
    obtain ⟨r_79, q_79, hc, h⟩ := bd2_some h
    refine r_callVi hR (c6_append N hc) (cf_X8_167 (by decide)) ⟨m_3_15, m_3_16⟩ (As := [.long x1, .int x3]) (q0 := 3) (ci := 4) rfl rfl rfl rfl (rc_X6 ad _) (Nat.le_of_ble_eq_true rfl) rfl dX8_letters_79 ?_
    exact r_iret hR dX8_letters_82 rfl (rt2 hP h)
  · replace h := it_f c_9 h
    refine r_lload_n hR dX8_letters_12 rfl 1 rfl ?_
    refine r_bipush hR dX8_letters_13 kc_bipush_8 ?_
    refine r_iload hR dX8_letters_15 3 rfl ?_
    refine r_imul hR dX8_letters_17 ?_
    refine r_lushr hR dX8_letters_18 ?_
    refine r_ldc2 hR dX8_letters_19 m_3_13 ?_
    refine r_land hR dX8_letters_22 ?_
    refine r_l2i hR dX8_letters_23 ?_
    obtain ⟨x5_24, hx, h⟩ := bn_some h
    refine r_istore hR (i := 5) (lv' := [(5, .int x5_24), (0, .ref (ad 0)), (1, .long x1), (3, .int x3), (4, .int x4)]) dX8_letters_24 hx (by decide) rfl ?_
    refine r_iload hR dX8_letters_26 0 rfl ?_
    refine r_if_eq hR (tgt := 41) dX8_letters_28 (by decide) (fun c_28 => ?_) (fun c_28 => ?_)
    · replace h := it_t c_28 h
      exact r_sub hR [1, 2, 3, 4, 0] rfl (t8_letters_b41 hR N hP bk5 hbk5 _ _ _ _ _ h)
    · replace h := it_f c_28 h
      refine r_iload_n hR dX8_letters_31 rfl 3 rfl ?_
      refine r_iload hR dX8_letters_32 4 rfl ?_
      refine r_icmp_ge hR (tgt := 41) dX8_letters_34 (by decide) (fun c_34 => ?_) (fun c_34 => ?_)
      · replace h := it_t c_34 h
        exact r_sub hR [1, 2, 3, 4, 0] rfl (t8_letters_b41 hR N hP bk5 hbk5 _ _ _ _ _ h)
      · replace h := it_f c_34 h
        refine r_iconst hR dX8_letters_37 kc_iconst_1 ?_
        refine r_goto hR (tgt := 42) dX8_letters_38 (by decide) ?_
        exact r_sub hR [1, 2, 3, 4, 0] rfl (t8_letters_b42 hR N hP bk5 hbk5 _ _ _ _ _ _ h)
theorem t8_letters_l5 (hR : Rl wC 2 RX8 cX8_letters 7 (some .int) ad J P) (N : Nat) {r : Int32} {q2 : SS} (hP : P (some (.int r)) q2) : ∀ (n : Nat) (x1 : Int64) (x3 : Int32) (x4 : Int32) (q : SS), f8_letters_l5 N n x1 x3 x4 q = some (r, q2) → J [(0, .ref (ad 0)), (1, .long x1), (3, .int x3), (4, .int x4)] [] q 5 := by
  intro n
  induction n with
  | zero => intro x1 x3 x4 q h; exact mu_noneF h
  | succ n ih => intro x1 x3 x4 q h; exact t8_letters_l5_B hR N hP _ ih x1 x3 x4 q h
theorem t8_letters (hR : Rl wC 2 RX8 cX8_letters 7 (some .int) ad J P) (N : Nat) {r : Int32} {q2 : SS} (hP : P (some (.int r)) q2) (x1 : Int64) (q : SS) (h : f8_letters N x1 q = some (r, q2)) : J [(0, .ref (ad 0)), (1, .long x1)] [] q 0 := by
  unfold f8_letters at h
  refine r_iconst hR dX8_letters_0 kc_iconst_0 ?_
  refine r_istore_n hR (i := 3) (lv' := [(3, .int (0 : Int32)), (0, .ref (ad 0)), (1, .long x1)]) dX8_letters_1 rfl rfl (by decide) rfl ?_
  refine r_iconst hR dX8_letters_2 kc_iconst_0 ?_
  refine r_istore hR (i := 4) (lv' := [(4, .int (0 : Int32)), (3, .int (0 : Int32)), (0, .ref (ad 0)), (1, .long x1)]) dX8_letters_3 rfl (by decide) rfl ?_
  exact r_sub hR [2, 3, 1, 0] rfl (t8_letters_l5 hR N hP N _ _ _ _ h)
theorem c8_letters (N : Nat) {x1 : Int64} {q : SS} {r : Int32} {q2 : SS} (h : f8_letters N x1 q = some (r, q2)) : Ct wC 2 yX8_letters cX8_letters 7 (some .int) (fun ad => [.ref (ad 0), .long x1]) q (fun _ => some (.int r)) q2 :=
  ct_of (by decide) (fun _ => Nat.le_of_ble_eq_true rfl) (fun ad J hR => t8_letters hR N ⟨rfl, rfl⟩ x1 q h)
theorem t8_blank (hR : Rl wC 2 RX8 cX8_blank 1 (some .int) ad J P) {r : Int32} {q2 : SS} (hP : P (some (.int r)) q2) (q : SS) (h : f8_blank q = some (r, q2)) : J [(0, .ref (ad 0))] [] q 0 := by
  unfold f8_blank at h
  refine r_aload_n hR dX8_blank_0 rfl 0 rfl ?_
  refine g_X8_sheet hR m_1_203 dX8_blank_1 ?_
  obtain ⟨r_4, q_4, hc, h⟩ := bd2_some h
  refine r_callVi hR (c6_wipe hc) (cf_X8_171 (by decide)) ⟨m_3_24, m_3_25⟩ (As := []) (q0 := 3) (ci := 4) rfl rfl rfl rfl (rc_X6 ad _) (Nat.le_of_ble_eq_true rfl) rfl dX8_blank_4 ?_
  exact r_iret hR dX8_blank_7 rfl (rt2 hP h)
theorem c8_blank {q : SS} {r : Int32} {q2 : SS} (h : f8_blank q = some (r, q2)) : Ct wC 2 yX8_blank cX8_blank 1 (some .int) (fun ad => [.ref (ad 0)]) q (fun _ => some (.int r)) q2 :=
  ct_of (by decide) (fun _ => Nat.le_of_ble_eq_true rfl) (fun ad J hR => t8_blank hR ⟨rfl, rfl⟩ q h)
theorem t8_good (hR : Rl wC 5 RX8 cX8_good 1 (some .int) ad J P) (N : Nat) {r : Int32} {q2 : SS} (hP : P (some (.int r)) q2) (q : SS) (h : f8_good N q = some (r, q2)) : J [(0, .ref (ad 0))] [] q 0 := by
  unfold f8_good at h
  refine r_aload_n hR dX8_good_0 rfl 0 rfl ?_
  refine g_X8_sheet hR m_1_203 dX8_good_1 ?_
  refine r_aload_n hR dX8_good_4 rfl 0 rfl ?_
  refine g_X8_shelf hR m_1_201 dX8_good_5 ?_
  obtain ⟨r_8, hc, h⟩ := bd_some h
  refine r_callVi hR (c7_tablesMade hc) (cf_X8_175 (by decide)) ⟨m_3_32, m_3_33⟩ (As := []) (q0 := 1) (ci := 5) rfl rfl rfl rfl (rc_X7 ad _) (Nat.le_of_ble_eq_true rfl) rfl dX8_good_8 ?_
  obtain ⟨r_11, q_11, hc, h⟩ := bd2_some h
  refine r_callVi hR (c6_readable N hc) (cf_X8_178 (by decide)) ⟨m_3_36, m_3_37⟩ (As := [.int r_8]) (q0 := 3) (ci := 4) rfl rfl rfl rfl (rc_X6 ad _) (Nat.le_of_ble_eq_true rfl) rfl dX8_good_11 ?_
  exact r_iret hR dX8_good_14 rfl (rt2 hP h)
theorem c8_good (N : Nat) {q : SS} {r : Int32} {q2 : SS} (h : f8_good N q = some (r, q2)) : Ct wC 5 yX8_good cX8_good 1 (some .int) (fun ad => [.ref (ad 0)]) q (fun _ => some (.int r)) q2 :=
  ct_of (by decide) (fun _ => Nat.le_of_ble_eq_true rfl) (fun ad J hR => t8_good hR N ⟨rfl, rfl⟩ q h)
theorem t8_plan (hR : Rl wC 14 RX8 cX8_plan 3 (some .int) ad J P) (N : Nat) {r : Int32} {q2 : SS} (hP : P (some (.int r)) q2) (x1 : Int32) (x2 : Int32) (q : SS) (h : f8_plan N x1 x2 q = some (r, q2)) : J [(0, .ref (ad 0)), (1, .int x1), (2, .int x2)] [] q 0 := by
  unfold f8_plan at h
  refine r_iload_n hR dX8_plan_0 rfl 1 rfl ?_
  obtain ⟨r_1, hc, h⟩ := bd_some h
  refine r_callSi hR (c8_isBy hc) (cf_X8_138 (by decide)) m_2_141 (As := [.int x1]) rfl rfl (Nat.le_of_ble_eq_true rfl) rfl dX8_plan_1 ?_
  refine r_if_eq hR (tgt := 16) dX8_plan_4 (by decide) (fun c_4 => ?_) (fun c_4 => ?_)
  · replace h := it_t c_4 h
    refine r_bipush hR dX8_plan_16 kc_bipush_m102 ?_
    exact r_iret hR dX8_plan_18 rfl (rt2 hP h)
  · replace h := it_f c_4 h
    refine r_iload_n hR dX8_plan_7 rfl 2 rfl ?_
    refine r_if_lt hR (tgt := 16) dX8_plan_8 (by decide) (fun c_8 => ?_) (fun c_8 => ?_)
    · replace h := it_t c_8 h
      refine r_bipush hR dX8_plan_16 kc_bipush_m102 ?_
      exact r_iret hR dX8_plan_18 rfl (rt2 hP h)
    · replace h := it_f c_8 h
      refine r_iload_n hR dX8_plan_11 rfl 2 rfl ?_
      refine r_iconst hR dX8_plan_12 kc_iconst_3 ?_
      refine r_icmp_le hR (tgt := 19) dX8_plan_13 (by decide) (fun c_13 => ?_) (fun c_13 => ?_)
      · replace h := it_t c_13 h
        refine r_aload_n hR dX8_plan_19 rfl 0 rfl ?_
        refine g_X8_sheet hR m_1_203 dX8_plan_20 ?_
        refine r_aload_n hR dX8_plan_23 rfl 0 rfl ?_
        refine g_X8_shelf hR m_1_201 dX8_plan_24 ?_
        obtain ⟨r_27, hc, h⟩ := bd_some h
        refine r_callVi hR (c7_tablesMade hc) (cf_X8_175 (by decide)) ⟨m_3_32, m_3_33⟩ (As := []) (q0 := 1) (ci := 5) rfl rfl rfl rfl (rc_X7 ad _) (Nat.le_of_ble_eq_true rfl) rfl dX8_plan_27 ?_
        obtain ⟨r_30, q_30, hc, h⟩ := bd2_some h
        refine r_callVi hR (c6_isPlan N hc) (cf_X8_181 (by decide)) ⟨m_3_69, m_3_70⟩ (As := [.int r_27]) (q0 := 3) (ci := 4) rfl rfl rfl rfl (rc_X6 ad _) (Nat.le_of_ble_eq_true rfl) rfl dX8_plan_30 ?_
        refine r_if_ne hR (tgt := 39) dX8_plan_33 (by decide) (fun c_33 => ?_) (fun c_33 => ?_)
        · replace h := it_f c_33 h
          refine r_aload_n hR dX8_plan_39 rfl 0 rfl ?_
          refine g_X8_judge hR m_1_204 dX8_plan_40 ?_
          refine r_aload_n hR dX8_plan_43 rfl 0 rfl ?_
          refine g_X8_sheet hR m_1_203 dX8_plan_44 ?_
          refine r_callVa hR (r := 16) c6_signs (cf_X8_184 (by decide)) ⟨m_3_74, m_3_75⟩ (As := []) (q0 := 3) (ci := 4) rfl rfl rfl rfl (rc_X6 ad _) (Nat.le_of_ble_eq_true rfl) rfl dX8_plan_47 ?_
          refine r_aload_n hR dX8_plan_50 rfl 0 rfl ?_
          refine g_X8_sheet hR m_1_203 dX8_plan_51 ?_
          obtain ⟨r_54, hc, h⟩ := bd_some h
          refine r_callVi hR (c6_length hc) (cf_X8_188 (by decide)) ⟨m_3_78, m_3_79⟩ (As := []) (q0 := 3) (ci := 4) rfl rfl rfl rfl (rc_X6 ad _) (Nat.le_of_ble_eq_true rfl) rfl dX8_plan_54 ?_
          refine r_iload_n hR dX8_plan_57 rfl 1 rfl ?_
          obtain ⟨q_58, hc, h⟩ := bd_some h
          refine r_callVv hR (c2_read_v16 N hc) (cf_X8_191 (by decide)) ⟨m_3_82, m_3_83⟩ (As := [.ref (ad 16), .int r_54, .int x1]) (q0 := 4) (ci := 2) rfl rfl rfl rfl (rc_X2 ad _) (Nat.le_of_ble_eq_true rfl) rfl dX8_plan_58 ?_
          refine r_iload_n hR dX8_plan_61 rfl 2 rfl ?_
          by_cases c_62_0 : x2 = (0 : Int32)
          · replace h := it_t c_62_0 h
            refine r_tableIn hR (off := 26) (tgt := 88) dX8_plan_62 (by rw [c_62_0]; decide) (by rw [c_62_0]; decide) (by rw [c_62_0]; decide) (by decide) ?_
            refine r_aload_n hR dX8_plan_88 rfl 0 rfl ?_
            refine g_X8_judge hR m_1_204 dX8_plan_89 ?_
            obtain ⟨r_92, hc, h⟩ := bd_some h
            refine r_callVi hR (c2_tablesRead hc) (cf_X8_195 (by decide)) ⟨m_3_122, m_3_123⟩ (As := []) (q0 := 4) (ci := 2) rfl rfl rfl rfl (rc_X2 ad _) (Nat.le_of_ble_eq_true rfl) rfl dX8_plan_92 ?_
            exact r_iret hR dX8_plan_95 rfl (rt2 hP h)
          · replace h := it_f c_62_0 h
            by_cases c_62_1 : x2 = (1 : Int32)
            · replace h := it_t c_62_1 h
              refine r_tableIn hR (off := 34) (tgt := 96) dX8_plan_62 (by rw [c_62_1]; decide) (by rw [c_62_1]; decide) (by rw [c_62_1]; decide) (by decide) ?_
              refine r_aload_n hR dX8_plan_96 rfl 0 rfl ?_
              refine g_X8_judge hR m_1_204 dX8_plan_97 ?_
              obtain ⟨r_100, hc, h⟩ := bd_some h
              refine r_callVi hR (c2_canBeDone hc) (cf_X8_198 (by decide)) ⟨m_3_126, m_3_127⟩ (As := []) (q0 := 4) (ci := 2) rfl rfl rfl rfl (rc_X2 ad _) (Nat.le_of_ble_eq_true rfl) rfl dX8_plan_100 ?_
              refine r_if_eq hR (tgt := 116) dX8_plan_103 (by decide) (fun c_103 => ?_) (fun c_103 => ?_)
              · replace h := it_t c_103 h
                refine r_bipush hR dX8_plan_116 kc_bipush_m2 ?_
                exact r_iret hR dX8_plan_118 rfl (rt2 hP h)
              · replace h := it_f c_103 h
                refine r_aload_n hR dX8_plan_106 rfl 0 rfl ?_
                refine g_X8_judge hR m_1_204 dX8_plan_107 ?_
                obtain ⟨r_110, hc, h⟩ := bd_some h
                refine r_callVi hR (c2_costRead hc) (cf_X8_202 (by decide)) ⟨m_3_130, m_3_131⟩ (As := []) (q0 := 4) (ci := 2) rfl rfl rfl rfl (rc_X2 ad _) (Nat.le_of_ble_eq_true rfl) rfl dX8_plan_110 ?_
                refine r_goto hR (tgt := 118) dX8_plan_113 (by decide) ?_
                exact r_iret hR dX8_plan_118 rfl (rt2 hP h)
            · replace h := it_f c_62_1 h
              by_cases c_62_2 : x2 = (2 : Int32)
              · replace h := it_t c_62_2 h
                refine r_tableIn hR (off := 57) (tgt := 119) dX8_plan_62 (by rw [c_62_2]; decide) (by rw [c_62_2]; decide) (by rw [c_62_2]; decide) (by decide) ?_
                refine r_aload_n hR dX8_plan_119 rfl 0 rfl ?_
                refine g_X8_judge hR m_1_204 dX8_plan_120 ?_
                obtain ⟨r_123, hc, h⟩ := bd_some h
                refine r_callVi hR (c2_canBeDone hc) (cf_X8_198 (by decide)) ⟨m_3_126, m_3_127⟩ (As := []) (q0 := 4) (ci := 2) rfl rfl rfl rfl (rc_X2 ad _) (Nat.le_of_ble_eq_true rfl) rfl dX8_plan_123 ?_
                refine r_if_eq hR (tgt := 139) dX8_plan_126 (by decide) (fun c_126 => ?_) (fun c_126 => ?_)
                · replace h := it_t c_126 h
                  refine r_bipush hR dX8_plan_139 kc_bipush_m2 ?_
                  exact r_iret hR dX8_plan_141 rfl (rt2 hP h)
                · replace h := it_f c_126 h
                  refine r_aload_n hR dX8_plan_129 rfl 0 rfl ?_
                  refine g_X8_judge hR m_1_204 dX8_plan_130 ?_
                  obtain ⟨r_133, hc, h⟩ := bd_some h
                  refine r_callVi hR (c2_letterRead hc) (cf_X8_205 (by decide)) ⟨m_3_134, m_3_135⟩ (As := []) (q0 := 4) (ci := 2) rfl rfl rfl rfl (rc_X2 ad _) (Nat.le_of_ble_eq_true rfl) rfl dX8_plan_133 ?_
                  refine r_goto hR (tgt := 141) dX8_plan_136 (by decide) ?_
                  exact r_iret hR dX8_plan_141 rfl (rt2 hP h)
              · replace h := it_f c_62_2 h
                have n_0 : ¬ (x2).toInt = 0 := lv_neT c_62_0 (by decide)
                have n_1 : ¬ (x2).toInt = 1 := lv_neT c_62_1 (by decide)
                have n_2 : ¬ (x2).toInt = 2 := lv_neT c_62_2 (by decide)
                refine r_tableOut hR (tgt := 142) dX8_plan_62 (by omega) (by decide) ?_
                refine r_aload_n hR dX8_plan_142 rfl 0 rfl ?_
                refine g_X8_judge hR m_1_204 dX8_plan_143 ?_
                obtain ⟨r_146, hc, h⟩ := bd_some h
                refine r_callVi hR (c2_stepsRead hc) (cf_X8_208 (by decide)) ⟨m_3_138, m_3_139⟩ (As := []) (q0 := 4) (ci := 2) rfl rfl rfl rfl (rc_X2 ad _) (Nat.le_of_ble_eq_true rfl) rfl dX8_plan_146 ?_
                exact r_iret hR dX8_plan_149 rfl (rt2 hP h)
        · replace h := it_t c_33 h
          refine r_bipush hR dX8_plan_36 kc_bipush_m103 ?_
          exact r_iret hR dX8_plan_38 rfl (rt2 hP h)
      · replace h := it_f c_13 h
        refine r_bipush hR dX8_plan_16 kc_bipush_m102 ?_
        exact r_iret hR dX8_plan_18 rfl (rt2 hP h)
theorem c8_plan (N : Nat) {x1 : Int32} {x2 : Int32} {q : SS} {r : Int32} {q2 : SS} (h : f8_plan N x1 x2 q = some (r, q2)) : Ct wC 14 yX8_plan cX8_plan 3 (some .int) (fun ad => [.ref (ad 0), .int x1, .int x2]) q (fun _ => some (.int r)) q2 :=
  ct_of (by decide) (fun _ => Nat.le_of_ble_eq_true rfl) (fun ad J hR => t8_plan hR N ⟨rfl, rfl⟩ x1 x2 q h)
theorem t8_refusalOfChoice_b35 (hR : Rl wC 2 RX8 cX8_refusalOfChoice 7 (some .int) ad J P) (q : SS) {r : Int32} (hP : P (some (.int r)) q) (x1 : Int32) (x3 : Int32) (x5 : Int32) (s0 : Int32) (h : f8_refusalOfChoice_b35 q x1 x3 x5 s0 = some r) : J [(0, .ref (ad 0)), (1, .int x1), (3, .int x3), (5, .int x5)] [.int s0] q 35 := by
  unfold f8_refusalOfChoice_b35 at h
  refine r_istore hR (i := 6) (lv' := [(6, .int s0), (0, .ref (ad 0)), (1, .int x1), (3, .int x3), (5, .int x5)]) dX8_refusalOfChoice_35 rfl (by decide) rfl ?_
  refine r_aload_n hR dX8_refusalOfChoice_37 rfl 1 rfl ?_
  refine g_X8_shelf hR m_1_201 dX8_refusalOfChoice_38 ?_
  refine r_iload_n hR dX8_refusalOfChoice_41 rfl 2 rfl ?_
  obtain ⟨r_42, hc, h⟩ := bd_some h
  refine r_callVi hR (c7_isSet hc) (cf_X8_135 (by decide)) ⟨m_2_137, m_2_138⟩ (As := [.int x1]) (q0 := 1) (ci := 5) rfl rfl rfl rfl (rc_X7 ad _) (Nat.le_of_ble_eq_true rfl) rfl dX8_refusalOfChoice_42 ?_
  refine r_if_eq hR (tgt := 65) dX8_refusalOfChoice_45 (by decide) (fun c_45 => ?_) (fun c_45 => ?_)
  · replace h := it_t c_45 h
    refine r_bipush hR dX8_refusalOfChoice_65 kc_bipush_m102 ?_
    exact r_iret hR dX8_refusalOfChoice_67 rfl (rt1 hP h)
  · replace h := it_f c_45 h
    refine r_iload hR dX8_refusalOfChoice_48 4 rfl ?_
    refine r_if_eq hR (tgt := 65) dX8_refusalOfChoice_50 (by decide) (fun c_50 => ?_) (fun c_50 => ?_)
    · replace h := it_t c_50 h
      refine r_bipush hR dX8_refusalOfChoice_65 kc_bipush_m102 ?_
      exact r_iret hR dX8_refusalOfChoice_67 rfl (rt1 hP h)
    · replace h := it_f c_50 h
      refine r_iload_n hR dX8_refusalOfChoice_53 rfl 3 rfl ?_
      obtain ⟨r_54, hc, h⟩ := bd_some h
      refine r_callSi hR (c8_isBy hc) (cf_X8_138 (by decide)) m_2_141 (As := [.int x3]) rfl rfl (Nat.le_of_ble_eq_true rfl) rfl dX8_refusalOfChoice_54 ?_
      refine r_if_eq hR (tgt := 65) dX8_refusalOfChoice_57 (by decide) (fun c_57 => ?_) (fun c_57 => ?_)
      · replace h := it_t c_57 h
        refine r_bipush hR dX8_refusalOfChoice_65 kc_bipush_m102 ?_
        exact r_iret hR dX8_refusalOfChoice_67 rfl (rt1 hP h)
      · replace h := it_f c_57 h
        refine r_iload hR dX8_refusalOfChoice_60 0 rfl ?_
        refine r_if_ne hR (tgt := 68) dX8_refusalOfChoice_62 (by decide) (fun c_62 => ?_) (fun c_62 => ?_)
        · replace h := it_f c_62 h
          refine r_aload_n hR dX8_refusalOfChoice_68 rfl 1 rfl ?_
          refine g_X8_choices hR m_1_207 dX8_refusalOfChoice_69 ?_
          refine r_bipush hR dX8_refusalOfChoice_72 kc_bipush_60 ?_
          refine r_icmp_lt hR (tgt := 82) dX8_refusalOfChoice_74 (by decide) (fun c_74 => ?_) (fun c_74 => ?_)
          · replace h := it_t c_74 h
            refine r_iconst hR dX8_refusalOfChoice_82 kc_iconst_0 ?_
            exact r_iret hR dX8_refusalOfChoice_83 rfl (rt1 hP h)
          · replace h := it_f c_74 h
            refine r_bipush hR dX8_refusalOfChoice_77 kc_bipush_m103 ?_
            refine r_goto hR (tgt := 83) dX8_refusalOfChoice_79 (by decide) ?_
            exact r_iret hR dX8_refusalOfChoice_83 rfl (rt1 hP h)
        · replace h := it_t c_62 h
          refine r_bipush hR dX8_refusalOfChoice_65 kc_bipush_m102 ?_
          exact r_iret hR dX8_refusalOfChoice_67 rfl (rt1 hP h)
theorem t8_refusalOfChoice_b30 (hR : Rl wC 2 RX8 cX8_refusalOfChoice 7 (some .int) ad J P) (q : SS) {r : Int32} (hP : P (some (.int r)) q) (x1 : Int32) (x3 : Int32) (x5 : Int32) (h : f8_refusalOfChoice_b30 q x1 x3 x5 = some r) : J [(0, .ref (ad 0)), (1, .int x1), (3, .int x3), (5, .int x5)] [] q 30 := by
  unfold f8_refusalOfChoice_b30 at h
  refine r_iconst hR dX8_refusalOfChoice_30 kc_iconst_1 ?_
  refine r_goto hR (tgt := 35) dX8_refusalOfChoice_31 (by decide) ?_
  exact r_sub hR [0, 1, 2, 3] rfl (t8_refusalOfChoice_b35 hR q hP _ _ _ _ h)
theorem t8_refusalOfChoice_b14 (hR : Rl wC 2 RX8 cX8_refusalOfChoice 7 (some .int) ad J P) (q : SS) {r : Int32} (hP : P (some (.int r)) q) (x1 : Int32) (x3 : Int32) (x4 : Int32) (s0 : Int32) (h : f8_refusalOfChoice_b14 q x1 x3 x4 s0 = some r) : J [(0, .ref (ad 0)), (1, .int x1), (3, .int x3), (4, .int x4)] [.int s0] q 14 := by
  unfold f8_refusalOfChoice_b14 at h
  refine r_istore hR (i := 5) (lv' := [(5, .int s0), (0, .ref (ad 0)), (1, .int x1), (3, .int x3), (4, .int x4)]) dX8_refusalOfChoice_14 rfl (by decide) rfl ?_
  refine r_iload hR dX8_refusalOfChoice_16 4 rfl ?_
  refine r_iconst hR dX8_refusalOfChoice_18 kc_iconst_m1 ?_
  refine r_icmp_eq hR (tgt := 30) dX8_refusalOfChoice_19 (by decide) (fun c_19 => ?_) (fun c_19 => ?_)
  · replace h := it_t c_19 h
    exact r_sub hR [1, 2, 3, 0] rfl (t8_refusalOfChoice_b30 hR q hP _ _ _ h)
  · replace h := it_f c_19 h
    refine r_iload hR dX8_refusalOfChoice_22 4 rfl ?_
    obtain ⟨r_24, hc, h⟩ := bd_some h
    refine r_callSi hR (c8_isLetter hc) (cf_X8_108 (by decide)) m_2_83 (As := [.int x4]) rfl rfl (Nat.le_of_ble_eq_true rfl) rfl dX8_refusalOfChoice_24 ?_
    refine r_if_eq hR (tgt := 34) dX8_refusalOfChoice_27 (by decide) (fun c_27 => ?_) (fun c_27 => ?_)
    · replace h := it_t c_27 h
      refine r_iconst hR dX8_refusalOfChoice_34 kc_iconst_0 ?_
      exact r_sub hR [1, 2, 3, 0] rfl (t8_refusalOfChoice_b35 hR q hP _ _ _ _ h)
    · replace h := it_f c_27 h
      exact r_sub hR [1, 2, 3, 0] rfl (t8_refusalOfChoice_b30 hR q hP _ _ _ h)
theorem t8_refusalOfChoice_b9 (hR : Rl wC 2 RX8 cX8_refusalOfChoice 7 (some .int) ad J P) (q : SS) {r : Int32} (hP : P (some (.int r)) q) (x1 : Int32) (x3 : Int32) (x4 : Int32) (h : f8_refusalOfChoice_b9 q x1 x3 x4 = some r) : J [(0, .ref (ad 0)), (1, .int x1), (3, .int x3), (4, .int x4)] [] q 9 := by
  unfold f8_refusalOfChoice_b9 at h
  refine r_iconst hR dX8_refusalOfChoice_9 kc_iconst_1 ?_
  refine r_goto hR (tgt := 14) dX8_refusalOfChoice_10 (by decide) ?_
  exact r_sub hR [0, 1, 2, 3] rfl (t8_refusalOfChoice_b14 hR q hP _ _ _ _ h)
theorem t8_refusalOfChoice (hR : Rl wC 2 RX8 cX8_refusalOfChoice 7 (some .int) ad J P) (q : SS) {r : Int32} (hP : P (some (.int r)) q) (x1 : Int32) (x2 : Int32) (x3 : Int32) (x4 : Int32) (h : f8_refusalOfChoice q x1 x2 x3 x4 = some r) : J [(0, .ref (ad 0)), (1, .int x1), (2, .int x2), (3, .int x3), (4, .int x4)] [] q 0 := by
  unfold f8_refusalOfChoice at h
  refine r_iload_n hR dX8_refusalOfChoice_0 rfl 2 rfl ?_
  refine r_if_eq hR (tgt := 9) dX8_refusalOfChoice_1 (by decide) (fun c_1 => ?_) (fun c_1 => ?_)
  · replace h := it_t c_1 h
    exact r_sub hR [0, 1, 3, 4] rfl (t8_refusalOfChoice_b9 hR q hP _ _ _ h)
  · replace h := it_f c_1 h
    refine r_iload_n hR dX8_refusalOfChoice_4 rfl 2 rfl ?_
    refine r_iconst hR dX8_refusalOfChoice_5 kc_iconst_1 ?_
    refine r_icmp_ne hR (tgt := 13) dX8_refusalOfChoice_6 (by decide) (fun c_6 => ?_) (fun c_6 => ?_)
    · replace h := it_f c_6 h
      refine r_iconst hR dX8_refusalOfChoice_13 kc_iconst_0 ?_
      exact r_sub hR [0, 1, 3, 4] rfl (t8_refusalOfChoice_b14 hR q hP _ _ _ _ h)
    · replace h := it_t c_6 h
      exact r_sub hR [0, 1, 3, 4] rfl (t8_refusalOfChoice_b9 hR q hP _ _ _ h)
theorem c8_refusalOfChoice {x1 : Int32} {x2 : Int32} {x3 : Int32} {x4 : Int32} {q : SS} {r : Int32} (h : f8_refusalOfChoice q x1 x2 x3 x4 = some r) : Ct wC 2 yX8_refusalOfChoice cX8_refusalOfChoice 7 (some .int) (fun ad => [.ref (ad 0), .int x1, .int x2, .int x3, .int x4]) q (fun _ => some (.int r)) q :=
  ct_of (by decide) (fun _ => Nat.le_of_ble_eq_true rfl) (fun ad J hR => t8_refusalOfChoice hR q ⟨rfl, rfl⟩ x1 x2 x3 x4 h)
theorem t8_best (hR : Rl wC 14 RX8 cX8_best 6 (some .int) ad J P) (N : Nat) {r : Int32} {q2 : SS} (hP : P (some (.int r)) q2) (x1 : Int32) (x2 : Int32) (x3 : Int32) (x4 : Int32) (q : SS) (h : f8_best N x1 x2 x3 x4 q = some (r, q2)) : J [(0, .ref (ad 0)), (1, .int x1), (2, .int x2), (3, .int x3), (4, .int x4)] [] q 0 := by
  unfold f8_best at h
  refine r_aload_n hR dX8_best_0 rfl 0 rfl ?_
  refine r_iload_n hR dX8_best_1 rfl 1 rfl ?_
  refine r_iload_n hR dX8_best_2 rfl 2 rfl ?_
  refine r_iload_n hR dX8_best_3 rfl 3 rfl ?_
  refine r_iload hR dX8_best_4 4 rfl ?_
  obtain ⟨r_6, hc, h⟩ := bd_some h
  refine r_callVi hR (c8_refusalOfChoice hc) (cf_X8_211 (by decide)) ⟨m_3_147, ms_2_5⟩ (As := [.int x1, .int x2, .int x3, .int x4]) (q0 := 0) (ci := 6) rfl rfl rfl rfl (rc_X8 ad _) (Nat.le_of_ble_eq_true rfl) rfl dX8_best_6 ?_
  refine r_istore hR (i := 5) (lv' := [(5, .int r_6), (0, .ref (ad 0)), (1, .int x1), (2, .int x2), (3, .int x3), (4, .int x4)]) dX8_best_9 rfl (by decide) rfl ?_
  refine r_iload hR dX8_best_11 0 rfl ?_
  refine r_if_eq hR (tgt := 19) dX8_best_13 (by decide) (fun c_13 => ?_) (fun c_13 => ?_)
  · replace h := it_t c_13 h
    refine r_aload_n hR dX8_best_19 rfl 1 rfl ?_
    refine r_dup hR dX8_best_20 rfl ?_
    refine g_X8_choices hR m_1_207 dX8_best_21 ?_
    refine r_iconst hR dX8_best_24 kc_iconst_1 ?_
    refine r_iadd hR dX8_best_25 ?_
    obtain ⟨q_26, hq, h⟩ := bn_some h
    refine p_X8_choices hR m_1_207 dX8_best_26 hq ?_
    refine r_aload_n hR dX8_best_29 rfl 1 rfl ?_
    refine g_X8_chooser hR m_1_205 dX8_best_30 ?_
    refine r_iload_n hR dX8_best_33 rfl 2 rfl ?_
    refine r_iload_n hR dX8_best_34 rfl 3 rfl ?_
    refine r_iload_n hR dX8_best_35 rfl 4 rfl ?_
    obtain ⟨q_36, hc, h⟩ := bd_some h
    refine r_callVv hR (c0_choose N hc) (cf_X8_214 (by decide)) ⟨m_3_150, m_3_151⟩ (As := [.int x1, .int x2, .int x3]) (q0 := 5) (ci := 0) rfl rfl rfl rfl (rc_X0 ad _) (Nat.le_of_ble_eq_true rfl) rfl dX8_best_36 ?_
    refine r_aload_n hR dX8_best_39 rfl 1 rfl ?_
    refine g_X8_chooser hR m_1_205 dX8_best_40 ?_
    refine r_iload_n hR dX8_best_43 rfl 2 rfl ?_
    refine r_iload hR dX8_best_44 5 rfl ?_
    obtain ⟨r_46, hc, h⟩ := bd_some h
    refine r_callVi hR (c0_costFor hc) (cf_X8_218 (by decide)) ⟨m_3_201, m_3_202⟩ (As := [.int x1, .int x4]) (q0 := 5) (ci := 0) rfl rfl rfl rfl (rc_X0 ad _) (Nat.le_of_ble_eq_true rfl) rfl dX8_best_46 ?_
    exact r_iret hR dX8_best_49 rfl (rt2 hP h)
  · replace h := it_f c_13 h
    refine r_iload hR dX8_best_16 0 rfl ?_
    exact r_iret hR dX8_best_18 rfl (rt2 hP h)
theorem c8_best (N : Nat) {x1 : Int32} {x2 : Int32} {x3 : Int32} {x4 : Int32} {q : SS} {r : Int32} {q2 : SS} (h : f8_best N x1 x2 x3 x4 q = some (r, q2)) : Ct wC 14 yX8_best cX8_best 6 (some .int) (fun ad => [.ref (ad 0), .int x1, .int x2, .int x3, .int x4]) q (fun _ => some (.int r)) q2 :=
  ct_of (by decide) (fun _ => Nat.le_of_ble_eq_true rfl) (fun ad J hR => t8_best hR N ⟨rfl, rfl⟩ x1 x2 x3 x4 q h)
theorem t8_sign (hR : Rl wC 14 RX8 cX8_sign 7 (some .int) ad J P) (N : Nat) {r : Int32} {q2 : SS} (hP : P (some (.int r)) q2) (x1 : Int32) (x2 : Int32) (x3 : Int32) (x4 : Int32) (x5 : Int32) (q : SS) (h : f8_sign N x1 x2 x3 x4 x5 q = some (r, q2)) : J [(0, .ref (ad 0)), (1, .int x1), (2, .int x2), (3, .int x3), (4, .int x4), (5, .int x5)] [] q 0 := by
  unfold f8_sign at h
  refine r_aload_n hR dX8_sign_0 rfl 0 rfl ?_
  refine r_iload_n hR dX8_sign_1 rfl 1 rfl ?_
  refine r_iload_n hR dX8_sign_2 rfl 2 rfl ?_
  refine r_iload_n hR dX8_sign_3 rfl 3 rfl ?_
  refine r_iload hR dX8_sign_4 4 rfl ?_
  obtain ⟨r_6, hc, h⟩ := bd_some h
  refine r_callVi hR (c8_refusalOfChoice hc) (cf_X8_211 (by decide)) ⟨m_3_147, ms_2_5⟩ (As := [.int x1, .int x2, .int x3, .int x4]) (q0 := 0) (ci := 6) rfl rfl rfl rfl (rc_X8 ad _) (Nat.le_of_ble_eq_true rfl) rfl dX8_sign_6 ?_
  refine r_istore hR (i := 6) (lv' := [(6, .int r_6), (0, .ref (ad 0)), (1, .int x1), (2, .int x2), (3, .int x3), (4, .int x4), (5, .int x5)]) dX8_sign_9 rfl (by decide) rfl ?_
  refine r_iload hR dX8_sign_11 0 rfl ?_
  refine r_if_eq hR (tgt := 19) dX8_sign_13 (by decide) (fun c_13 => ?_) (fun c_13 => ?_)
  · replace h := it_t c_13 h
    refine r_aload_n hR dX8_sign_19 rfl 1 rfl ?_
    refine r_dup hR dX8_sign_20 rfl ?_
    refine g_X8_choices hR m_1_207 dX8_sign_21 ?_
    refine r_iconst hR dX8_sign_24 kc_iconst_1 ?_
    refine r_iadd hR dX8_sign_25 ?_
    obtain ⟨q_26, hq, h⟩ := bn_some h
    refine p_X8_choices hR m_1_207 dX8_sign_26 hq ?_
    refine r_aload_n hR dX8_sign_29 rfl 1 rfl ?_
    refine g_X8_chooser hR m_1_205 dX8_sign_30 ?_
    refine r_iload_n hR dX8_sign_33 rfl 2 rfl ?_
    refine r_iload_n hR dX8_sign_34 rfl 3 rfl ?_
    refine r_iload_n hR dX8_sign_35 rfl 4 rfl ?_
    obtain ⟨q_36, hc, h⟩ := bd_some h
    refine r_callVv hR (c0_choose N hc) (cf_X8_214 (by decide)) ⟨m_3_150, m_3_151⟩ (As := [.int x1, .int x2, .int x3]) (q0 := 5) (ci := 0) rfl rfl rfl rfl (rc_X0 ad _) (Nat.le_of_ble_eq_true rfl) rfl dX8_sign_36 ?_
    refine r_aload_n hR dX8_sign_39 rfl 1 rfl ?_
    refine g_X8_chooser hR m_1_205 dX8_sign_40 ?_
    refine r_iload_n hR dX8_sign_43 rfl 2 rfl ?_
    refine r_iload hR dX8_sign_44 5 rfl ?_
    obtain ⟨r_46, q_46, hc, h⟩ := bd2_some h
    refine r_callVi hR (c0_write N hc) (cf_X8_221 (by decide)) ⟨m_3_219, m_3_220⟩ (As := [.int x1, .int x4]) (q0 := 5) (ci := 0) rfl rfl rfl rfl (rc_X0 ad _) (Nat.le_of_ble_eq_true rfl) rfl dX8_sign_46 ?_
    refine r_pop hR dX8_sign_49 rfl ?_
    refine r_aload_n hR dX8_sign_50 rfl 1 rfl ?_
    refine g_X8_chooser hR m_1_205 dX8_sign_51 ?_
    refine r_iload hR dX8_sign_54 6 rfl ?_
    obtain ⟨r_56, hc, h⟩ := bd_some h
    refine r_callVi hR (c0_signAt hc) (cf_X8_224 (by decide)) ⟨m_3_231, m_3_232⟩ (As := [.int x5]) (q0 := 5) (ci := 0) rfl rfl rfl rfl (rc_X0 ad _) (Nat.le_of_ble_eq_true rfl) rfl dX8_sign_56 ?_
    exact r_iret hR dX8_sign_59 rfl (rt2 hP h)
  · replace h := it_f c_13 h
    refine r_iload hR dX8_sign_16 0 rfl ?_
    exact r_iret hR dX8_sign_18 rfl (rt2 hP h)
theorem c8_sign (N : Nat) {x1 : Int32} {x2 : Int32} {x3 : Int32} {x4 : Int32} {x5 : Int32} {q : SS} {r : Int32} {q2 : SS} (h : f8_sign N x1 x2 x3 x4 x5 q = some (r, q2)) : Ct wC 14 yX8_sign cX8_sign 7 (some .int) (fun ad => [.ref (ad 0), .int x1, .int x2, .int x3, .int x4, .int x5]) q (fun _ => some (.int r)) q2 :=
  ct_of (by decide) (fun _ => Nat.le_of_ble_eq_true rfl) (fun ad J hR => t8_sign hR N ⟨rfl, rfl⟩ x1 x2 x3 x4 x5 q h)
theorem t8_regret (hR : Rl wC 14 RX8 cX8_regret 5 (some .int) ad J P) (N : Nat) {r : Int32} {q2 : SS} (hP : P (some (.int r)) q2) (x1 : Int32) (x2 : Int32) (q : SS) (h : f8_regret N x1 x2 q = some (r, q2)) : J [(0, .ref (ad 0)), (1, .int x1), (2, .int x2)] [] q 0 := by
  unfold f8_regret at h
  refine r_aload_n hR dX8_regret_0 rfl 0 rfl ?_
  refine r_iload_n hR dX8_regret_1 rfl 1 rfl ?_
  refine r_iload_n hR dX8_regret_2 rfl 2 rfl ?_
  refine r_iconst hR dX8_regret_3 kc_iconst_0 ?_
  refine r_iconst hR dX8_regret_4 kc_iconst_m1 ?_
  obtain ⟨r_5, hc, h⟩ := bd_some h
  refine r_callVi hR (c8_refusalOfChoice hc) (cf_X8_211 (by decide)) ⟨m_3_147, ms_2_5⟩ (As := [.int x1, .int x2, .int (0 : Int32), .int (-1 : Int32)]) (q0 := 0) (ci := 6) rfl rfl rfl rfl (rc_X8 ad _) (Nat.le_of_ble_eq_true rfl) rfl dX8_regret_5 ?_
  refine r_istore_n hR (i := 3) (lv' := [(3, .int r_5), (0, .ref (ad 0)), (1, .int x1), (2, .int x2)]) dX8_regret_8 rfl rfl (by decide) rfl ?_
  refine r_iload_n hR dX8_regret_9 rfl 0 rfl ?_
  refine r_if_eq hR (tgt := 15) dX8_regret_10 (by decide) (fun c_10 => ?_) (fun c_10 => ?_)
  · replace h := it_t c_10 h
    refine r_aload_n hR dX8_regret_15 rfl 1 rfl ?_
    refine r_dup hR dX8_regret_16 rfl ?_
    refine g_X8_choices hR m_1_207 dX8_regret_17 ?_
    refine r_iconst hR dX8_regret_20 kc_iconst_1 ?_
    refine r_iadd hR dX8_regret_21 ?_
    obtain ⟨q_22, hq, h⟩ := bn_some h
    refine p_X8_choices hR m_1_207 dX8_regret_22 hq ?_
    refine r_aload_n hR dX8_regret_25 rfl 1 rfl ?_
    refine g_X8_chooser hR m_1_205 dX8_regret_26 ?_
    refine r_iload_n hR dX8_regret_29 rfl 2 rfl ?_
    refine r_iload_n hR dX8_regret_30 rfl 3 rfl ?_
    refine r_iconst hR dX8_regret_31 kc_iconst_1 ?_
    obtain ⟨q_32, hc, h⟩ := bd_some h
    refine r_callVv hR (c0_choose N hc) (cf_X8_214 (by decide)) ⟨m_3_150, m_3_151⟩ (As := [.int x1, .int x2, .int (1 : Int32)]) (q0 := 5) (ci := 0) rfl rfl rfl rfl (rc_X0 ad _) (Nat.le_of_ble_eq_true rfl) rfl dX8_regret_32 ?_
    refine r_aload_n hR dX8_regret_35 rfl 1 rfl ?_
    refine g_X8_chooser hR m_1_205 dX8_regret_36 ?_
    refine r_iload_n hR dX8_regret_39 rfl 2 rfl ?_
    refine r_iconst hR dX8_regret_40 kc_iconst_m1 ?_
    obtain ⟨r_41, q_41, hc, h⟩ := bd2_some h
    refine r_callVi hR (c0_write N hc) (cf_X8_221 (by decide)) ⟨m_3_219, m_3_220⟩ (As := [.int x1, .int (-1 : Int32)]) (q0 := 5) (ci := 0) rfl rfl rfl rfl (rc_X0 ad _) (Nat.le_of_ble_eq_true rfl) rfl dX8_regret_41 ?_
    refine r_istore hR (i := 4) (lv' := [(4, .int r_41), (3, .int r_5), (0, .ref (ad 0)), (1, .int x1), (2, .int x2)]) dX8_regret_44 rfl (by decide) rfl ?_
    refine r_aload_n hR dX8_regret_46 rfl 2 rfl ?_
    refine g_X8_judge hR m_1_204 dX8_regret_47 ?_
    refine r_aload_n hR dX8_regret_50 rfl 2 rfl ?_
    refine g_X8_chooser hR m_1_205 dX8_regret_51 ?_
    refine r_callVa hR (r := 26) c0_signs (cf_X8_227 (by decide)) ⟨m_3_239, m_4_0⟩ (As := []) (q0 := 5) (ci := 0) rfl rfl rfl rfl (rc_X0 ad _) (Nat.le_of_ble_eq_true rfl) rfl dX8_regret_54 ?_
    refine r_iload hR dX8_regret_57 0 rfl ?_
    refine r_iconst hR dX8_regret_59 kc_iconst_0 ?_
    obtain ⟨q_60, hc, h⟩ := bd_some h
    refine r_callVv hR (c2_read_v26 N hc) (cf_X8_191 (by decide)) ⟨m_3_82, m_3_83⟩ (As := [.ref (ad 26), .int r_41, .int (0 : Int32)]) (q0 := 4) (ci := 2) rfl rfl rfl rfl (rc_X2 ad _) (Nat.le_of_ble_eq_true rfl) rfl dX8_regret_60 ?_
    refine r_aload_n hR dX8_regret_63 rfl 2 rfl ?_
    refine g_X8_chooser hR m_1_205 dX8_regret_64 ?_
    refine r_iload_n hR dX8_regret_67 rfl 3 rfl ?_
    refine r_iload_n hR dX8_regret_68 rfl 4 rfl ?_
    refine r_iconst hR dX8_regret_69 kc_iconst_0 ?_
    obtain ⟨q_70, hc, h⟩ := bd_some h
    refine r_callVv hR (c0_choose N hc) (cf_X8_214 (by decide)) ⟨m_3_150, m_3_151⟩ (As := [.int x1, .int x2, .int (0 : Int32)]) (q0 := 5) (ci := 0) rfl rfl rfl rfl (rc_X0 ad _) (Nat.le_of_ble_eq_true rfl) rfl dX8_regret_70 ?_
    refine r_aload_n hR dX8_regret_73 rfl 2 rfl ?_
    refine g_X8_judge hR m_1_204 dX8_regret_74 ?_
    obtain ⟨r_77, hc, h⟩ := bd_some h
    refine r_callVi hR (c2_costRead hc) (cf_X8_202 (by decide)) ⟨m_3_130, m_3_131⟩ (As := []) (q0 := 4) (ci := 2) rfl rfl rfl rfl (rc_X2 ad _) (Nat.le_of_ble_eq_true rfl) rfl dX8_regret_77 ?_
    refine r_aload_n hR dX8_regret_80 rfl 2 rfl ?_
    refine g_X8_chooser hR m_1_205 dX8_regret_81 ?_
    refine r_iload_n hR dX8_regret_84 rfl 3 rfl ?_
    refine r_iconst hR dX8_regret_85 kc_iconst_m1 ?_
    obtain ⟨r_86, hc, h⟩ := bd_some h
    refine r_callVi hR (c0_costFor hc) (cf_X8_218 (by decide)) ⟨m_3_201, m_3_202⟩ (As := [.int x1, .int (-1 : Int32)]) (q0 := 5) (ci := 0) rfl rfl rfl rfl (rc_X0 ad _) (Nat.le_of_ble_eq_true rfl) rfl dX8_regret_86 ?_
    refine r_isub hR dX8_regret_89 ?_
    exact r_iret hR dX8_regret_90 rfl (rt2 hP h)
  · replace h := it_f c_10 h
    refine r_iload_n hR dX8_regret_13 rfl 0 rfl ?_
    exact r_iret hR dX8_regret_14 rfl (rt2 hP h)
theorem c8_regret (N : Nat) {x1 : Int32} {x2 : Int32} {q : SS} {r : Int32} {q2 : SS} (h : f8_regret N x1 x2 q = some (r, q2)) : Ct wC 14 yX8_regret cX8_regret 5 (some .int) (fun ad => [.ref (ad 0), .int x1, .int x2]) q (fun _ => some (.int r)) q2 :=
  ct_of (by decide) (fun _ => Nat.le_of_ble_eq_true rfl) (fun ad J hR => t8_regret hR N ⟨rfl, rfl⟩ x1 x2 q h)
theorem t8_hangs (hR : Rl wC 5 RX8 cX8_hangs 2 (some .int) ad J P) (N : Nat) {r : Int32} {q2 : SS} (hP : P (some (.int r)) q2) (x1 : Int32) (q : SS) (h : f8_hangs N x1 q = some (r, q2)) : J [(0, .ref (ad 0)), (1, .int x1)] [] q 0 := by
  unfold f8_hangs at h
  refine r_aload_n hR dX8_hangs_0 rfl 0 rfl ?_
  refine g_X8_shelf hR m_1_201 dX8_hangs_1 ?_
  refine r_iload_n hR dX8_hangs_4 rfl 1 rfl ?_
  obtain ⟨r_5, hc, h⟩ := bd_some h
  refine r_callVi hR (c7_isSet hc) (cf_X8_135 (by decide)) ⟨m_2_137, m_2_138⟩ (As := [.int x1]) (q0 := 1) (ci := 5) rfl rfl rfl rfl (rc_X7 ad _) (Nat.le_of_ble_eq_true rfl) rfl dX8_hangs_5 ?_
  refine r_if_ne hR (tgt := 14) dX8_hangs_8 (by decide) (fun c_8 => ?_) (fun c_8 => ?_)
  · replace h := it_f c_8 h
    refine r_aload_n hR dX8_hangs_14 rfl 0 rfl ?_
    refine g_X8_hanging hR m_1_206 dX8_hangs_15 ?_
    refine r_iload_n hR dX8_hangs_18 rfl 1 rfl ?_
    obtain ⟨r_19, q_19, hc, h⟩ := bd2_some h
    refine r_callVi hR (c1_takeAway N hc) (cf_X8_228 (by decide)) ⟨m_4_7, m_4_8⟩ (As := [.int x1]) (q0 := 6) (ci := 1) rfl rfl rfl rfl (rc_X1 ad _) (Nat.le_of_ble_eq_true rfl) rfl dX8_hangs_19 ?_
    refine r_if_eq hR (tgt := 29) dX8_hangs_22 (by decide) (fun c_22 => ?_) (fun c_22 => ?_)
    · replace h := it_t c_22 h
      refine r_iconst hR dX8_hangs_29 kc_iconst_0 ?_
      exact r_iret hR dX8_hangs_30 rfl (rt2 hP h)
    · replace h := it_f c_22 h
      refine r_iconst hR dX8_hangs_25 kc_iconst_1 ?_
      refine r_goto hR (tgt := 30) dX8_hangs_26 (by decide) ?_
      exact r_iret hR dX8_hangs_30 rfl (rt2 hP h)
  · replace h := it_t c_8 h
    refine r_bipush hR dX8_hangs_11 kc_bipush_m102 ?_
    exact r_iret hR dX8_hangs_13 rfl (rt2 hP h)
theorem c8_hangs (N : Nat) {x1 : Int32} {q : SS} {r : Int32} {q2 : SS} (h : f8_hangs N x1 q = some (r, q2)) : Ct wC 5 yX8_hangs cX8_hangs 2 (some .int) (fun ad => [.ref (ad 0), .int x1]) q (fun _ => some (.int r)) q2 :=
  ct_of (by decide) (fun _ => Nat.le_of_ble_eq_true rfl) (fun ad J hR => t8_hangs hR N ⟨rfl, rfl⟩ x1 q h)
theorem t8_goes (hR : Rl wC 5 RX8 cX8_goes 3 (some .int) ad J P) (N : Nat) {r : Int32} {q2 : SS} (hP : P (some (.int r)) q2) (x1 : Int32) (x2 : Int32) (q : SS) (h : f8_goes N x1 x2 q = some (r, q2)) : J [(0, .ref (ad 0)), (1, .int x1), (2, .int x2)] [] q 0 := by
  unfold f8_goes at h
  refine r_aload_n hR dX8_goes_0 rfl 0 rfl ?_
  refine g_X8_shelf hR m_1_201 dX8_goes_1 ?_
  refine r_iload_n hR dX8_goes_4 rfl 1 rfl ?_
  obtain ⟨r_5, hc, h⟩ := bd_some h
  refine r_callVi hR (c7_isSet hc) (cf_X8_135 (by decide)) ⟨m_2_137, m_2_138⟩ (As := [.int x1]) (q0 := 1) (ci := 5) rfl rfl rfl rfl (rc_X7 ad _) (Nat.le_of_ble_eq_true rfl) rfl dX8_goes_5 ?_
  refine r_if_ne hR (tgt := 14) dX8_goes_8 (by decide) (fun c_8 => ?_) (fun c_8 => ?_)
  · replace h := it_f c_8 h
    refine r_aload_n hR dX8_goes_14 rfl 0 rfl ?_
    refine g_X8_hanging hR m_1_206 dX8_goes_15 ?_
    refine r_iload_n hR dX8_goes_18 rfl 1 rfl ?_
    obtain ⟨r_19, q_19, hc, h⟩ := bd2_some h
    refine r_callVi hR (c1_takeAway N hc) (cf_X8_228 (by decide)) ⟨m_4_7, m_4_8⟩ (As := [.int x1]) (q0 := 6) (ci := 1) rfl rfl rfl rfl (rc_X1 ad _) (Nat.le_of_ble_eq_true rfl) rfl dX8_goes_19 ?_
    refine r_pop hR dX8_goes_22 rfl ?_
    refine r_aload_n hR dX8_goes_23 rfl 0 rfl ?_
    refine g_X8_hanging hR m_1_206 dX8_goes_24 ?_
    refine r_iload_n hR dX8_goes_27 rfl 2 rfl ?_
    obtain ⟨r_28, hc, h⟩ := bd_some h
    refine r_callVi hR (c1_goneAt hc) (cf_X8_231 (by decide)) ⟨m_4_26, m_4_27⟩ (As := [.int x2]) (q0 := 6) (ci := 1) rfl rfl rfl rfl (rc_X1 ad _) (Nat.le_of_ble_eq_true rfl) rfl dX8_goes_28 ?_
    exact r_iret hR dX8_goes_31 rfl (rt2 hP h)
  · replace h := it_t c_8 h
    refine r_bipush hR dX8_goes_11 kc_bipush_m102 ?_
    exact r_iret hR dX8_goes_13 rfl (rt2 hP h)
theorem c8_goes (N : Nat) {x1 : Int32} {x2 : Int32} {q : SS} {r : Int32} {q2 : SS} (h : f8_goes N x1 x2 q = some (r, q2)) : Ct wC 5 yX8_goes cX8_goes 3 (some .int) (fun ad => [.ref (ad 0), .int x1, .int x2]) q (fun _ => some (.int r)) q2 :=
  ct_of (by decide) (fun _ => Nat.le_of_ble_eq_true rfl) (fun ad J hR => t8_goes hR N ⟨rfl, rfl⟩ x1 x2 q h)
theorem t8_on (hR : Rl wC 5 RX8 cX8_on 4 (some .int) ad J P) (N : Nat) {r : Int32} {q2 : SS} (hP : P (some (.int r)) q2) (x1 : Int32) (x2 : Int32) (q : SS) (h : f8_on N x1 x2 q = some (r, q2)) : J [(0, .ref (ad 0)), (1, .int x1), (2, .int x2)] [] q 0 := by
  unfold f8_on at h
  refine r_aload_n hR dX8_on_0 rfl 0 rfl ?_
  refine r_iload_n hR dX8_on_1 rfl 1 rfl ?_
  refine r_iload_n hR dX8_on_2 rfl 2 rfl ?_
  obtain ⟨r_3, hc, h⟩ := bd_some h
  refine r_callVi hR (c8_refusalOfMember hc) (cf_X8_147 (by decide)) ⟨m_2_217, ms_1_9⟩ (As := [.int x1, .int x2]) (q0 := 0) (ci := 6) rfl rfl rfl rfl (rc_X8 ad _) (Nat.le_of_ble_eq_true rfl) rfl dX8_on_3 ?_
  refine r_istore_n hR (i := 3) (lv' := [(3, .int r_3), (0, .ref (ad 0)), (1, .int x1), (2, .int x2)]) dX8_on_6 rfl rfl (by decide) rfl ?_
  refine r_iload_n hR dX8_on_7 rfl 0 rfl ?_
  refine r_if_eq hR (tgt := 13) dX8_on_8 (by decide) (fun c_8 => ?_) (fun c_8 => ?_)
  · replace h := it_t c_8 h
    refine r_aload_n hR dX8_on_13 rfl 1 rfl ?_
    refine g_X8_hanging hR m_1_206 dX8_on_14 ?_
    refine r_iload_n hR dX8_on_17 rfl 2 rfl ?_
    obtain ⟨r_18, q_18, hc, h⟩ := bd2_some h
    refine r_callVi hR (c1_takeAway N hc) (cf_X8_228 (by decide)) ⟨m_4_7, m_4_8⟩ (As := [.int x1]) (q0 := 6) (ci := 1) rfl rfl rfl rfl (rc_X1 ad _) (Nat.le_of_ble_eq_true rfl) rfl dX8_on_18 ?_
    refine r_pop hR dX8_on_21 rfl ?_
    refine r_aload_n hR dX8_on_22 rfl 1 rfl ?_
    refine g_X8_hanging hR m_1_206 dX8_on_23 ?_
    refine r_iload_n hR dX8_on_26 rfl 3 rfl ?_
    obtain ⟨r_27, hc, h⟩ := bd_some h
    refine r_callVi hR (c1_hookOf hc) (cf_X8_234 (by decide)) ⟨m_4_34, m_4_35⟩ (As := [.int x2]) (q0 := 6) (ci := 1) rfl rfl rfl rfl (rc_X1 ad _) (Nat.le_of_ble_eq_true rfl) rfl dX8_on_27 ?_
    exact r_iret hR dX8_on_30 rfl (rt2 hP h)
  · replace h := it_f c_8 h
    refine r_iload_n hR dX8_on_11 rfl 0 rfl ?_
    exact r_iret hR dX8_on_12 rfl (rt2 hP h)
theorem c8_on (N : Nat) {x1 : Int32} {x2 : Int32} {q : SS} {r : Int32} {q2 : SS} (h : f8_on N x1 x2 q = some (r, q2)) : Ct wC 5 yX8_on cX8_on 4 (some .int) (fun ad => [.ref (ad 0), .int x1, .int x2]) q (fun _ => some (.int r)) q2 :=
  ct_of (by decide) (fun _ => Nat.le_of_ble_eq_true rfl) (fun ad J hR => t8_on hR N ⟨rfl, rfl⟩ x1 x2 q h)
theorem t8_left (hR : Rl wC 6 RX8 cX8_left 4 (some .int) ad J P) (N : Nat) {r : Int32} {q2 : SS} (hP : P (some (.int r)) q2) (x1 : Int32) (x2 : Int32) (q : SS) (h : f8_left N x1 x2 q = some (r, q2)) : J [(0, .ref (ad 0)), (1, .int x1), (2, .int x2)] [] q 0 := by
  unfold f8_left at h
  refine r_aload_n hR dX8_left_0 rfl 0 rfl ?_
  refine r_iload_n hR dX8_left_1 rfl 1 rfl ?_
  refine r_iload_n hR dX8_left_2 rfl 2 rfl ?_
  obtain ⟨r_3, hc, h⟩ := bd_some h
  refine r_callVi hR (c8_refusalOfMember hc) (cf_X8_147 (by decide)) ⟨m_2_217, ms_1_9⟩ (As := [.int x1, .int x2]) (q0 := 0) (ci := 6) rfl rfl rfl rfl (rc_X8 ad _) (Nat.le_of_ble_eq_true rfl) rfl dX8_left_3 ?_
  refine r_istore_n hR (i := 3) (lv' := [(3, .int r_3), (0, .ref (ad 0)), (1, .int x1), (2, .int x2)]) dX8_left_6 rfl rfl (by decide) rfl ?_
  refine r_iload_n hR dX8_left_7 rfl 0 rfl ?_
  refine r_if_eq hR (tgt := 13) dX8_left_8 (by decide) (fun c_8 => ?_) (fun c_8 => ?_)
  · replace h := it_t c_8 h
    refine r_aload_n hR dX8_left_13 rfl 1 rfl ?_
    refine g_X8_hanging hR m_1_206 dX8_left_14 ?_
    refine r_iload_n hR dX8_left_17 rfl 2 rfl ?_
    obtain ⟨r_18, q_18, hc, h⟩ := bd2_some h
    refine r_callVi hR (c1_fullCut N hc) (cf_X8_237 (by decide)) ⟨m_4_42, m_4_43⟩ (As := [.int x1]) (q0 := 6) (ci := 1) rfl rfl rfl rfl (rc_X1 ad _) (Nat.le_of_ble_eq_true rfl) rfl dX8_left_18 ?_
    refine r_if_eq hR (tgt := 35) dX8_left_21 (by decide) (fun c_21 => ?_) (fun c_21 => ?_)
    · replace h := it_t c_21 h
      refine r_bipush hR dX8_left_35 kc_bipush_m103 ?_
      exact r_iret hR dX8_left_37 rfl (rt2 hP h)
    · replace h := it_f c_21 h
      refine r_aload_n hR dX8_left_24 rfl 1 rfl ?_
      refine g_X8_hanging hR m_1_206 dX8_left_25 ?_
      refine r_iload_n hR dX8_left_28 rfl 3 rfl ?_
      obtain ⟨r_29, hc, h⟩ := bd_some h
      refine r_callVi hR (c1_rowsLeft hc) (cf_X8_240 (by decide)) ⟨m_4_60, m_4_61⟩ (As := [.int x2]) (q0 := 6) (ci := 1) rfl rfl rfl rfl (rc_X1 ad _) (Nat.le_of_ble_eq_true rfl) rfl dX8_left_29 ?_
      refine r_goto hR (tgt := 37) dX8_left_32 (by decide) ?_
      exact r_iret hR dX8_left_37 rfl (rt2 hP h)
  · replace h := it_f c_8 h
    refine r_iload_n hR dX8_left_11 rfl 0 rfl ?_
    exact r_iret hR dX8_left_12 rfl (rt2 hP h)
theorem c8_left (N : Nat) {x1 : Int32} {x2 : Int32} {q : SS} {r : Int32} {q2 : SS} (h : f8_left N x1 x2 q = some (r, q2)) : Ct wC 6 yX8_left cX8_left 4 (some .int) (fun ad => [.ref (ad 0), .int x1, .int x2]) q (fun _ => some (.int r)) q2 :=
  ct_of (by decide) (fun _ => Nat.le_of_ble_eq_true rfl) (fun ad J hR => t8_left hR N ⟨rfl, rfl⟩ x1 x2 q h)
theorem t8_steps (hR : Rl wC 6 RX8 cX8_steps 2 (some .int) ad J P) (N : Nat) {r : Int32} {q2 : SS} (hP : P (some (.int r)) q2) (x1 : Int32) (q : SS) (h : f8_steps N x1 q = some (r, q2)) : J [(0, .ref (ad 0)), (1, .int x1)] [] q 0 := by
  unfold f8_steps at h
  refine r_aload_n hR dX8_steps_0 rfl 0 rfl ?_
  refine g_X8_shelf hR m_1_201 dX8_steps_1 ?_
  refine r_iload_n hR dX8_steps_4 rfl 1 rfl ?_
  obtain ⟨r_5, hc, h⟩ := bd_some h
  refine r_callVi hR (c7_isSet hc) (cf_X8_135 (by decide)) ⟨m_2_137, m_2_138⟩ (As := [.int x1]) (q0 := 1) (ci := 5) rfl rfl rfl rfl (rc_X7 ad _) (Nat.le_of_ble_eq_true rfl) rfl dX8_steps_5 ?_
  refine r_if_ne hR (tgt := 14) dX8_steps_8 (by decide) (fun c_8 => ?_) (fun c_8 => ?_)
  · replace h := it_f c_8 h
    refine r_aload_n hR dX8_steps_14 rfl 0 rfl ?_
    refine g_X8_hanging hR m_1_206 dX8_steps_15 ?_
    refine r_iload_n hR dX8_steps_18 rfl 1 rfl ?_
    obtain ⟨r_19, q_19, hc, h⟩ := bd2_some h
    refine r_callVi hR (c1_fullCut N hc) (cf_X8_237 (by decide)) ⟨m_4_42, m_4_43⟩ (As := [.int x1]) (q0 := 6) (ci := 1) rfl rfl rfl rfl (rc_X1 ad _) (Nat.le_of_ble_eq_true rfl) rfl dX8_steps_19 ?_
    refine r_if_eq hR (tgt := 35) dX8_steps_22 (by decide) (fun c_22 => ?_) (fun c_22 => ?_)
    · replace h := it_t c_22 h
      refine r_bipush hR dX8_steps_35 kc_bipush_m103 ?_
      exact r_iret hR dX8_steps_37 rfl (rt2 hP h)
    · replace h := it_f c_22 h
      refine r_aload_n hR dX8_steps_25 rfl 0 rfl ?_
      refine g_X8_hanging hR m_1_206 dX8_steps_26 ?_
      obtain ⟨r_29, hc, h⟩ := bd_some h
      refine r_callVi hR (c1_rowsCut hc) (cf_X8_243 (by decide)) ⟨m_4_68, m_4_69⟩ (As := []) (q0 := 6) (ci := 1) rfl rfl rfl rfl (rc_X1 ad _) (Nat.le_of_ble_eq_true rfl) rfl dX8_steps_29 ?_
      refine r_goto hR (tgt := 37) dX8_steps_32 (by decide) ?_
      exact r_iret hR dX8_steps_37 rfl (rt2 hP h)
  · replace h := it_t c_8 h
    refine r_bipush hR dX8_steps_11 kc_bipush_m102 ?_
    exact r_iret hR dX8_steps_13 rfl (rt2 hP h)
theorem c8_steps (N : Nat) {x1 : Int32} {q : SS} {r : Int32} {q2 : SS} (h : f8_steps N x1 q = some (r, q2)) : Ct wC 6 yX8_steps cX8_steps 2 (some .int) (fun ad => [.ref (ad 0), .int x1]) q (fun _ => some (.int r)) q2 :=
  ct_of (by decide) (fun _ => Nat.le_of_ble_eq_true rfl) (fun ad J hR => t8_steps hR N ⟨rfl, rfl⟩ x1 q h)
theorem t8_cover (hR : Rl wC 3 RX8 cX8_cover 2 (some .int) ad J P) (N : Nat) (q : SS) {r : Int32} (hP : P (some (.int r)) q) (x1 : Int32) (h : f8_cover N q x1 = some r) : J [(0, .ref (ad 0)), (1, .int x1)] [] q 0 := by
  unfold f8_cover at h
  refine r_aload_n hR dX8_cover_0 rfl 0 rfl ?_
  refine g_X8_shelf hR m_1_201 dX8_cover_1 ?_
  refine r_iload_n hR dX8_cover_4 rfl 1 rfl ?_
  obtain ⟨r_5, hc, h⟩ := bd_some h
  refine r_callVi hR (c7_isSet hc) (cf_X8_135 (by decide)) ⟨m_2_137, m_2_138⟩ (As := [.int x1]) (q0 := 1) (ci := 5) rfl rfl rfl rfl (rc_X7 ad _) (Nat.le_of_ble_eq_true rfl) rfl dX8_cover_5 ?_
  refine r_if_eq hR (tgt := 22) dX8_cover_8 (by decide) (fun c_8 => ?_) (fun c_8 => ?_)
  · replace h := it_t c_8 h
    refine r_bipush hR dX8_cover_22 kc_bipush_m102 ?_
    exact r_iret hR dX8_cover_24 rfl (rt1 hP h)
  · replace h := it_f c_8 h
    refine r_aload_n hR dX8_cover_11 rfl 0 rfl ?_
    refine g_X8_shelf hR m_1_201 dX8_cover_12 ?_
    refine r_iload_n hR dX8_cover_15 rfl 1 rfl ?_
    obtain ⟨r_16, hc, h⟩ := bd_some h
    refine r_callVi hR (c7_fewestThatCover N hc) (cf_X8_246 (by decide)) ⟨m_4_76, m_4_77⟩ (As := [.int x1]) (q0 := 1) (ci := 5) rfl rfl rfl rfl (rc_X7 ad _) (Nat.le_of_ble_eq_true rfl) rfl dX8_cover_16 ?_
    refine r_goto hR (tgt := 24) dX8_cover_19 (by decide) ?_
    exact r_iret hR dX8_cover_24 rfl (rt1 hP h)
theorem c8_cover (N : Nat) {x1 : Int32} {q : SS} {r : Int32} (h : f8_cover N q x1 = some r) : Ct wC 3 yX8_cover cX8_cover 2 (some .int) (fun ad => [.ref (ad 0), .int x1]) q (fun _ => some (.int r)) q :=
  ct_of (by decide) (fun _ => Nat.le_of_ble_eq_true rfl) (fun ad J hR => t8_cover hR N q ⟨rfl, rfl⟩ x1 h)
theorem t8_count (hR : Rl wC 2 RX8 cX8_count 2 (some .int) ad J P) (N : Nat) (q : SS) {r : Int32} (hP : P (some (.int r)) q) (x1 : Int32) (h : f8_count N q x1 = some r) : J [(0, .ref (ad 0)), (1, .int x1)] [] q 0 := by
  unfold f8_count at h
  refine r_iload_n hR dX8_count_0 rfl 1 rfl ?_
  by_cases c_1_0 : x1 = (0 : Int32)
  · replace h := it_t c_1_0 h
    refine r_tableIn hR (off := 35) (tgt := 36) dX8_count_1 (by rw [c_1_0]; decide) (by rw [c_1_0]; decide) (by rw [c_1_0]; decide) (by decide) ?_
    refine r_aload_n hR dX8_count_36 rfl 0 rfl ?_
    refine g_X8_shelf hR m_1_201 dX8_count_37 ?_
    obtain ⟨r_40, hc, h⟩ := bd_some h
    refine r_callVi hR (c7_tablesMade hc) (cf_X8_175 (by decide)) ⟨m_3_32, m_3_33⟩ (As := []) (q0 := 1) (ci := 5) rfl rfl rfl rfl (rc_X7 ad _) (Nat.le_of_ble_eq_true rfl) rfl dX8_count_40 ?_
    exact r_iret hR dX8_count_43 rfl (rt1 hP h)
  · replace h := it_f c_1_0 h
    by_cases c_1_1 : x1 = (1 : Int32)
    · replace h := it_t c_1_1 h
      refine r_tableIn hR (off := 43) (tgt := 44) dX8_count_1 (by rw [c_1_1]; decide) (by rw [c_1_1]; decide) (by rw [c_1_1]; decide) (by decide) ?_
      refine r_aload_n hR dX8_count_44 rfl 0 rfl ?_
      refine g_X8_shelf hR m_1_201 dX8_count_45 ?_
      obtain ⟨r_48, hc, h⟩ := bd_some h
      refine r_callVi hR (c7_rowsOfAll N hc) (cf_X8_249 (by decide)) ⟨m_4_85, m_4_86⟩ (As := []) (q0 := 1) (ci := 5) rfl rfl rfl rfl (rc_X7 ad _) (Nat.le_of_ble_eq_true rfl) rfl dX8_count_48 ?_
      exact r_iret hR dX8_count_51 rfl (rt1 hP h)
    · replace h := it_f c_1_1 h
      by_cases c_1_2 : x1 = (2 : Int32)
      · replace h := it_t c_1_2 h
        refine r_tableIn hR (off := 51) (tgt := 52) dX8_count_1 (by rw [c_1_2]; decide) (by rw [c_1_2]; decide) (by rw [c_1_2]; decide) (by decide) ?_
        refine r_aload_n hR dX8_count_52 rfl 0 rfl ?_
        refine g_X8_sheet hR m_1_203 dX8_count_53 ?_
        obtain ⟨r_56, hc, h⟩ := bd_some h
        refine r_callVi hR (c6_length hc) (cf_X8_188 (by decide)) ⟨m_3_78, m_3_79⟩ (As := []) (q0 := 3) (ci := 4) rfl rfl rfl rfl (rc_X6 ad _) (Nat.le_of_ble_eq_true rfl) rfl dX8_count_56 ?_
        exact r_iret hR dX8_count_59 rfl (rt1 hP h)
      · replace h := it_f c_1_2 h
        by_cases c_1_3 : x1 = (3 : Int32)
        · replace h := it_t c_1_3 h
          refine r_tableIn hR (off := 59) (tgt := 60) dX8_count_1 (by rw [c_1_3]; decide) (by rw [c_1_3]; decide) (by rw [c_1_3]; decide) (by decide) ?_
          refine r_aload_n hR dX8_count_60 rfl 0 rfl ?_
          refine g_X8_shelf hR m_1_201 dX8_count_61 ?_
          refine r_aload_n hR dX8_count_64 rfl 0 rfl ?_
          refine g_X8_shelf hR m_1_201 dX8_count_65 ?_
          obtain ⟨r_68, hc, h⟩ := bd_some h
          refine r_callVi hR (c7_allTables hc) (cf_X8_252 (by decide)) ⟨m_4_89, m_4_90⟩ (As := []) (q0 := 1) (ci := 5) rfl rfl rfl rfl (rc_X7 ad _) (Nat.le_of_ble_eq_true rfl) rfl dX8_count_68 ?_
          obtain ⟨r_71, hc, h⟩ := bd_some h
          refine r_callVi hR (c7_lettersOfSet N hc) (cf_X8_156 (by decide)) ⟨m_2_175, m_2_176⟩ (As := [.int r_68]) (q0 := 1) (ci := 5) rfl rfl rfl rfl (rc_X7 ad _) (Nat.le_of_ble_eq_true rfl) rfl dX8_count_71 ?_
          obtain ⟨r_74, hc, h⟩ := bd_some h
          refine r_callSi hR (cJ6_bitCount hc) (cf_X8_59 (by decide)) m_1_228 (As := [.int r_71]) rfl rfl (Nat.le_of_ble_eq_true rfl) rfl dX8_count_74 ?_
          exact r_iret hR dX8_count_77 rfl (rt1 hP h)
        · replace h := it_f c_1_3 h
          by_cases c_1_4 : x1 = (4 : Int32)
          · replace h := it_t c_1_4 h
            refine r_tableIn hR (off := 77) (tgt := 78) dX8_count_1 (by rw [c_1_4]; decide) (by rw [c_1_4]; decide) (by rw [c_1_4]; decide) (by decide) ?_
            refine r_aload_n hR dX8_count_78 rfl 0 rfl ?_
            refine g_X8_choices hR m_1_207 dX8_count_79 ?_
            exact r_iret hR dX8_count_82 rfl (rt1 hP h)
          · replace h := it_f c_1_4 h
            have n_0 : ¬ (x1).toInt = 0 := lv_neT c_1_0 (by decide)
            have n_1 : ¬ (x1).toInt = 1 := lv_neT c_1_1 (by decide)
            have n_2 : ¬ (x1).toInt = 2 := lv_neT c_1_2 (by decide)
            have n_3 : ¬ (x1).toInt = 3 := lv_neT c_1_3 (by decide)
            have n_4 : ¬ (x1).toInt = 4 := lv_neT c_1_4 (by decide)
            refine r_tableOut hR (tgt := 83) dX8_count_1 (by omega) (by decide) ?_
            refine r_bipush hR dX8_count_83 kc_bipush_m102 ?_
            exact r_iret hR dX8_count_85 rfl (rt1 hP h)
theorem c8_count (N : Nat) {x1 : Int32} {q : SS} {r : Int32} (h : f8_count N q x1 = some r) : Ct wC 2 yX8_count cX8_count 2 (some .int) (fun ad => [.ref (ad 0), .int x1]) q (fun _ => some (.int r)) q :=
  ct_of (by decide) (fun _ => Nat.le_of_ble_eq_true rfl) (fun ad J hR => t8_count hR N q ⟨rfl, rfl⟩ x1 h)
theorem t8_digestOfTable_b99 (hR : Rl wC 5 RX8 cX8_digestOfTable 8 (some .long) ad J P) (N : Nat) (q : SS) {r : Int64} (hP : P (some (.long r)) q) (bk38 : Int32 → Int64 → Int32 → Option Int64) (hbk38 : ∀ (x3 : Int32) (x4 : Int64) (x6 : Int32), bk38 x3 x4 x6 = some r → J [(0, .ref (ad 0)), (3, .int x3), (4, .long x4), (6, .int x6)] [] q 38) (bk54 : Int32 → Int64 → Int32 → Int32 → Option Int64) (hbk54 : ∀ (x3 : Int32) (x4 : Int64) (x6 : Int32) (x7 : Int32), bk54 x3 x4 x6 x7 = some r → J [(0, .ref (ad 0)), (3, .int x3), (4, .long x4), (6, .int x6), (7, .int x7)] [] q 54) (x3 : Int32) (x4 : Int64) (x6 : Int32) (x7 : Int32) (h : f8_digestOfTable_b99 N q bk38 bk54 x3 x4 x6 x7 = some r) : J [(0, .ref (ad 0)), (3, .int x3), (4, .long x4), (6, .int x6), (7, .int x7)] [] q 99 := by
  unfold f8_digestOfTable_b99 at h
  obtain ⟨x7_99, hx, h⟩ := bn_some h
  refine r_iinc hR (i := 7) (lv' := [(7, .int x7_99), (0, .ref (ad 0)), (3, .int x3), (4, .long x4), (6, .int x6)]) dX8_digestOfTable_99 4 rfl (inc_ok hx kc_iconst_1) (by decide) rfl ?_
  refine r_goto hR (tgt := 54) dX8_digestOfTable_102 (by decide) ?_
  exact r_sub hR [1, 2, 3, 4, 0] rfl (hbk54 _ _ _ _ h)
theorem t8_digestOfTable_l54_B (hR : Rl wC 5 RX8 cX8_digestOfTable 8 (some .long) ad J P) (N : Nat) (q : SS) {r : Int64} (hP : P (some (.long r)) q) (bk38 : Int32 → Int64 → Int32 → Option Int64) (hbk38 : ∀ (x3 : Int32) (x4 : Int64) (x6 : Int32), bk38 x3 x4 x6 = some r → J [(0, .ref (ad 0)), (3, .int x3), (4, .long x4), (6, .int x6)] [] q 38) (bk54 : Int32 → Int64 → Int32 → Int32 → Option Int64) (hbk54 : ∀ (x3 : Int32) (x4 : Int64) (x6 : Int32) (x7 : Int32), bk54 x3 x4 x6 x7 = some r → J [(0, .ref (ad 0)), (3, .int x3), (4, .long x4), (6, .int x6), (7, .int x7)] [] q 54) (x3 : Int32) (x4 : Int64) (x6 : Int32) (x7 : Int32) (h : f8_digestOfTable_l54_B N q bk38 bk54 x3 x4 x6 x7 = some r) : J [(0, .ref (ad 0)), (3, .int x3), (4, .long x4), (6, .int x6), (7, .int x7)] [] q 54 := by
  unfold f8_digestOfTable_l54_B at h
  refine r_iload hR dX8_digestOfTable_54 4 rfl ?_
  refine r_bipush hR dX8_digestOfTable_56 kc_bipush_8 ?_
  refine r_icmp_ge hR (tgt := 105) dX8_digestOfTable_58 (by decide) (fun c_58 => ?_) (fun c_58 => ?_)
  · replace h := it_t c_58 h
    obtain ⟨x6_105, hx, h⟩ := bn_some h
    refine r_iinc hR (i := 6) (lv' := [(6, .int x6_105), (0, .ref (ad 0)), (3, .int x3), (4, .long x4), (7, .int x7)]) dX8_digestOfTable_105 3 rfl (inc_ok hx kc_iconst_1) (by decide) rfl ?_
    refine r_goto hR (tgt := 38) dX8_digestOfTable_108 (by decide) ?_
    exact r_sub hR [1, 2, 3, 0] rfl (hbk38 _ _ _ h)
  · replace h := it_f c_58 h
    refine r_aload_n hR dX8_digestOfTable_61 rfl 0 rfl ?_
    refine g_X8_shelf hR m_1_201 dX8_digestOfTable_62 ?_
    refine r_iload_n hR dX8_digestOfTable_65 rfl 1 rfl ?_
    refine r_iload hR dX8_digestOfTable_66 4 rfl ?_
    obtain ⟨r_68, hc, h⟩ := bd_some h
    refine r_callVi hR (c7_hasLetter hc) (cf_X8_102 (by decide)) ⟨m_2_37, m_2_38⟩ (As := [.int x3, .int x7]) (q0 := 1) (ci := 5) rfl rfl rfl rfl (rc_X7 ad _) (Nat.le_of_ble_eq_true rfl) rfl dX8_digestOfTable_68 ?_
    refine r_if_eq hR (tgt := 99) dX8_digestOfTable_71 (by decide) (fun c_71 => ?_) (fun c_71 => ?_)
    · replace h := it_t c_71 h
      exact r_sub hR [0, 1, 2, 3, 4] rfl (t8_digestOfTable_b99 hR N q hP bk38 hbk38 bk54 hbk54 _ _ _ _ h)
    · replace h := it_f c_71 h
      refine r_ldc2 hR dX8_digestOfTable_74 m_4_101 ?_
      refine r_lload hR dX8_digestOfTable_77 2 rfl ?_
      refine r_lmul hR dX8_digestOfTable_79 ?_
      refine r_aload_n hR dX8_digestOfTable_80 rfl 0 rfl ?_
      refine g_X8_shelf hR m_1_201 dX8_digestOfTable_81 ?_
      refine r_iload_n hR dX8_digestOfTable_84 rfl 1 rfl ?_
      refine r_iload hR dX8_digestOfTable_85 3 rfl ?_
      obtain ⟨r_87, hc, h⟩ := bd_some h
      refine r_callVi hR (c7_codeAt hc) (cf_X8_111 (by decide)) ⟨m_2_72, m_2_73⟩ (As := [.int x3, .int x6]) (q0 := 1) (ci := 5) rfl rfl rfl rfl (rc_X7 ad _) (Nat.le_of_ble_eq_true rfl) rfl dX8_digestOfTable_87 ?_
      refine r_iload hR dX8_digestOfTable_90 4 rfl ?_
      obtain ⟨r_92, hc, h⟩ := bd_some h
      refine r_callSi hR (c4_numberIn hc) (cf_X8_114 (by decide)) m_2_76 (As := [.int r_87, .int x7]) rfl rfl (Nat.le_of_ble_eq_true rfl) rfl dX8_digestOfTable_92 ?_
      refine r_i2l hR dX8_digestOfTable_95 ?_
      refine r_ladd hR dX8_digestOfTable_96 ?_
      obtain ⟨x4_97, hx, h⟩ := bn_some h
      refine r_lstore hR (i := 4) (lv' := [(4, .long x4_97), (0, .ref (ad 0)), (3, .int x3), (6, .int x6), (7, .int x7)]) dX8_digestOfTable_97 hx (by decide) rfl ?_
      exact r_sub hR [1, 2, 0, 3, 4] rfl (t8_digestOfTable_b99 hR N q hP bk38 hbk38 bk54 hbk54 _ _ _ _ h)
theorem t8_digestOfTable_l54 (hR : Rl wC 5 RX8 cX8_digestOfTable 8 (some .long) ad J P) (N : Nat) (q : SS) {r : Int64} (hP : P (some (.long r)) q) (bk38 : Int32 → Int64 → Int32 → Option Int64) (hbk38 : ∀ (x3 : Int32) (x4 : Int64) (x6 : Int32), bk38 x3 x4 x6 = some r → J [(0, .ref (ad 0)), (3, .int x3), (4, .long x4), (6, .int x6)] [] q 38) : ∀ (n : Nat) (x3 : Int32) (x4 : Int64) (x6 : Int32) (x7 : Int32), f8_digestOfTable_l54 N q bk38 n x3 x4 x6 x7 = some r → J [(0, .ref (ad 0)), (3, .int x3), (4, .long x4), (6, .int x6), (7, .int x7)] [] q 54 := by
  intro n
  induction n with
  | zero => intro x3 x4 x6 x7 h; exact mu_noneF h
  | succ n ih => intro x3 x4 x6 x7 h; exact t8_digestOfTable_l54_B hR N q hP bk38 hbk38 _ ih x3 x4 x6 x7 h
theorem t8_digestOfTable_l38_B (hR : Rl wC 5 RX8 cX8_digestOfTable 8 (some .long) ad J P) (N : Nat) (q : SS) {r : Int64} (hP : P (some (.long r)) q) (bk38 : Int32 → Int64 → Int32 → Option Int64) (hbk38 : ∀ (x3 : Int32) (x4 : Int64) (x6 : Int32), bk38 x3 x4 x6 = some r → J [(0, .ref (ad 0)), (3, .int x3), (4, .long x4), (6, .int x6)] [] q 38) (x3 : Int32) (x4 : Int64) (x6 : Int32) (h : f8_digestOfTable_l38_B N q bk38 x3 x4 x6 = some r) : J [(0, .ref (ad 0)), (3, .int x3), (4, .long x4), (6, .int x6)] [] q 38 := by
  unfold f8_digestOfTable_l38_B at h
  refine r_iload hR dX8_digestOfTable_38 3 rfl ?_
  refine r_aload_n hR dX8_digestOfTable_40 rfl 0 rfl ?_
  refine g_X8_shelf hR m_1_201 dX8_digestOfTable_41 ?_
  refine r_iload_n hR dX8_digestOfTable_44 rfl 1 rfl ?_
  obtain ⟨r_45, hc, h⟩ := bd_some h
  refine r_callVi hR (c7_rowsOf hc) (cf_X8_80 (by decide)) ⟨m_2_13, m_2_14⟩ (As := [.int x3]) (q0 := 1) (ci := 5) rfl rfl rfl rfl (rc_X7 ad _) (Nat.le_of_ble_eq_true rfl) rfl dX8_digestOfTable_45 ?_
  refine r_icmp_ge hR (tgt := 111) dX8_digestOfTable_48 (by decide) (fun c_48 => ?_) (fun c_48 => ?_)
  · replace h := it_t c_48 h
    refine r_lload hR dX8_digestOfTable_111 2 rfl ?_
    exact r_lret hR dX8_digestOfTable_113 rfl (rt1l hP h)
  · replace h := it_f c_48 h
    refine r_iconst hR dX8_digestOfTable_51 kc_iconst_0 ?_
    refine r_istore hR (i := 7) (lv' := [(7, .int (0 : Int32)), (0, .ref (ad 0)), (3, .int x3), (4, .long x4), (6, .int x6)]) dX8_digestOfTable_52 rfl (by decide) rfl ?_
    exact r_sub hR [1, 2, 3, 4, 0] rfl (t8_digestOfTable_l54 hR N q hP bk38 hbk38 N _ _ _ _ h)
theorem t8_digestOfTable_l38 (hR : Rl wC 5 RX8 cX8_digestOfTable 8 (some .long) ad J P) (N : Nat) (q : SS) {r : Int64} (hP : P (some (.long r)) q) : ∀ (n : Nat) (x3 : Int32) (x4 : Int64) (x6 : Int32), f8_digestOfTable_l38 N q n x3 x4 x6 = some r → J [(0, .ref (ad 0)), (3, .int x3), (4, .long x4), (6, .int x6)] [] q 38 := by
  intro n
  induction n with
  | zero => intro x3 x4 x6 h; exact mu_noneF h
  | succ n ih => intro x3 x4 x6 h; exact t8_digestOfTable_l38_B hR N q hP _ ih x3 x4 x6 h
theorem t8_digestOfTable_l6_B (hR : Rl wC 5 RX8 cX8_digestOfTable 8 (some .long) ad J P) (N : Nat) (q : SS) {r : Int64} (hP : P (some (.long r)) q) (bk6 : Int32 → Int64 → Int32 → Option Int64) (hbk6 : ∀ (x3 : Int32) (x4 : Int64) (x6 : Int32), bk6 x3 x4 x6 = some r → J [(0, .ref (ad 0)), (3, .int x3), (4, .long x4), (6, .int x6)] [] q 6) (x3 : Int32) (x4 : Int64) (x6 : Int32) (h : f8_digestOfTable_l6_B N q bk6 x3 x4 x6 = some r) : J [(0, .ref (ad 0)), (3, .int x3), (4, .long x4), (6, .int x6)] [] q 6 := by
  unfold f8_digestOfTable_l6_B at h
  refine r_iload hR dX8_digestOfTable_6 3 rfl ?_
  refine r_iconst hR dX8_digestOfTable_8 kc_iconst_4 ?_
  refine r_icmp_gt hR (tgt := 35) dX8_digestOfTable_9 (by decide) (fun c_9 => ?_) (fun c_9 => ?_)
  · replace h := it_t c_9 h
    refine r_iconst hR dX8_digestOfTable_35 kc_iconst_0 ?_
    refine r_istore hR (i := 6) (lv' := [(6, .int (0 : Int32)), (0, .ref (ad 0)), (3, .int x3), (4, .long x4)]) dX8_digestOfTable_36 rfl (by decide) rfl ?_
    exact r_sub hR [1, 2, 3, 0] rfl (t8_digestOfTable_l38 hR N q hP N _ _ _ h)
  · replace h := it_f c_9 h
    refine r_ldc2 hR dX8_digestOfTable_12 m_4_101 ?_
    refine r_lload hR dX8_digestOfTable_15 2 rfl ?_
    refine r_lmul hR dX8_digestOfTable_17 ?_
    refine r_aload_n hR dX8_digestOfTable_18 rfl 0 rfl ?_
    refine r_iload_n hR dX8_digestOfTable_19 rfl 1 rfl ?_
    refine r_iload hR dX8_digestOfTable_20 3 rfl ?_
    obtain ⟨r_22, hc, h⟩ := bd_some h
    refine r_callVi hR (c8_about N hc) (cf_X8_282 (by decide)) ⟨m_2_88, m_2_89⟩ (As := [.int x3, .int x6]) (q0 := 0) (ci := 6) rfl rfl rfl rfl (rc_X8 ad _) (Nat.le_of_ble_eq_true rfl) rfl dX8_digestOfTable_22 ?_
    refine r_i2l hR dX8_digestOfTable_25 ?_
    refine r_ladd hR dX8_digestOfTable_26 ?_
    obtain ⟨x4_27, hx, h⟩ := bn_some h
    refine r_lstore hR (i := 4) (lv' := [(4, .long x4_27), (0, .ref (ad 0)), (3, .int x3), (6, .int x6)]) dX8_digestOfTable_27 hx (by decide) rfl ?_
    obtain ⟨x6_29, hx, h⟩ := bn_some h
    refine r_iinc hR (i := 6) (lv' := [(6, .int x6_29), (4, .long x4_27), (0, .ref (ad 0)), (3, .int x3)]) dX8_digestOfTable_29 3 rfl (inc_ok hx kc_iconst_1) (by decide) rfl ?_
    refine r_goto hR (tgt := 6) dX8_digestOfTable_32 (by decide) ?_
    exact r_sub hR [2, 3, 1, 0] rfl (hbk6 _ _ _ h)
theorem t8_digestOfTable_l6 (hR : Rl wC 5 RX8 cX8_digestOfTable 8 (some .long) ad J P) (N : Nat) (q : SS) {r : Int64} (hP : P (some (.long r)) q) : ∀ (n : Nat) (x3 : Int32) (x4 : Int64) (x6 : Int32), f8_digestOfTable_l6 N q n x3 x4 x6 = some r → J [(0, .ref (ad 0)), (3, .int x3), (4, .long x4), (6, .int x6)] [] q 6 := by
  intro n
  induction n with
  | zero => intro x3 x4 x6 h; exact mu_noneF h
  | succ n ih => intro x3 x4 x6 h; exact t8_digestOfTable_l6_B hR N q hP _ ih x3 x4 x6 h
theorem t8_digestOfTable (hR : Rl wC 5 RX8 cX8_digestOfTable 8 (some .long) ad J P) (N : Nat) (q : SS) {r : Int64} (hP : P (some (.long r)) q) (x1 : Int64) (x3 : Int32) (h : f8_digestOfTable N q x1 x3 = some r) : J [(0, .ref (ad 0)), (1, .long x1), (3, .int x3)] [] q 0 := by
  unfold f8_digestOfTable at h
  refine r_lload_n hR dX8_digestOfTable_0 rfl 1 rfl ?_
  refine r_lstore hR (i := 4) (lv' := [(4, .long x1), (0, .ref (ad 0)), (1, .long x1), (3, .int x3)]) dX8_digestOfTable_1 rfl (by decide) rfl ?_
  refine r_iconst hR dX8_digestOfTable_3 kc_iconst_0 ?_
  refine r_istore hR (i := 6) (lv' := [(6, .int (0 : Int32)), (4, .long x1), (0, .ref (ad 0)), (1, .long x1), (3, .int x3)]) dX8_digestOfTable_4 rfl (by decide) rfl ?_
  exact r_sub hR [2, 4, 1, 0] rfl (t8_digestOfTable_l6 hR N q hP N _ _ _ h)
theorem c8_digestOfTable (N : Nat) {x1 : Int64} {x3 : Int32} {q : SS} {r : Int64} (h : f8_digestOfTable N q x1 x3 = some r) : Ct wC 5 yX8_digestOfTable cX8_digestOfTable 8 (some .long) (fun ad => [.ref (ad 0), .long x1, .int x3]) q (fun _ => some (.long r)) q :=
  ct_of (by decide) (fun _ => Nat.le_of_ble_eq_true rfl) (fun ad J hR => t8_digestOfTable hR N q ⟨rfl, rfl⟩ x1 x3 h)
theorem t8_digest_l167_B (hR : Rl wC 13 RX8 cX8_digest 5 (some .long) ad J P) (N : Nat) {r : Int64} {q2 : SS} (hP : P (some (.long r)) q2) (bk167 : Int64 → Int32 → SS → Option (Int64 × SS)) (hbk167 : ∀ (x1 : Int64) (x4 : Int32) (q : SS), bk167 x1 x4 q = some (r, q2) → J [(0, .ref (ad 0)), (1, .long x1), (4, .int x4)] [] q 167) (x1 : Int64) (x4 : Int32) (q : SS) (h : f8_digest_l167_B N bk167 x1 x4 q = some (r, q2)) : J [(0, .ref (ad 0)), (1, .long x1), (4, .int x4)] [] q 167 := by
  unfold f8_digest_l167_B at h
  refine r_iload hR dX8_digest_167 2 rfl ?_
  refine r_iconst hR dX8_digest_169 kc_iconst_4 ?_
  refine r_icmp_gt hR (tgt := 193) dX8_digest_170 (by decide) (fun c_170 => ?_) (fun c_170 => ?_)
  · replace h := it_t c_170 h
    refine r_lload_n hR dX8_digest_193 rfl 1 rfl ?_
    exact r_lret hR dX8_digest_194 rfl (rt2l hP h)
  · replace h := it_f c_170 h
    refine r_ldc2 hR dX8_digest_173 m_4_101 ?_
    refine r_lload_n hR dX8_digest_176 rfl 1 rfl ?_
    refine r_lmul hR dX8_digest_177 ?_
    refine r_aload_n hR dX8_digest_178 rfl 0 rfl ?_
    refine r_iload hR dX8_digest_179 2 rfl ?_
    obtain ⟨r_181, hc, h⟩ := bd_some h
    refine r_callVi hR (c8_count N hc) (cf_X8_279 (by decide)) ⟨m_4_81, m_4_82⟩ (As := [.int x4]) (q0 := 0) (ci := 6) rfl rfl rfl rfl (rc_X8 ad _) (Nat.le_of_ble_eq_true rfl) rfl dX8_digest_181 ?_
    refine r_i2l hR dX8_digest_184 ?_
    refine r_ladd hR dX8_digest_185 ?_
    obtain ⟨x1_186, hx, h⟩ := bn_some h
    refine r_lstore_n hR (i := 1) (lv' := [(1, .long x1_186), (0, .ref (ad 0)), (4, .int x4)]) dX8_digest_186 hx rfl (by decide) rfl ?_
    obtain ⟨x4_187, hx, h⟩ := bn_some h
    refine r_iinc hR (i := 4) (lv' := [(4, .int x4_187), (1, .long x1_186), (0, .ref (ad 0))]) dX8_digest_187 2 rfl (inc_ok hx kc_iconst_1) (by decide) rfl ?_
    refine r_goto hR (tgt := 167) dX8_digest_190 (by decide) ?_
    exact r_sub hR [2, 1, 0] rfl (hbk167 _ _ _ h)
theorem t8_digest_l167 (hR : Rl wC 13 RX8 cX8_digest 5 (some .long) ad J P) (N : Nat) {r : Int64} {q2 : SS} (hP : P (some (.long r)) q2) : ∀ (n : Nat) (x1 : Int64) (x4 : Int32) (q : SS), f8_digest_l167 N n x1 x4 q = some (r, q2) → J [(0, .ref (ad 0)), (1, .long x1), (4, .int x4)] [] q 167 := by
  intro n
  induction n with
  | zero => intro x1 x4 q h; exact mu_noneF h
  | succ n ih => intro x1 x4 q h; exact t8_digest_l167_B hR N hP _ ih x1 x4 q h
theorem t8_digest_l129_B (hR : Rl wC 13 RX8 cX8_digest 5 (some .long) ad J P) (N : Nat) {r : Int64} {q2 : SS} (hP : P (some (.long r)) q2) (bk129 : Int64 → Int32 → SS → Option (Int64 × SS)) (hbk129 : ∀ (x1 : Int64) (x4 : Int32) (q : SS), bk129 x1 x4 q = some (r, q2) → J [(0, .ref (ad 0)), (1, .long x1), (4, .int x4)] [] q 129) (x1 : Int64) (x4 : Int32) (q : SS) (h : f8_digest_l129_B N bk129 x1 x4 q = some (r, q2)) : J [(0, .ref (ad 0)), (1, .long x1), (4, .int x4)] [] q 129 := by
  unfold f8_digest_l129_B at h
  refine r_iload hR dX8_digest_129 2 rfl ?_
  refine r_aload_n hR dX8_digest_131 rfl 0 rfl ?_
  refine g_X8_sheet hR m_1_203 dX8_digest_132 ?_
  obtain ⟨r_135, hc, h⟩ := bd_some h
  refine r_callVi hR (c6_length hc) (cf_X8_188 (by decide)) ⟨m_3_78, m_3_79⟩ (As := []) (q0 := 3) (ci := 4) rfl rfl rfl rfl (rc_X6 ad _) (Nat.le_of_ble_eq_true rfl) rfl dX8_digest_135 ?_
  refine r_icmp_ge hR (tgt := 164) dX8_digest_138 (by decide) (fun c_138 => ?_) (fun c_138 => ?_)
  · replace h := it_t c_138 h
    refine r_iconst hR dX8_digest_164 kc_iconst_0 ?_
    refine r_istore hR (i := 4) (lv' := [(4, .int (0 : Int32)), (0, .ref (ad 0)), (1, .long x1)]) dX8_digest_165 rfl (by decide) rfl ?_
    exact r_sub hR [1, 2, 0] rfl (t8_digest_l167 hR N hP N _ _ _ h)
  · replace h := it_f c_138 h
    refine r_ldc2 hR dX8_digest_141 m_4_101 ?_
    refine r_lload_n hR dX8_digest_144 rfl 1 rfl ?_
    refine r_lmul hR dX8_digest_145 ?_
    refine r_aload_n hR dX8_digest_146 rfl 0 rfl ?_
    refine g_X8_sheet hR m_1_203 dX8_digest_147 ?_
    refine r_iload hR dX8_digest_150 2 rfl ?_
    obtain ⟨r_152, hc, h⟩ := bd_some h
    refine r_callVi hR (c6_signAt hc) (cf_X8_278 (by decide)) ⟨m_4_109, m_4_110⟩ (As := [.int x4]) (q0 := 3) (ci := 4) rfl rfl rfl rfl (rc_X6 ad _) (Nat.le_of_ble_eq_true rfl) rfl dX8_digest_152 ?_
    refine r_i2l hR dX8_digest_155 ?_
    refine r_ladd hR dX8_digest_156 ?_
    obtain ⟨x1_157, hx, h⟩ := bn_some h
    refine r_lstore_n hR (i := 1) (lv' := [(1, .long x1_157), (0, .ref (ad 0)), (4, .int x4)]) dX8_digest_157 hx rfl (by decide) rfl ?_
    obtain ⟨x4_158, hx, h⟩ := bn_some h
    refine r_iinc hR (i := 4) (lv' := [(4, .int x4_158), (1, .long x1_157), (0, .ref (ad 0))]) dX8_digest_158 2 rfl (inc_ok hx kc_iconst_1) (by decide) rfl ?_
    refine r_goto hR (tgt := 129) dX8_digest_161 (by decide) ?_
    exact r_sub hR [2, 1, 0] rfl (hbk129 _ _ _ h)
theorem t8_digest_l129 (hR : Rl wC 13 RX8 cX8_digest 5 (some .long) ad J P) (N : Nat) {r : Int64} {q2 : SS} (hP : P (some (.long r)) q2) : ∀ (n : Nat) (x1 : Int64) (x4 : Int32) (q : SS), f8_digest_l129 N n x1 x4 q = some (r, q2) → J [(0, .ref (ad 0)), (1, .long x1), (4, .int x4)] [] q 129 := by
  intro n
  induction n with
  | zero => intro x1 x4 q h; exact mu_noneF h
  | succ n ih => intro x1 x4 q h; exact t8_digest_l129_B hR N hP _ ih x1 x4 q h
theorem t8_digest_b126 (hR : Rl wC 13 RX8 cX8_digest 5 (some .long) ad J P) (N : Nat) {r : Int64} {q2 : SS} (hP : P (some (.long r)) q2) (x1 : Int64) (q : SS) (h : f8_digest_b126 N x1 q = some (r, q2)) : J [(0, .ref (ad 0)), (1, .long x1)] [] q 126 := by
  unfold f8_digest_b126 at h
  refine r_iconst hR dX8_digest_126 kc_iconst_0 ?_
  refine r_istore hR (i := 4) (lv' := [(4, .int (0 : Int32)), (0, .ref (ad 0)), (1, .long x1)]) dX8_digest_127 rfl (by decide) rfl ?_
  exact r_sub hR [1, 2, 0] rfl (t8_digest_l129 hR N hP N _ _ _ h)
theorem t8_digest_l6_B (hR : Rl wC 13 RX8 cX8_digest 5 (some .long) ad J P) (N : Nat) {r : Int64} {q2 : SS} (hP : P (some (.long r)) q2) (bk6 : Int64 → Int32 → SS → Option (Int64 × SS)) (hbk6 : ∀ (x1 : Int64) (x3 : Int32) (q : SS), bk6 x1 x3 q = some (r, q2) → J [(0, .ref (ad 0)), (1, .long x1), (3, .int x3)] [] q 6) (x1 : Int64) (x3 : Int32) (q : SS) (h : f8_digest_l6_B N bk6 x1 x3 q = some (r, q2)) : J [(0, .ref (ad 0)), (1, .long x1), (3, .int x3)] [] q 6 := by
  unfold f8_digest_l6_B at h
  refine r_iload_n hR dX8_digest_6 rfl 2 rfl ?_
  refine r_aload_n hR dX8_digest_7 rfl 0 rfl ?_
  refine g_X8_shelf hR m_1_201 dX8_digest_8 ?_
  obtain ⟨r_11, hc, h⟩ := bd_some h
  refine r_callVi hR (c7_tablesMade hc) (cf_X8_175 (by decide)) ⟨m_3_32, m_3_33⟩ (As := []) (q0 := 1) (ci := 5) rfl rfl rfl rfl (rc_X7 ad _) (Nat.le_of_ble_eq_true rfl) rfl dX8_digest_11 ?_
  refine r_icmp_ge hR (tgt := 30) dX8_digest_14 (by decide) (fun c_14 => ?_) (fun c_14 => ?_)
  · replace h := it_t c_14 h
    refine r_ldc2 hR dX8_digest_30 m_4_101 ?_
    refine r_lload_n hR dX8_digest_33 rfl 1 rfl ?_
    refine r_lmul hR dX8_digest_34 ?_
    refine r_aload_n hR dX8_digest_35 rfl 0 rfl ?_
    refine g_X8_shelf hR m_1_201 dX8_digest_36 ?_
    obtain ⟨r_39, hc, h⟩ := bd_some h
    refine r_callVi hR (c7_wide hc) (cf_X8_263 (by decide)) ⟨m_2_207, m_2_208⟩ (As := []) (q0 := 1) (ci := 5) rfl rfl rfl rfl (rc_X7 ad _) (Nat.le_of_ble_eq_true rfl) rfl dX8_digest_39 ?_
    refine r_i2l hR dX8_digest_42 ?_
    refine r_ladd hR dX8_digest_43 ?_
    obtain ⟨x1_44, hx, h⟩ := bn_some h
    refine r_lstore_n hR (i := 1) (lv' := [(1, .long x1_44), (0, .ref (ad 0)), (3, .int x3)]) dX8_digest_44 hx rfl (by decide) rfl ?_
    refine r_ldc2 hR dX8_digest_45 m_4_101 ?_
    refine r_lload_n hR dX8_digest_48 rfl 0 rfl ?_
    refine r_lmul hR dX8_digest_49 ?_
    refine r_aload_n hR dX8_digest_50 rfl 1 rfl ?_
    refine g_X8_shelf hR m_1_201 dX8_digest_51 ?_
    obtain ⟨r_54, hc, h⟩ := bd_some h
    refine r_callVi hR (c7_memory hc) (cf_X8_266 (by decide)) ⟨m_3_97, m_3_98⟩ (As := []) (q0 := 1) (ci := 5) rfl rfl rfl rfl (rc_X7 ad _) (Nat.le_of_ble_eq_true rfl) rfl dX8_digest_54 ?_
    refine r_i2l hR dX8_digest_57 ?_
    refine r_ladd hR dX8_digest_58 ?_
    obtain ⟨x1_59, hx, h⟩ := bn_some h
    refine r_lstore_n hR (i := 1) (lv' := [(1, .long x1_59), (0, .ref (ad 0)), (3, .int x3)]) dX8_digest_59 hx rfl (by decide) rfl ?_
    refine r_aload_n hR dX8_digest_60 rfl 1 rfl ?_
    refine g_X8_shelf hR m_1_201 dX8_digest_61 ?_
    obtain ⟨r_64, hc, h⟩ := bd_some h
    refine r_callVi hR (c7_allTables hc) (cf_X8_252 (by decide)) ⟨m_4_89, m_4_90⟩ (As := []) (q0 := 1) (ci := 5) rfl rfl rfl rfl (rc_X7 ad _) (Nat.le_of_ble_eq_true rfl) rfl dX8_digest_64 ?_
    refine r_istore_n hR (i := 3) (lv' := [(3, .int r_64), (1, .long x1_59), (0, .ref (ad 0))]) dX8_digest_67 rfl rfl (by decide) rfl ?_
    refine r_iload_n hR dX8_digest_68 rfl 0 rfl ?_
    refine r_if_eq hR (tgt := 126) dX8_digest_69 (by decide) (fun c_69 => ?_) (fun c_69 => ?_)
    · replace h := it_t c_69 h
      exact r_sub hR [2, 1] rfl (t8_digest_b126 hR N hP _ _ h)
    · replace h := it_f c_69 h
      refine r_ldc2 hR dX8_digest_72 m_4_101 ?_
      refine r_lload_n hR dX8_digest_75 rfl 1 rfl ?_
      refine r_lmul hR dX8_digest_76 ?_
      refine r_aload_n hR dX8_digest_77 rfl 2 rfl ?_
      refine r_iload_n hR dX8_digest_78 rfl 0 rfl ?_
      refine r_iconst hR dX8_digest_79 kc_iconst_0 ?_
      obtain ⟨r_80, q_80, hc, h⟩ := bd2_some h
      refine r_callVi hR (c8_size N hc) (cf_X8_269 (by decide)) ⟨m_2_133, m_2_134⟩ (As := [.int r_64, .int (0 : Int32)]) (q0 := 0) (ci := 6) rfl rfl rfl rfl (rc_X8 ad _) (Nat.le_of_ble_eq_true rfl) rfl dX8_digest_80 ?_
      refine r_i2l hR dX8_digest_83 ?_
      refine r_ladd hR dX8_digest_84 ?_
      obtain ⟨x1_85, hx, h⟩ := bn_some h
      refine r_lstore_n hR (i := 1) (lv' := [(1, .long x1_85), (3, .int r_64), (0, .ref (ad 0))]) dX8_digest_85 hx rfl (by decide) rfl ?_
      refine r_ldc2 hR dX8_digest_86 m_4_101 ?_
      refine r_lload_n hR dX8_digest_89 rfl 0 rfl ?_
      refine r_lmul hR dX8_digest_90 ?_
      refine r_aload_n hR dX8_digest_91 rfl 2 rfl ?_
      refine r_iload_n hR dX8_digest_92 rfl 1 rfl ?_
      refine r_iconst hR dX8_digest_93 kc_iconst_1 ?_
      obtain ⟨r_94, q_94, hc, h⟩ := bd2_some h
      refine r_callVi hR (c8_size N hc) (cf_X8_269 (by decide)) ⟨m_2_133, m_2_134⟩ (As := [.int r_64, .int (1 : Int32)]) (q0 := 0) (ci := 6) rfl rfl rfl rfl (rc_X8 ad _) (Nat.le_of_ble_eq_true rfl) rfl dX8_digest_94 ?_
      refine r_i2l hR dX8_digest_97 ?_
      refine r_ladd hR dX8_digest_98 ?_
      obtain ⟨x1_99, hx, h⟩ := bn_some h
      refine r_lstore_n hR (i := 1) (lv' := [(1, .long x1_99), (3, .int r_64), (0, .ref (ad 0))]) dX8_digest_99 hx rfl (by decide) rfl ?_
      refine r_ldc2 hR dX8_digest_100 m_4_101 ?_
      refine r_lload_n hR dX8_digest_103 rfl 0 rfl ?_
      refine r_lmul hR dX8_digest_104 ?_
      refine r_aload_n hR dX8_digest_105 rfl 2 rfl ?_
      refine r_iload_n hR dX8_digest_106 rfl 1 rfl ?_
      obtain ⟨r_107, q_107, hc, h⟩ := bd2_some h
      refine r_callVi hR (c8_hangs N hc) (cf_X8_272 (by decide)) ⟨m_4_3, m_4_4⟩ (As := [.int r_64]) (q0 := 0) (ci := 6) rfl rfl rfl rfl (rc_X8 ad _) (Nat.le_of_ble_eq_true rfl) rfl dX8_digest_107 ?_
      refine r_i2l hR dX8_digest_110 ?_
      refine r_ladd hR dX8_digest_111 ?_
      obtain ⟨x1_112, hx, h⟩ := bn_some h
      refine r_lstore_n hR (i := 1) (lv' := [(1, .long x1_112), (3, .int r_64), (0, .ref (ad 0))]) dX8_digest_112 hx rfl (by decide) rfl ?_
      refine r_ldc2 hR dX8_digest_113 m_4_101 ?_
      refine r_lload_n hR dX8_digest_116 rfl 0 rfl ?_
      refine r_lmul hR dX8_digest_117 ?_
      refine r_aload_n hR dX8_digest_118 rfl 2 rfl ?_
      refine r_iload_n hR dX8_digest_119 rfl 1 rfl ?_
      obtain ⟨r_120, hc, h⟩ := bd_some h
      refine r_callVi hR (c8_cover N hc) (cf_X8_275 (by decide)) ⟨m_4_72, m_4_73⟩ (As := [.int r_64]) (q0 := 0) (ci := 6) rfl rfl rfl rfl (rc_X8 ad _) (Nat.le_of_ble_eq_true rfl) rfl dX8_digest_120 ?_
      refine r_i2l hR dX8_digest_123 ?_
      refine r_ladd hR dX8_digest_124 ?_
      obtain ⟨x1_125, hx, h⟩ := bn_some h
      refine r_lstore_n hR (i := 1) (lv' := [(1, .long x1_125), (3, .int r_64), (0, .ref (ad 0))]) dX8_digest_125 hx rfl (by decide) rfl ?_
      exact r_sub hR [2, 0] rfl (t8_digest_b126 hR N hP _ _ h)
  · replace h := it_f c_14 h
    refine r_aload_n hR dX8_digest_17 rfl 0 rfl ?_
    refine r_lload_n hR dX8_digest_18 rfl 1 rfl ?_
    refine r_iload_n hR dX8_digest_19 rfl 2 rfl ?_
    obtain ⟨r_20, hc, h⟩ := bd_some h
    refine r_callVl hR (c8_digestOfTable N hc) (cf_X8_257 (by decide)) ⟨m_4_99, ms_3_5⟩ (As := [.long x1, .int x3]) (q0 := 0) (ci := 6) rfl rfl rfl rfl (rc_X8 ad _) (Nat.le_of_ble_eq_true rfl) rfl dX8_digest_20 ?_
    refine r_lstore_n hR (i := 1) (lv' := [(1, .long r_20), (0, .ref (ad 0)), (3, .int x3)]) dX8_digest_23 rfl rfl (by decide) rfl ?_
    obtain ⟨x3_24, hx, h⟩ := bn_some h
    refine r_iinc hR (i := 3) (lv' := [(3, .int x3_24), (1, .long r_20), (0, .ref (ad 0))]) dX8_digest_24 2 rfl (inc_ok hx kc_iconst_1) (by decide) rfl ?_
    refine r_goto hR (tgt := 6) dX8_digest_27 (by decide) ?_
    exact r_sub hR [2, 1, 0] rfl (hbk6 _ _ _ h)
theorem t8_digest_l6 (hR : Rl wC 13 RX8 cX8_digest 5 (some .long) ad J P) (N : Nat) {r : Int64} {q2 : SS} (hP : P (some (.long r)) q2) : ∀ (n : Nat) (x1 : Int64) (x3 : Int32) (q : SS), f8_digest_l6 N n x1 x3 q = some (r, q2) → J [(0, .ref (ad 0)), (1, .long x1), (3, .int x3)] [] q 6 := by
  intro n
  induction n with
  | zero => intro x1 x3 q h; exact mu_noneF h
  | succ n ih => intro x1 x3 q h; exact t8_digest_l6_B hR N hP _ ih x1 x3 q h
theorem t8_digest (hR : Rl wC 13 RX8 cX8_digest 5 (some .long) ad J P) (N : Nat) {r : Int64} {q2 : SS} (hP : P (some (.long r)) q2) (q : SS) (h : f8_digest N q = some (r, q2)) : J [(0, .ref (ad 0))] [] q 0 := by
  unfold f8_digest at h
  refine r_ldc2 hR dX8_digest_0 m_4_96 ?_
  refine r_lstore_n hR (i := 1) (lv' := [(1, .long (269 : Int64)), (0, .ref (ad 0))]) dX8_digest_3 rfl rfl (by decide) rfl ?_
  refine r_iconst hR dX8_digest_4 kc_iconst_0 ?_
  refine r_istore_n hR (i := 3) (lv' := [(3, .int (0 : Int32)), (1, .long (269 : Int64)), (0, .ref (ad 0))]) dX8_digest_5 rfl rfl (by decide) rfl ?_
  exact r_sub hR [2, 1, 0] rfl (t8_digest_l6 hR N hP N _ _ _ h)
theorem c8_digest (N : Nat) {q : SS} {r : Int64} {q2 : SS} (h : f8_digest N q = some (r, q2)) : Ct wC 13 yX8_digest cX8_digest 5 (some .long) (fun ad => [.ref (ad 0)]) q (fun _ => some (.long r)) q2 :=
  ct_of (by decide) (fun _ => Nat.le_of_ble_eq_true rfl) (fun ad J hR => t8_digest hR N ⟨rfl, rfl⟩ q h)
theorem t9_in (hR : Rl wM 1 RX9 cX9_in 6 (some .boolean) ad J P) {q : SS} {r : Int32} (hP : P (some (.int r)) q) (x0 : Int64) (x2 : Int64) (x4 : Int64) (h : f9_in x0 x2 x4 = some r) : J [(0, .long x0), (2, .long x2), (4, .long x4)] [] q 0 := by
  unfold f9_in at h
  refine r_lload_n hR dX9_in_0 rfl 0 rfl ?_
  refine r_lload_n hR dX9_in_1 rfl 1 rfl ?_
  refine r_lcmp hR dX9_in_2 ?_
  refine r_if_lt hR (tgt := 17) dX9_in_3 (by decide) (fun c_3 => ?_) (fun c_3 => ?_)
  · replace h := it_t ((lg_cmp_lt _ _).mp c_3) h
    refine r_iconst hR dX9_in_17 kc_iconst_0 ?_
    exact r_zret hR dX9_in_18 rfl (Or.inl rfl) (rt1 hP h)
  · replace h := it_f (fun z => c_3 ((lg_cmp_lt _ _).mpr z)) h
    refine r_lload_n hR dX9_in_6 rfl 0 rfl ?_
    refine r_lload hR dX9_in_7 2 rfl ?_
    refine r_lcmp hR dX9_in_9 ?_
    refine r_if_gt hR (tgt := 17) dX9_in_10 (by decide) (fun c_10 => ?_) (fun c_10 => ?_)
    · replace h := it_t ((lg_cmp_gt _ _).mp c_10) h
      refine r_iconst hR dX9_in_17 kc_iconst_0 ?_
      exact r_zret hR dX9_in_18 rfl (Or.inl rfl) (rt1 hP h)
    · replace h := it_f (fun z => c_10 ((lg_cmp_gt _ _).mpr z)) h
      refine r_iconst hR dX9_in_13 kc_iconst_1 ?_
      refine r_goto hR (tgt := 18) dX9_in_14 (by decide) ?_
      exact r_zret hR dX9_in_18 rfl (Or.inr rfl) (rt1 hP h)
theorem c9_in {x0 : Int64} {x2 : Int64} {x4 : Int64} {q : SS} {r : Int32} (h : f9_in x0 x2 x4 = some r) : Ct wM 1 yX9_in cX9_in 6 (some .boolean) (fun ad => [.long x0, .long x2, .long x4]) q (fun _ => some (.int r)) q :=
  ct_of (by decide) (fun _ => Nat.le_of_ble_eq_true rfl) (fun ad J hR => t9_in hR ⟨rfl, rfl⟩ x0 x2 x4 h)
theorem t9_up (hR : Rl wM 1 RX9 cX9_up 2 (some .int) ad J P) {q : SS} {r : Int32} (hP : P (some (.int r)) q) (x0 : Int32) (x1 : Int32) (h : f9_up x0 x1 = some r) : J [(0, .int x0), (1, .int x1)] [] q 0 := by
  unfold f9_up at h
  refine r_iload_n hR dX9_up_0 rfl 0 rfl ?_
  refine r_iload_n hR dX9_up_1 rfl 1 rfl ?_
  refine r_iadd hR dX9_up_2 ?_
  refine r_iconst hR dX9_up_3 kc_iconst_1 ?_
  refine r_isub hR dX9_up_4 ?_
  refine r_iload_n hR dX9_up_5 rfl 1 rfl ?_
  obtain ⟨hnz, h⟩ := dz_some h
  refine r_idiv hR dX9_up_6 hnz ?_
  exact r_iret hR dX9_up_7 rfl (rt1 hP h)
theorem c9_up {x0 : Int32} {x1 : Int32} {q : SS} {r : Int32} (h : f9_up x0 x1 = some r) : Ct wM 1 yX9_up cX9_up 2 (some .int) (fun ad => [.int x0, .int x1]) q (fun _ => some (.int r)) q :=
  ct_of (by decide) (fun _ => Nat.le_of_ble_eq_true rfl) (fun ad J hR => t9_up hR ⟨rfl, rfl⟩ x0 x1 h)
theorem t9_bitsOf_l4_B (hR : Rl wM 1 RX9 cX9_bitsOf 3 (some .int) ad J P) (N : Nat) {q : SS} {r : Int32} (hP : P (some (.int r)) q) (bk4 : Int32 → Int32 → Int32 → Option Int32) (hbk4 : ∀ (x0 : Int32) (x1 : Int32) (x2 : Int32), bk4 x0 x1 x2 = some r → J [(0, .int x0), (1, .int x1), (2, .int x2)] [] q 4) (x0 : Int32) (x1 : Int32) (x2 : Int32) (h : f9_bitsOf_l4_B N bk4 x0 x1 x2 = some r) : J [(0, .int x0), (1, .int x1), (2, .int x2)] [] q 4 := by
  unfold f9_bitsOf_l4_B at h
  refine r_iload_n hR dX9_bitsOf_4 rfl 2 rfl ?_
  refine r_bipush hR dX9_bitsOf_5 kc_bipush_8 ?_
  refine r_icmp_ge hR (tgt := 24) dX9_bitsOf_7 (by decide) (fun c_7 => ?_) (fun c_7 => ?_)
  · replace h := it_t c_7 h
    refine r_iload_n hR dX9_bitsOf_24 rfl 1 rfl ?_
    exact r_iret hR dX9_bitsOf_25 rfl (rt1 hP h)
  · replace h := it_f c_7 h
    refine r_iload_n hR dX9_bitsOf_10 rfl 1 rfl ?_
    refine r_iload_n hR dX9_bitsOf_11 rfl 0 rfl ?_
    refine r_iload_n hR dX9_bitsOf_12 rfl 2 rfl ?_
    refine r_ishr hR dX9_bitsOf_13 ?_
    refine r_iconst hR dX9_bitsOf_14 kc_iconst_1 ?_
    refine r_iand hR dX9_bitsOf_15 ?_
    refine r_iadd hR dX9_bitsOf_16 ?_
    obtain ⟨x1_17, hx, h⟩ := bn_some h
    refine r_istore_n hR (i := 1) (lv' := [(1, .int x1_17), (0, .int x0), (2, .int x2)]) dX9_bitsOf_17 hx rfl (by decide) rfl ?_
    obtain ⟨x2_18, hx, h⟩ := bn_some h
    refine r_iinc hR (i := 2) (lv' := [(2, .int x2_18), (1, .int x1_17), (0, .int x0)]) dX9_bitsOf_18 2 rfl (inc_ok hx kc_iconst_1) (by decide) rfl ?_
    refine r_goto hR (tgt := 4) dX9_bitsOf_21 (by decide) ?_
    exact r_sub hR [2, 1, 0] rfl (hbk4 _ _ _ h)
theorem t9_bitsOf_l4 (hR : Rl wM 1 RX9 cX9_bitsOf 3 (some .int) ad J P) (N : Nat) {q : SS} {r : Int32} (hP : P (some (.int r)) q) : ∀ (n : Nat) (x0 : Int32) (x1 : Int32) (x2 : Int32), f9_bitsOf_l4 N n x0 x1 x2 = some r → J [(0, .int x0), (1, .int x1), (2, .int x2)] [] q 4 := by
  intro n
  induction n with
  | zero => intro x0 x1 x2 h; exact mu_noneF h
  | succ n ih => intro x0 x1 x2 h; exact t9_bitsOf_l4_B hR N hP _ ih x0 x1 x2 h
theorem t9_bitsOf (hR : Rl wM 1 RX9 cX9_bitsOf 3 (some .int) ad J P) (N : Nat) {q : SS} {r : Int32} (hP : P (some (.int r)) q) (x0 : Int32) (h : f9_bitsOf N x0 = some r) : J [(0, .int x0)] [] q 0 := by
  unfold f9_bitsOf at h
  refine r_iconst hR dX9_bitsOf_0 kc_iconst_0 ?_
  refine r_istore_n hR (i := 1) (lv' := [(1, .int (0 : Int32)), (0, .int x0)]) dX9_bitsOf_1 rfl rfl (by decide) rfl ?_
  refine r_iconst hR dX9_bitsOf_2 kc_iconst_0 ?_
  refine r_istore_n hR (i := 2) (lv' := [(2, .int (0 : Int32)), (1, .int (0 : Int32)), (0, .int x0)]) dX9_bitsOf_3 rfl rfl (by decide) rfl ?_
  exact r_sub hR [2, 1, 0] rfl (t9_bitsOf_l4 hR N hP N _ _ _ h)
theorem c9_bitsOf (N : Nat) {x0 : Int32} {q : SS} {r : Int32} (h : f9_bitsOf N x0 = some r) : Ct wM 1 yX9_bitsOf cX9_bitsOf 3 (some .int) (fun ad => [.int x0]) q (fun _ => some (.int r)) q :=
  ct_of (by decide) (fun _ => Nat.le_of_ble_eq_true rfl) (fun ad J hR => t9_bitsOf hR N ⟨rfl, rfl⟩ x0 h)
theorem t9_isTable (hR : Rl wM 2 RX9 cX9_isTable 2 (some .boolean) ad J P) (q : SS) {r : Int32} (hP : P (some (.int r)) q) (x1 : Int32) (h : f9_isTable q x1 = some r) : J [(0, .ref (ad 0)), (1, .int x1)] [] q 0 := by
  unfold f9_isTable at h
  refine r_iload_n hR dX9_isTable_0 rfl 1 rfl ?_
  refine r_i2l hR dX9_isTable_1 ?_
  refine r_lconst hR dX9_isTable_2 kc_lconst_0 ?_
  refine r_aload_n hR dX9_isTable_3 rfl 0 rfl ?_
  refine g_X9_tables hR m_4_119 dX9_isTable_4 ?_
  refine r_iconst hR dX9_isTable_7 kc_iconst_1 ?_
  refine r_isub hR dX9_isTable_8 ?_
  refine r_i2l hR dX9_isTable_9 ?_
  obtain ⟨r_10, hc, h⟩ := bd_some h
  refine r_callSi hR (c9_in hc) (cf_X9_92 (by decide)) m_5_6 (As := [.long (Int32.toInt64 x1), .long (0 : Int64), .long (Int32.toInt64 ((fi q 0) - (1 : Int32)))]) rfl rfl (Nat.le_of_ble_eq_true rfl) rfl dX9_isTable_10 ?_
  obtain ⟨hz, h⟩ := cz_some h
  exact r_zret hR dX9_isTable_13 rfl hz (rt1 hP h)
theorem c9_isTable {x1 : Int32} {q : SS} {r : Int32} (h : f9_isTable q x1 = some r) : Ct wM 2 yX9_isTable cX9_isTable 2 (some .boolean) (fun ad => [.ref (ad 0), .int x1]) q (fun _ => some (.int r)) q :=
  ct_of (by decide) (fun _ => Nat.le_of_ble_eq_true rfl) (fun ad J hR => t9_isTable hR q ⟨rfl, rfl⟩ x1 h)
theorem t9_has (hR : Rl wM 1 RX9 cX9_has 3 (some .boolean) ad J P) (q : SS) {r : Int32} (hP : P (some (.int r)) q) (x1 : Int32) (x2 : Int32) (h : f9_has q x1 x2 = some r) : J [(0, .ref (ad 0)), (1, .int x1), (2, .int x2)] [] q 0 := by
  unfold f9_has at h
  refine r_aload_n hR dX9_has_0 rfl 0 rfl ?_
  refine g_X9_lettersOf hR m_4_120 dX9_has_1 ?_
  refine r_iload_n hR dX9_has_4 rfl 1 rfl ?_
  obtain ⟨hin, h⟩ := ck_some h
  refine ld_X9_lettersOf hR dX9_has_5 hin ?_
  refine r_iload_n hR dX9_has_6 rfl 2 rfl ?_
  refine r_ishr hR dX9_has_7 ?_
  refine r_iconst hR dX9_has_8 kc_iconst_1 ?_
  refine r_iand hR dX9_has_9 ?_
  refine r_iconst hR dX9_has_10 kc_iconst_1 ?_
  refine r_icmp_ne hR (tgt := 18) dX9_has_11 (by decide) (fun c_11 => ?_) (fun c_11 => ?_)
  · replace h := it_f c_11 h
    refine r_iconst hR dX9_has_18 kc_iconst_0 ?_
    exact r_zret hR dX9_has_19 rfl (Or.inl rfl) (rt1 hP h)
  · replace h := it_t c_11 h
    refine r_iconst hR dX9_has_14 kc_iconst_1 ?_
    refine r_goto hR (tgt := 19) dX9_has_15 (by decide) ?_
    exact r_zret hR dX9_has_19 rfl (Or.inr rfl) (rt1 hP h)
theorem c9_has {x1 : Int32} {x2 : Int32} {q : SS} {r : Int32} (h : f9_has q x1 x2 = some r) : Ct wM 1 yX9_has cX9_has 3 (some .boolean) (fun ad => [.ref (ad 0), .int x1, .int x2]) q (fun _ => some (.int r)) q :=
  ct_of (by decide) (fun _ => Nat.le_of_ble_eq_true rfl) (fun ad J hR => t9_has hR q ⟨rfl, rfl⟩ x1 x2 h)
theorem t9_table (hR : Rl wM 2 RX9 cX9_table 3 (some .int) ad J P) (N : Nat) {r : Int32} {q2 : SS} (hP : P (some (.int r)) q2) (x1 : Int32) (x2 : Int32) (q : SS) (h : f9_table N x1 x2 q = some (r, q2)) : J [(0, .ref (ad 0)), (1, .int x1), (2, .int x2)] [] q 0 := by
  unfold f9_table at h
  refine r_iload_n hR dX9_table_0 rfl 1 rfl ?_
  refine r_i2l hR dX9_table_1 ?_
  refine r_lconst hR dX9_table_2 kc_lconst_1 ?_
  refine r_ldc2 hR dX9_table_3 m_5_4 ?_
  obtain ⟨r_6, hc, h⟩ := bd_some h
  refine r_callSi hR (c9_in hc) (cf_X9_92 (by decide)) m_5_6 (As := [.long (Int32.toInt64 x1), .long (1 : Int64), .long (255 : Int64)]) rfl rfl (Nat.le_of_ble_eq_true rfl) rfl dX9_table_6 ?_
  refine r_if_eq hR (tgt := 32) dX9_table_9 (by decide) (fun c_9 => ?_) (fun c_9 => ?_)
  · replace h := it_t c_9 h
    refine r_bipush hR dX9_table_32 kc_bipush_m102 ?_
    exact r_iret hR dX9_table_34 rfl (rt2 hP h)
  · replace h := it_f c_9 h
    refine r_iload_n hR dX9_table_12 rfl 1 rfl ?_
    obtain ⟨r_13, hc, h⟩ := bd_some h
    refine r_callSi hR (c9_bitsOf N hc) (cf_X9_98 (by decide)) m_5_9 (As := [.int x1]) rfl rfl (Nat.le_of_ble_eq_true rfl) rfl dX9_table_13 ?_
    refine r_iconst hR dX9_table_16 kc_iconst_3 ?_
    refine r_icmp_gt hR (tgt := 32) dX9_table_17 (by decide) (fun c_17 => ?_) (fun c_17 => ?_)
    · replace h := it_t c_17 h
      refine r_bipush hR dX9_table_32 kc_bipush_m102 ?_
      exact r_iret hR dX9_table_34 rfl (rt2 hP h)
    · replace h := it_f c_17 h
      refine r_iload_n hR dX9_table_20 rfl 2 rfl ?_
      refine r_i2l hR dX9_table_21 ?_
      refine r_lconst hR dX9_table_22 kc_lconst_1 ?_
      refine r_ldc2 hR dX9_table_23 m_5_11 ?_
      obtain ⟨r_26, hc, h⟩ := bd_some h
      refine r_callSi hR (c9_in hc) (cf_X9_92 (by decide)) m_5_6 (As := [.long (Int32.toInt64 x2), .long (1 : Int64), .long (4 : Int64)]) rfl rfl (Nat.le_of_ble_eq_true rfl) rfl dX9_table_26 ?_
      refine r_if_ne hR (tgt := 35) dX9_table_29 (by decide) (fun c_29 => ?_) (fun c_29 => ?_)
      · replace h := it_f c_29 h
        refine r_aload_n hR dX9_table_35 rfl 0 rfl ?_
        refine g_X9_tables hR m_4_119 dX9_table_36 ?_
        refine r_bipush hR dX9_table_39 kc_bipush_6 ?_
        refine r_icmp_ne hR (tgt := 47) dX9_table_41 (by decide) (fun c_41 => ?_) (fun c_41 => ?_)
        · replace h := it_f c_41 h
          refine r_aload_n hR dX9_table_47 rfl 0 rfl ?_
          refine g_X9_lettersOf hR m_4_120 dX9_table_48 ?_
          refine r_aload_n hR dX9_table_51 rfl 0 rfl ?_
          refine g_X9_tables hR m_4_119 dX9_table_52 ?_
          refine r_iload_n hR dX9_table_55 rfl 1 rfl ?_
          obtain ⟨hin, h⟩ := ck_some h
          obtain ⟨q_56, hq, h⟩ := bn_some h
          refine sv_X9_lettersOf hR dX9_table_56 hin hq ?_
          refine r_aload_n hR dX9_table_57 rfl 0 rfl ?_
          refine g_X9_pers hR m_4_121 dX9_table_58 ?_
          refine r_aload_n hR dX9_table_61 rfl 0 rfl ?_
          refine g_X9_tables hR m_4_119 dX9_table_62 ?_
          refine r_iload_n hR dX9_table_65 rfl 2 rfl ?_
          obtain ⟨hin, h⟩ := ck_some h
          obtain ⟨q_66, hq, h⟩ := bn_some h
          refine sv_X9_pers hR dX9_table_66 hin hq ?_
          refine r_aload_n hR dX9_table_67 rfl 0 rfl ?_
          refine r_dup hR dX9_table_68 rfl ?_
          refine g_X9_tables hR m_4_119 dX9_table_69 ?_
          refine r_iconst hR dX9_table_72 kc_iconst_1 ?_
          refine r_iadd hR dX9_table_73 ?_
          obtain ⟨q_74, hq, h⟩ := bn_some h
          refine p_X9_tables hR m_4_119 dX9_table_74 hq ?_
          refine r_aload_n hR dX9_table_77 rfl 0 rfl ?_
          refine r_iconst hR dX9_table_78 kc_iconst_0 ?_
          obtain ⟨q_79, hq, h⟩ := bn_some h
          refine p_X9_isCounted hR m_4_129 dX9_table_79 (Or.inl rfl) hq ?_
          refine r_aload_n hR dX9_table_82 rfl 0 rfl ?_
          refine g_X9_tables hR m_4_119 dX9_table_83 ?_
          refine r_iconst hR dX9_table_86 kc_iconst_1 ?_
          refine r_isub hR dX9_table_87 ?_
          exact r_iret hR dX9_table_88 rfl (rt2 hP h)
        · replace h := it_t c_41 h
          refine r_bipush hR dX9_table_44 kc_bipush_m104 ?_
          exact r_iret hR dX9_table_46 rfl (rt2 hP h)
      · replace h := it_t c_29 h
        refine r_bipush hR dX9_table_32 kc_bipush_m102 ?_
        exact r_iret hR dX9_table_34 rfl (rt2 hP h)
theorem c9_table (N : Nat) {x1 : Int32} {x2 : Int32} {q : SS} {r : Int32} {q2 : SS} (h : f9_table N x1 x2 q = some (r, q2)) : Ct wM 2 yX9_table cX9_table 3 (some .int) (fun ad => [.ref (ad 0), .int x1, .int x2]) q (fun _ => some (.int r)) q2 :=
  ct_of (by decide) (fun _ => Nat.le_of_ble_eq_true rfl) (fun ad J hR => t9_table hR N ⟨rfl, rfl⟩ x1 x2 q h)
theorem t9_letterAt_b35 (hR : Rl wM 2 RX9 cX9_letterAt 5 (some .int) ad J P) (N : Nat) (q : SS) {r : Int32} (hP : P (some (.int r)) q) (bk5 : Int32 → Int32 → Int32 → Option Int32) (hbk5 : ∀ (x1 : Int32) (x3 : Int32) (x4 : Int32), bk5 x1 x3 x4 = some r → J [(0, .ref (ad 0)), (1, .int x1), (3, .int x3), (4, .int x4)] [] q 5) (x1 : Int32) (x4 : Int32) (s0 : Int32) (s1 : Int32) (h : f9_letterAt_b35 N q bk5 x1 x4 s0 s1 = some r) : J [(0, .ref (ad 0)), (1, .int x1), (4, .int x4)] [.int s0, .int s1] q 35 := by
  unfold f9_letterAt_b35 at h
  refine r_isub hR dX9_letterAt_35 ?_
  obtain ⟨x3_36, hx, h⟩ := bn_some h
  refine r_istore_n hR (i := 3) (lv' := [(3, .int x3_36), (0, .ref (ad 0)), (1, .int x1), (4, .int x4)]) dX9_letterAt_36 hx rfl (by decide) rfl ?_
  obtain ⟨x4_37, hx, h⟩ := bn_some h
  refine r_iinc hR (i := 4) (lv' := [(4, .int x4_37), (3, .int x3_36), (0, .ref (ad 0)), (1, .int x1)]) dX9_letterAt_37 3 rfl (inc_ok hx kc_iconst_1) (by decide) rfl ?_
  refine r_goto hR (tgt := 5) dX9_letterAt_40 (by decide) ?_
  exact r_sub hR [2, 3, 1, 0] rfl (hbk5 _ _ _ h)
theorem t9_letterAt_b19 (hR : Rl wM 2 RX9 cX9_letterAt 5 (some .int) ad J P) (N : Nat) (q : SS) {r : Int32} (hP : P (some (.int r)) q) (bk5 : Int32 → Int32 → Int32 → Option Int32) (hbk5 : ∀ (x1 : Int32) (x3 : Int32) (x4 : Int32), bk5 x1 x3 x4 = some r → J [(0, .ref (ad 0)), (1, .int x1), (3, .int x3), (4, .int x4)] [] q 5) (x1 : Int32) (x3 : Int32) (x4 : Int32) (h : f9_letterAt_b19 N q bk5 x1 x3 x4 = some r) : J [(0, .ref (ad 0)), (1, .int x1), (3, .int x3), (4, .int x4)] [] q 19 := by
  unfold f9_letterAt_b19 at h
  refine r_iload_n hR dX9_letterAt_19 rfl 2 rfl ?_
  refine r_aload_n hR dX9_letterAt_20 rfl 0 rfl ?_
  refine r_iload_n hR dX9_letterAt_21 rfl 1 rfl ?_
  refine r_iload hR dX9_letterAt_22 3 rfl ?_
  obtain ⟨r_24, hc, h⟩ := bd_some h
  refine r_callVi hR (c9_has hc) (cf_X9_108 (by decide)) ⟨m_5_31, ms_3_9⟩ (As := [.int x1, .int x4]) (q0 := 0) (ci := 7) rfl rfl rfl rfl (rc_X9 ad _) (Nat.le_of_ble_eq_true rfl) rfl dX9_letterAt_24 ?_
  refine r_if_eq hR (tgt := 34) dX9_letterAt_27 (by decide) (fun c_27 => ?_) (fun c_27 => ?_)
  · replace h := it_t c_27 h
    refine r_iconst hR dX9_letterAt_34 kc_iconst_0 ?_
    exact r_sub hR [0, 1, 3] rfl (t9_letterAt_b35 hR N q hP bk5 hbk5 _ _ _ _ h)
  · replace h := it_f c_27 h
    refine r_iconst hR dX9_letterAt_30 kc_iconst_1 ?_
    refine r_goto hR (tgt := 35) dX9_letterAt_31 (by decide) ?_
    exact r_sub hR [0, 1, 3] rfl (t9_letterAt_b35 hR N q hP bk5 hbk5 _ _ _ _ h)
theorem t9_letterAt_l5_B (hR : Rl wM 2 RX9 cX9_letterAt 5 (some .int) ad J P) (N : Nat) (q : SS) {r : Int32} (hP : P (some (.int r)) q) (bk5 : Int32 → Int32 → Int32 → Option Int32) (hbk5 : ∀ (x1 : Int32) (x3 : Int32) (x4 : Int32), bk5 x1 x3 x4 = some r → J [(0, .ref (ad 0)), (1, .int x1), (3, .int x3), (4, .int x4)] [] q 5) (x1 : Int32) (x3 : Int32) (x4 : Int32) (h : f9_letterAt_l5_B N q bk5 x1 x3 x4 = some r) : J [(0, .ref (ad 0)), (1, .int x1), (3, .int x3), (4, .int x4)] [] q 5 := by
  unfold f9_letterAt_l5_B at h
  refine r_aload_n hR dX9_letterAt_5 rfl 0 rfl ?_
  refine r_iload_n hR dX9_letterAt_6 rfl 1 rfl ?_
  refine r_iload hR dX9_letterAt_7 3 rfl ?_
  obtain ⟨r_9, hc, h⟩ := bd_some h
  refine r_callVi hR (c9_has hc) (cf_X9_108 (by decide)) ⟨m_5_31, ms_3_9⟩ (As := [.int x1, .int x4]) (q0 := 0) (ci := 7) rfl rfl rfl rfl (rc_X9 ad _) (Nat.le_of_ble_eq_true rfl) rfl dX9_letterAt_9 ?_
  refine r_if_eq hR (tgt := 19) dX9_letterAt_12 (by decide) (fun c_12 => ?_) (fun c_12 => ?_)
  · replace h := it_t c_12 h
    exact r_sub hR [0, 1, 2, 3] rfl (t9_letterAt_b19 hR N q hP bk5 hbk5 _ _ _ h)
  · replace h := it_f c_12 h
    refine r_iload_n hR dX9_letterAt_15 rfl 2 rfl ?_
    refine r_if_le hR (tgt := 43) dX9_letterAt_16 (by decide) (fun c_16 => ?_) (fun c_16 => ?_)
    · replace h := it_t c_16 h
      refine r_iload hR dX9_letterAt_43 3 rfl ?_
      exact r_iret hR dX9_letterAt_45 rfl (rt1 hP h)
    · replace h := it_f c_16 h
      exact r_sub hR [0, 1, 2, 3] rfl (t9_letterAt_b19 hR N q hP bk5 hbk5 _ _ _ h)
theorem t9_letterAt_l5 (hR : Rl wM 2 RX9 cX9_letterAt 5 (some .int) ad J P) (N : Nat) (q : SS) {r : Int32} (hP : P (some (.int r)) q) : ∀ (n : Nat) (x1 : Int32) (x3 : Int32) (x4 : Int32), f9_letterAt_l5 N q n x1 x3 x4 = some r → J [(0, .ref (ad 0)), (1, .int x1), (3, .int x3), (4, .int x4)] [] q 5 := by
  intro n
  induction n with
  | zero => intro x1 x3 x4 h; exact mu_noneF h
  | succ n ih => intro x1 x3 x4 h; exact t9_letterAt_l5_B hR N q hP _ ih x1 x3 x4 h
theorem t9_letterAt (hR : Rl wM 2 RX9 cX9_letterAt 5 (some .int) ad J P) (N : Nat) (q : SS) {r : Int32} (hP : P (some (.int r)) q) (x1 : Int32) (x2 : Int32) (h : f9_letterAt N q x1 x2 = some r) : J [(0, .ref (ad 0)), (1, .int x1), (2, .int x2)] [] q 0 := by
  unfold f9_letterAt at h
  refine r_iload_n hR dX9_letterAt_0 rfl 2 rfl ?_
  refine r_istore_n hR (i := 3) (lv' := [(3, .int x2), (0, .ref (ad 0)), (1, .int x1), (2, .int x2)]) dX9_letterAt_1 rfl rfl (by decide) rfl ?_
  refine r_iconst hR dX9_letterAt_2 kc_iconst_0 ?_
  refine r_istore hR (i := 4) (lv' := [(4, .int (0 : Int32)), (3, .int x2), (0, .ref (ad 0)), (1, .int x1), (2, .int x2)]) dX9_letterAt_3 rfl (by decide) rfl ?_
  exact r_sub hR [2, 3, 1, 0] rfl (t9_letterAt_l5 hR N q hP N _ _ _ h)
theorem c9_letterAt (N : Nat) {x1 : Int32} {x2 : Int32} {q : SS} {r : Int32} (h : f9_letterAt N q x1 x2 = some r) : Ct wM 2 yX9_letterAt cX9_letterAt 5 (some .int) (fun ad => [.ref (ad 0), .int x1, .int x2]) q (fun _ => some (.int r)) q :=
  ct_of (by decide) (fun _ => Nat.le_of_ble_eq_true rfl) (fun ad J hR => t9_letterAt hR N q ⟨rfl, rfl⟩ x1 x2 h)
theorem t9_lay_b68 (hR : Rl wM 3 RX9 cX9_lay 7 none ad J P) (N : Nat) {q2 : SS} (hP : P none q2) (bk14 : Int32 → Int32 → Int32 → Int32 → Int32 → Int32 → SS → Option SS) (hbk14 : ∀ (x1 : Int32) (x2 : Int32) (x3 : Int32) (x4 : Int32) (x5 : Int32) (x6 : Int32) (q : SS), bk14 x1 x2 x3 x4 x5 x6 q = some q2 → J [(0, .ref (ad 0)), (1, .int x1), (2, .int x2), (3, .int x3), (4, .int x4), (5, .int x5), (6, .int x6)] [] q 14) (x1 : Int32) (x2 : Int32) (x3 : Int32) (x4 : Int32) (x5 : Int32) (x6 : Int32) (s0 : Int32) (s1 : Int32) (q : SS) (h : f9_lay_b68 N bk14 x1 x2 x3 x4 x5 x6 s0 s1 q = some q2) : J [(0, .ref (ad 0)), (1, .int x1), (2, .int x2), (3, .int x3), (4, .int x4), (5, .int x5), (6, .int x6)] [.int s0, .int s1, .ref (ad 4)] q 68 := by
  unfold f9_lay_b68 at h
  obtain ⟨hin, h⟩ := ck_some h
  obtain ⟨q_68, hq, h⟩ := bn_some h
  refine sv_X9_numbers hR dX9_lay_68 hin hq ?_
  obtain ⟨x6_69, hx, h⟩ := bn_some h
  refine r_iinc hR (i := 6) (lv' := [(6, .int x6_69), (0, .ref (ad 0)), (1, .int x1), (2, .int x2), (3, .int x3), (4, .int x4), (5, .int x5)]) dX9_lay_69 6 rfl (inc_ok hx kc_iconst_1) (by decide) rfl ?_
  refine r_goto hR (tgt := 14) dX9_lay_72 (by decide) ?_
  exact r_sub hR [1, 2, 3, 4, 5, 6, 0] rfl (hbk14 _ _ _ _ _ _ _ h)
theorem t9_lay_l14_B (hR : Rl wM 3 RX9 cX9_lay 7 none ad J P) (N : Nat) {q2 : SS} (hP : P none q2) (bk14 : Int32 → Int32 → Int32 → Int32 → Int32 → Int32 → SS → Option SS) (hbk14 : ∀ (x1 : Int32) (x2 : Int32) (x3 : Int32) (x4 : Int32) (x5 : Int32) (x6 : Int32) (q : SS), bk14 x1 x2 x3 x4 x5 x6 q = some q2 → J [(0, .ref (ad 0)), (1, .int x1), (2, .int x2), (3, .int x3), (4, .int x4), (5, .int x5), (6, .int x6)] [] q 14) (x1 : Int32) (x2 : Int32) (x3 : Int32) (x4 : Int32) (x5 : Int32) (x6 : Int32) (q : SS) (h : f9_lay_l14_B N bk14 x1 x2 x3 x4 x5 x6 q = some q2) : J [(0, .ref (ad 0)), (1, .int x1), (2, .int x2), (3, .int x3), (4, .int x4), (5, .int x5), (6, .int x6)] [] q 14 := by
  unfold f9_lay_l14_B at h
  refine r_iload hR dX9_lay_14 6 rfl ?_
  refine r_iload hR dX9_lay_16 5 rfl ?_
  refine r_icmp_ge hR (tgt := 75) dX9_lay_18 (by decide) (fun c_18 => ?_) (fun c_18 => ?_)
  · replace h := it_t c_18 h
    refine r_aload_n hR dX9_lay_75 rfl 0 rfl ?_
    refine g_X9_rows hR m_4_122 dX9_lay_76 ?_
    refine r_iload_n hR dX9_lay_79 rfl 1 rfl ?_
    refine r_dup2 hR dX9_lay_80 rfl rfl ?_
    obtain ⟨hin, h⟩ := ck_some h
    refine ld_X9_rows hR dX9_lay_81 hin ?_
    refine r_iconst hR dX9_lay_82 kc_iconst_1 ?_
    refine r_iadd hR dX9_lay_83 ?_
    obtain ⟨hin, h⟩ := ck_some h
    obtain ⟨q_84, hq, h⟩ := bn_some h
    refine sv_X9_rows hR dX9_lay_84 hin hq ?_
    refine r_aload_n hR dX9_lay_85 rfl 0 rfl ?_
    refine r_iconst hR dX9_lay_86 kc_iconst_0 ?_
    obtain ⟨q_87, hq, h⟩ := bn_some h
    refine p_X9_isCounted hR m_4_129 dX9_lay_87 (Or.inl rfl) hq ?_
    exact r_vret hR dX9_lay_90 rfl (rtv hP h)
  · replace h := it_f c_18 h
    refine r_aload_n hR dX9_lay_21 rfl 0 rfl ?_
    refine g_X9_numbers hR m_4_123 dX9_lay_22 ?_
    refine r_bipush hR dX9_lay_25 kc_bipush_64 ?_
    refine r_iload_n hR dX9_lay_27 rfl 1 rfl ?_
    refine r_imul hR dX9_lay_28 ?_
    refine r_bipush hR dX9_lay_29 kc_bipush_8 ?_
    refine r_aload_n hR dX9_lay_31 rfl 0 rfl ?_
    refine g_X9_rows hR m_4_122 dX9_lay_32 ?_
    refine r_iload_n hR dX9_lay_35 rfl 1 rfl ?_
    obtain ⟨hin, h⟩ := ck_some h
    refine ld_X9_rows hR dX9_lay_36 hin ?_
    refine r_imul hR dX9_lay_37 ?_
    refine r_iadd hR dX9_lay_38 ?_
    refine r_aload_n hR dX9_lay_39 rfl 0 rfl ?_
    refine r_iload_n hR dX9_lay_40 rfl 1 rfl ?_
    refine r_iload hR dX9_lay_41 6 rfl ?_
    obtain ⟨r_43, hc, h⟩ := bd_some h
    refine r_callVi hR (c9_letterAt N hc) (cf_X9_112 (by decide)) ⟨m_5_27, ms_3_8⟩ (As := [.int x1, .int x6]) (q0 := 0) (ci := 7) rfl rfl rfl rfl (rc_X9 ad _) (Nat.le_of_ble_eq_true rfl) rfl dX9_lay_43 ?_
    refine r_iadd hR dX9_lay_46 ?_
    refine r_iload hR dX9_lay_47 6 rfl ?_
    refine r_if_ne hR (tgt := 56) dX9_lay_49 (by decide) (fun c_49 => ?_) (fun c_49 => ?_)
    · replace h := it_f c_49 h
      refine r_iload hR dX9_lay_56 6 rfl ?_
      refine r_iconst hR dX9_lay_58 kc_iconst_1 ?_
      refine r_icmp_ne hR (tgt := 66) dX9_lay_59 (by decide) (fun c_59 => ?_) (fun c_59 => ?_)
      · replace h := it_f c_59 h
        refine r_iload hR dX9_lay_66 4 rfl ?_
        exact r_sub hR [0, 1, 2, 3, 4, 5, 6] rfl (t9_lay_b68 hR N hP bk14 hbk14 _ _ _ _ _ _ _ _ _ h)
      · replace h := it_t c_59 h
        refine r_iload_n hR dX9_lay_62 rfl 3 rfl ?_
        refine r_goto hR (tgt := 68) dX9_lay_63 (by decide) ?_
        exact r_sub hR [0, 1, 2, 3, 4, 5, 6] rfl (t9_lay_b68 hR N hP bk14 hbk14 _ _ _ _ _ _ _ _ _ h)
    · replace h := it_t c_49 h
      refine r_iload_n hR dX9_lay_52 rfl 2 rfl ?_
      refine r_goto hR (tgt := 68) dX9_lay_53 (by decide) ?_
      exact r_sub hR [0, 1, 2, 3, 4, 5, 6] rfl (t9_lay_b68 hR N hP bk14 hbk14 _ _ _ _ _ _ _ _ _ h)
theorem t9_lay_l14 (hR : Rl wM 3 RX9 cX9_lay 7 none ad J P) (N : Nat) {q2 : SS} (hP : P none q2) : ∀ (n : Nat) (x1 : Int32) (x2 : Int32) (x3 : Int32) (x4 : Int32) (x5 : Int32) (x6 : Int32) (q : SS), f9_lay_l14 N n x1 x2 x3 x4 x5 x6 q = some q2 → J [(0, .ref (ad 0)), (1, .int x1), (2, .int x2), (3, .int x3), (4, .int x4), (5, .int x5), (6, .int x6)] [] q 14 := by
  intro n
  induction n with
  | zero => intro x1 x2 x3 x4 x5 x6 q h; exact mu_noneF h
  | succ n ih => intro x1 x2 x3 x4 x5 x6 q h; exact t9_lay_l14_B hR N hP _ ih x1 x2 x3 x4 x5 x6 q h
theorem t9_lay (hR : Rl wM 3 RX9 cX9_lay 7 none ad J P) (N : Nat) {q2 : SS} (hP : P none q2) (x1 : Int32) (x2 : Int32) (x3 : Int32) (x4 : Int32) (q : SS) (h : f9_lay N x1 x2 x3 x4 q = some q2) : J [(0, .ref (ad 0)), (1, .int x1), (2, .int x2), (3, .int x3), (4, .int x4)] [] q 0 := by
  unfold f9_lay at h
  refine r_aload_n hR dX9_lay_0 rfl 0 rfl ?_
  refine g_X9_lettersOf hR m_4_120 dX9_lay_1 ?_
  refine r_iload_n hR dX9_lay_4 rfl 1 rfl ?_
  obtain ⟨hin, h⟩ := ck_some h
  refine ld_X9_lettersOf hR dX9_lay_5 hin ?_
  obtain ⟨r_6, hc, h⟩ := bd_some h
  refine r_callSi hR (c9_bitsOf N hc) (cf_X9_98 (by decide)) m_5_9 (As := [.int (ar q 1 (ix x1))]) rfl rfl (Nat.le_of_ble_eq_true rfl) rfl dX9_lay_6 ?_
  refine r_istore hR (i := 5) (lv' := [(5, .int r_6), (0, .ref (ad 0)), (1, .int x1), (2, .int x2), (3, .int x3), (4, .int x4)]) dX9_lay_9 rfl (by decide) rfl ?_
  refine r_iconst hR dX9_lay_11 kc_iconst_0 ?_
  refine r_istore hR (i := 6) (lv' := [(6, .int (0 : Int32)), (5, .int r_6), (0, .ref (ad 0)), (1, .int x1), (2, .int x2), (3, .int x3), (4, .int x4)]) dX9_lay_12 rfl (by decide) rfl ?_
  exact r_sub hR [2, 3, 4, 5, 6, 1, 0] rfl (t9_lay_l14 hR N hP N _ _ _ _ _ _ _ h)
theorem c9_lay (N : Nat) {x1 : Int32} {x2 : Int32} {x3 : Int32} {x4 : Int32} {q : SS} {q2 : SS} (h : f9_lay N x1 x2 x3 x4 q = some q2) : Ct wM 3 yX9_lay cX9_lay 7 none (fun ad => [.ref (ad 0), .int x1, .int x2, .int x3, .int x4]) q (fun _ => none) q2 :=
  ct_of (by decide) (fun _ => Nat.le_of_ble_eq_true rfl) (fun ad J hR => t9_lay hR N ⟨rfl, rfl⟩ x1 x2 x3 x4 q h)
end
