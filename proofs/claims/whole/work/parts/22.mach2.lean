section
variable {ad : Nat → Nat} {J : JT} {P : PT} {ld : Nat}
theorem t1_fullCut_l90_B (hR : Rl wC 5 RX1 cX1_fullCut 3 (some .boolean) ad J P) (N : Nat) {r : Int32} {q2 : SS} (hP : P (some (.int r)) q2) (bk90 : Int32 → SS → Option (Int32 × SS)) (hbk90 : ∀ (x2 : Int32) (q : SS), bk90 x2 q = some (r, q2) → J [(0, .ref (ad 6)), (2, .int x2)] [] q 90) (x2 : Int32) (q : SS) (h : f1_fullCut_l90_B N bk90 x2 q = some (r, q2)) : J [(0, .ref (ad 6)), (2, .int x2)] [] q 90 := by
  unfold f1_fullCut_l90_B at h
  refine r_iload_n hR dX1_fullCut_90 rfl 1 rfl ?_
  refine r_if_lt hR (tgt := 120) dX1_fullCut_91 (by decide) (fun c_91 => ?_) (fun c_91 => ?_)
  · replace h := it_t c_91 h
    refine r_iconst hR dX1_fullCut_120 kc_iconst_1 ?_
    exact r_zret hR dX1_fullCut_121 rfl (Or.inr rfl) (rt2 hP h)
  · replace h := it_f c_91 h
    refine r_aload_n hR dX1_fullCut_94 rfl 0 rfl ?_
    refine r_aload_n hR dX1_fullCut_95 rfl 0 rfl ?_
    refine g_X1_order hR m_1_183 dX1_fullCut_96 ?_
    refine r_iload_n hR dX1_fullCut_99 rfl 1 rfl ?_
    obtain ⟨hin, h⟩ := ck_some h
    refine ld_X1_order hR dX1_fullCut_100 hin ?_
    refine r_aload_n hR dX1_fullCut_101 rfl 0 rfl ?_
    refine r_aload_n hR dX1_fullCut_102 rfl 0 rfl ?_
    refine g_X1_order hR m_1_183 dX1_fullCut_103 ?_
    refine r_iload_n hR dX1_fullCut_106 rfl 1 rfl ?_
    obtain ⟨hin, h⟩ := ck_some h
    refine ld_X1_order hR dX1_fullCut_107 hin ?_
    obtain ⟨r_108, hc, h⟩ := bd_some h
    refine r_callVi hR (c1_hookOf hc) (cf_X1_61 (by decide)) ⟨m_4_34, m_4_35⟩ (As := [.int (ar q 27 (ix x2))]) (q0 := 6) (ci := 1) rfl rfl rfl rfl (rc_X1 ad _) (Nat.le_of_ble_eq_true rfl) rfl dX1_fullCut_108 ?_
    obtain ⟨q_111, hc, h⟩ := bd_some h
    refine r_callVv hR (c1_cut N hc) (cf_X1_64 (by decide)) ⟨m_4_50, ms_3_3⟩ (As := [.int (ar q 27 (ix x2)), .int r_108]) (q0 := 6) (ci := 1) rfl rfl rfl rfl (rc_X1 ad _) (Nat.le_of_ble_eq_true rfl) rfl dX1_fullCut_111 ?_
    obtain ⟨x2_114, hx, h⟩ := bn_some h
    refine r_iinc hR (i := 2) (lv' := [(2, .int x2_114), (0, .ref (ad 6))]) dX1_fullCut_114 1 rfl (inc_ok hx kc_iconst_m1) (by decide) rfl ?_
    refine r_goto hR (tgt := 90) dX1_fullCut_117 (by decide) ?_
    exact r_sub hR [1, 0] rfl (hbk90 _ _ h)
theorem t1_fullCut_l90 (hR : Rl wC 5 RX1 cX1_fullCut 3 (some .boolean) ad J P) (N : Nat) {r : Int32} {q2 : SS} (hP : P (some (.int r)) q2) : ∀ (n : Nat) (x2 : Int32) (q : SS), f1_fullCut_l90 N n x2 q = some (r, q2) → J [(0, .ref (ad 6)), (2, .int x2)] [] q 90 := by
  intro n
  induction n with
  | zero => intro x2 q h; exact mu_noneF h
  | succ n ih => intro x2 q h; exact t1_fullCut_l90_B hR N hP _ ih x2 q h
theorem t1_fullCut_l49_B (hR : Rl wC 5 RX1 cX1_fullCut 3 (some .boolean) ad J P) (N : Nat) {r : Int32} {q2 : SS} (hP : P (some (.int r)) q2) (bk49 : Int32 → SS → Option (Int32 × SS)) (hbk49 : ∀ (x2 : Int32) (q : SS), bk49 x2 q = some (r, q2) → J [(0, .ref (ad 6)), (2, .int x2)] [] q 49) (x2 : Int32) (q : SS) (h : f1_fullCut_l49_B N bk49 x2 q = some (r, q2)) : J [(0, .ref (ad 6)), (2, .int x2)] [] q 49 := by
  unfold f1_fullCut_l49_B at h
  refine r_iload_n hR dX1_fullCut_49 rfl 1 rfl ?_
  refine r_aload_n hR dX1_fullCut_50 rfl 0 rfl ?_
  refine g_X1_gone hR m_1_186 dX1_fullCut_51 ?_
  refine r_icmp_ge hR (tgt := 83) dX1_fullCut_54 (by decide) (fun c_54 => ?_) (fun c_54 => ?_)
  · replace h := it_t c_54 h
    refine r_aload_n hR dX1_fullCut_83 rfl 0 rfl ?_
    refine g_X1_gone hR m_1_186 dX1_fullCut_84 ?_
    refine r_iconst hR dX1_fullCut_87 kc_iconst_1 ?_
    refine r_isub hR dX1_fullCut_88 ?_
    obtain ⟨x2_89, hx, h⟩ := bn_some h
    refine r_istore_n hR (i := 2) (lv' := [(2, .int x2_89), (0, .ref (ad 6))]) dX1_fullCut_89 hx rfl (by decide) rfl ?_
    exact r_sub hR [1, 0] rfl (t1_fullCut_l90 hR N hP N _ _ h)
  · replace h := it_f c_54 h
    refine r_aload_n hR dX1_fullCut_57 rfl 0 rfl ?_
    refine r_aload_n hR dX1_fullCut_58 rfl 0 rfl ?_
    refine r_aload_n hR dX1_fullCut_59 rfl 0 rfl ?_
    refine g_X1_order hR m_1_183 dX1_fullCut_60 ?_
    refine r_iload_n hR dX1_fullCut_63 rfl 1 rfl ?_
    obtain ⟨hin, h⟩ := ck_some h
    refine ld_X1_order hR dX1_fullCut_64 hin ?_
    obtain ⟨r_65, hc, h⟩ := bd_some h
    refine r_callVi hR (c1_hookOf hc) (cf_X1_61 (by decide)) ⟨m_4_34, m_4_35⟩ (As := [.int (ar q 27 (ix x2))]) (q0 := 6) (ci := 1) rfl rfl rfl rfl (rc_X1 ad _) (Nat.le_of_ble_eq_true rfl) rfl dX1_fullCut_65 ?_
    refine r_aload_n hR dX1_fullCut_68 rfl 0 rfl ?_
    refine g_X1_order hR m_1_183 dX1_fullCut_69 ?_
    refine r_iload_n hR dX1_fullCut_72 rfl 1 rfl ?_
    obtain ⟨hin, h⟩ := ck_some h
    refine ld_X1_order hR dX1_fullCut_73 hin ?_
    obtain ⟨q_74, hc, h⟩ := bd_some h
    refine r_callVv hR (c1_cut N hc) (cf_X1_64 (by decide)) ⟨m_4_50, ms_3_3⟩ (As := [.int r_65, .int (ar q 27 (ix x2))]) (q0 := 6) (ci := 1) rfl rfl rfl rfl (rc_X1 ad _) (Nat.le_of_ble_eq_true rfl) rfl dX1_fullCut_74 ?_
    obtain ⟨x2_77, hx, h⟩ := bn_some h
    refine r_iinc hR (i := 2) (lv' := [(2, .int x2_77), (0, .ref (ad 6))]) dX1_fullCut_77 1 rfl (inc_ok hx kc_iconst_1) (by decide) rfl ?_
    refine r_goto hR (tgt := 49) dX1_fullCut_80 (by decide) ?_
    exact r_sub hR [1, 0] rfl (hbk49 _ _ h)
theorem t1_fullCut_l49 (hR : Rl wC 5 RX1 cX1_fullCut 3 (some .boolean) ad J P) (N : Nat) {r : Int32} {q2 : SS} (hP : P (some (.int r)) q2) : ∀ (n : Nat) (x2 : Int32) (q : SS), f1_fullCut_l49 N n x2 q = some (r, q2) → J [(0, .ref (ad 6)), (2, .int x2)] [] q 49 := by
  intro n
  induction n with
  | zero => intro x2 q h; exact mu_noneF h
  | succ n ih => intro x2 q h; exact t1_fullCut_l49_B hR N hP _ ih x2 q h
theorem t1_fullCut_l17_B (hR : Rl wC 5 RX1 cX1_fullCut 3 (some .boolean) ad J P) (N : Nat) {r : Int32} {q2 : SS} (hP : P (some (.int r)) q2) (bk17 : Int32 → SS → Option (Int32 × SS)) (hbk17 : ∀ (x2 : Int32) (q : SS), bk17 x2 q = some (r, q2) → J [(0, .ref (ad 6)), (2, .int x2)] [] q 17) (x2 : Int32) (q : SS) (h : f1_fullCut_l17_B N bk17 x2 q = some (r, q2)) : J [(0, .ref (ad 6)), (2, .int x2)] [] q 17 := by
  unfold f1_fullCut_l17_B at h
  refine r_iload_n hR dX1_fullCut_17 rfl 1 rfl ?_
  refine r_bipush hR dX1_fullCut_18 kc_bipush_6 ?_
  refine r_icmp_ge hR (tgt := 47) dX1_fullCut_20 (by decide) (fun c_20 => ?_) (fun c_20 => ?_)
  · replace h := it_t c_20 h
    refine r_iconst hR dX1_fullCut_47 kc_iconst_0 ?_
    refine r_istore_n hR (i := 2) (lv' := [(2, .int (0 : Int32)), (0, .ref (ad 6))]) dX1_fullCut_48 rfl rfl (by decide) rfl ?_
    exact r_sub hR [1, 0] rfl (t1_fullCut_l49 hR N hP N _ _ h)
  · replace h := it_f c_20 h
    refine r_aload_n hR dX1_fullCut_23 rfl 0 rfl ?_
    refine g_X1_rowBits hR m_1_185 dX1_fullCut_24 ?_
    refine r_iload_n hR dX1_fullCut_27 rfl 1 rfl ?_
    refine r_iconst hR dX1_fullCut_28 kc_iconst_1 ?_
    refine r_aload_n hR dX1_fullCut_29 rfl 0 rfl ?_
    refine g_X1_shelf hR m_1_182 dX1_fullCut_30 ?_
    refine r_iload_n hR dX1_fullCut_33 rfl 1 rfl ?_
    obtain ⟨r_34, hc, h⟩ := bd_some h
    refine r_callVi hR (c7_rowsOf hc) (cf_X1_58 (by decide)) ⟨m_2_13, m_2_14⟩ (As := [.int x2]) (q0 := 1) (ci := 5) rfl rfl rfl rfl (rc_X7 ad _) (Nat.le_of_ble_eq_true rfl) rfl dX1_fullCut_34 ?_
    refine r_ishl hR dX1_fullCut_37 ?_
    refine r_iconst hR dX1_fullCut_38 kc_iconst_1 ?_
    refine r_isub hR dX1_fullCut_39 ?_
    obtain ⟨hin, h⟩ := ck_some h
    obtain ⟨q_40, hq, h⟩ := bn_some h
    refine sv_X1_rowBits hR dX1_fullCut_40 hin hq ?_
    obtain ⟨x2_41, hx, h⟩ := bn_some h
    refine r_iinc hR (i := 2) (lv' := [(2, .int x2_41), (0, .ref (ad 6))]) dX1_fullCut_41 1 rfl (inc_ok hx kc_iconst_1) (by decide) rfl ?_
    refine r_goto hR (tgt := 17) dX1_fullCut_44 (by decide) ?_
    exact r_sub hR [1, 0] rfl (hbk17 _ _ h)
theorem t1_fullCut_l17 (hR : Rl wC 5 RX1 cX1_fullCut 3 (some .boolean) ad J P) (N : Nat) {r : Int32} {q2 : SS} (hP : P (some (.int r)) q2) : ∀ (n : Nat) (x2 : Int32) (q : SS), f1_fullCut_l17 N n x2 q = some (r, q2) → J [(0, .ref (ad 6)), (2, .int x2)] [] q 17 := by
  intro n
  induction n with
  | zero => intro x2 q h; exact mu_noneF h
  | succ n ih => intro x2 q h; exact t1_fullCut_l17_B hR N hP _ ih x2 q h
theorem t1_fullCut (hR : Rl wC 5 RX1 cX1_fullCut 3 (some .boolean) ad J P) (N : Nat) {r : Int32} {q2 : SS} (hP : P (some (.int r)) q2) (x1 : Int32) (q : SS) (h : f1_fullCut N x1 q = some (r, q2)) : J [(0, .ref (ad 6)), (1, .int x1)] [] q 0 := by
  unfold f1_fullCut at h
  refine r_aload_n hR dX1_fullCut_0 rfl 0 rfl ?_
  refine r_iload_n hR dX1_fullCut_1 rfl 1 rfl ?_
  obtain ⟨r_2, q_2, hc, h⟩ := bd2_some h
  refine r_callVi hR (c1_takeAway N hc) (cf_X1_51 (by decide)) ⟨m_4_7, m_4_8⟩ (As := [.int x1]) (q0 := 6) (ci := 1) rfl rfl rfl rfl (rc_X1 ad _) (Nat.le_of_ble_eq_true rfl) rfl dX1_fullCut_2 ?_
  refine r_if_ne hR (tgt := 10) dX1_fullCut_5 (by decide) (fun c_5 => ?_) (fun c_5 => ?_)
  · replace h := it_f c_5 h
    refine r_aload_n hR dX1_fullCut_10 rfl 0 rfl ?_
    refine r_iconst hR dX1_fullCut_11 kc_iconst_0 ?_
    obtain ⟨q_12, hq, h⟩ := bn_some h
    refine p_X1_cutRows hR m_1_187 dX1_fullCut_12 hq ?_
    refine r_iconst hR dX1_fullCut_15 kc_iconst_0 ?_
    refine r_istore_n hR (i := 2) (lv' := [(2, .int (0 : Int32)), (0, .ref (ad 6)), (1, .int x1)]) dX1_fullCut_16 rfl rfl (by decide) rfl ?_
    exact r_sub hR [1, 0] rfl (t1_fullCut_l17 hR N hP N _ _ h)
  · replace h := it_t c_5 h
    refine r_iconst hR dX1_fullCut_8 kc_iconst_0 ?_
    exact r_zret hR dX1_fullCut_9 rfl (Or.inl rfl) (rt2 hP h)
theorem c1_fullCut (N : Nat) {x1 : Int32} {q : SS} {r : Int32} {q2 : SS} (h : f1_fullCut N x1 q = some (r, q2)) : Ct wC 5 yX1_fullCut cX1_fullCut 3 (some .boolean) (fun ad => [.ref (ad 6), .int x1]) q (fun _ => some (.int r)) q2 :=
  ct_of (by decide) (fun _ => Nat.le_of_ble_eq_true rfl) (fun ad J hR => t1_fullCut hR N ⟨rfl, rfl⟩ x1 q h)
theorem t1_rowsLeft (hR : Rl wC 1 RX1 cX1_rowsLeft 2 (some .int) ad J P) (q : SS) {r : Int32} (hP : P (some (.int r)) q) (x1 : Int32) (h : f1_rowsLeft q x1 = some r) : J [(0, .ref (ad 6)), (1, .int x1)] [] q 0 := by
  unfold f1_rowsLeft at h
  refine r_iload_n hR dX1_rowsLeft_0 rfl 1 rfl ?_
  refine r_if_lt hR (tgt := 19) dX1_rowsLeft_1 (by decide) (fun c_1 => ?_) (fun c_1 => ?_)
  · replace h := it_t c_1 h
    refine r_iconst hR dX1_rowsLeft_19 kc_iconst_0 ?_
    exact r_iret hR dX1_rowsLeft_20 rfl (rt1 hP h)
  · replace h := it_f c_1 h
    refine r_iload_n hR dX1_rowsLeft_4 rfl 1 rfl ?_
    refine r_bipush hR dX1_rowsLeft_5 kc_bipush_6 ?_
    refine r_icmp_ge hR (tgt := 19) dX1_rowsLeft_7 (by decide) (fun c_7 => ?_) (fun c_7 => ?_)
    · replace h := it_t c_7 h
      refine r_iconst hR dX1_rowsLeft_19 kc_iconst_0 ?_
      exact r_iret hR dX1_rowsLeft_20 rfl (rt1 hP h)
    · replace h := it_f c_7 h
      refine r_aload_n hR dX1_rowsLeft_10 rfl 0 rfl ?_
      refine g_X1_rowBits hR m_1_185 dX1_rowsLeft_11 ?_
      refine r_iload_n hR dX1_rowsLeft_14 rfl 1 rfl ?_
      obtain ⟨hin, h⟩ := ck_some h
      refine ld_X1_rowBits hR dX1_rowsLeft_15 hin ?_
      refine r_goto hR (tgt := 20) dX1_rowsLeft_16 (by decide) ?_
      exact r_iret hR dX1_rowsLeft_20 rfl (rt1 hP h)
theorem c1_rowsLeft {x1 : Int32} {q : SS} {r : Int32} (h : f1_rowsLeft q x1 = some r) : Ct wC 1 yX1_rowsLeft cX1_rowsLeft 2 (some .int) (fun ad => [.ref (ad 6), .int x1]) q (fun _ => some (.int r)) q :=
  ct_of (by decide) (fun _ => Nat.le_of_ble_eq_true rfl) (fun ad J hR => t1_rowsLeft hR q ⟨rfl, rfl⟩ x1 h)
theorem t1_rowsCut (hR : Rl wC 1 RX1 cX1_rowsCut 1 (some .int) ad J P) (q : SS) {r : Int32} (hP : P (some (.int r)) q) (h : f1_rowsCut q = some r) : J [(0, .ref (ad 6))] [] q 0 := by
  unfold f1_rowsCut at h
  refine r_aload_n hR dX1_rowsCut_0 rfl 0 rfl ?_
  refine g_X1_cutRows hR m_1_187 dX1_rowsCut_1 ?_
  exact r_iret hR dX1_rowsCut_4 rfl (rt1 hP h)
theorem c1_rowsCut {q : SS} {r : Int32} (h : f1_rowsCut q = some r) : Ct wC 1 yX1_rowsCut cX1_rowsCut 1 (some .int) (fun ad => [.ref (ad 6)]) q (fun _ => some (.int r)) q :=
  ct_of (by decide) (fun _ => Nat.le_of_ble_eq_true rfl) (fun ad J hR => t1_rowsCut hR q ⟨rfl, rfl⟩ h)
theorem t2_holdTable (hR : Rl wC 4 RX2 cX2_holdTable 2 none ad J P) (N : Nat) {q2 : SS} (hP : P none q2) (x1 : Int32) (q : SS) (h : f2_holdTable N x1 q = some q2) : J [(0, .ref (ad 4)), (1, .int x1)] [] q 0 := by
  unfold f2_holdTable at h
  refine r_aload_n hR dX2_holdTable_0 rfl 0 rfl ?_
  refine g_X2_held hR m_1_117 dX2_holdTable_1 ?_
  refine r_if_lt hR (tgt := 16) dX2_holdTable_4 (by decide) (fun c_4 => ?_) (fun c_4 => ?_)
  · replace h := it_t c_4 h
    exact r_vret hR dX2_holdTable_16 rfl (rtv hP h)
  · replace h := it_f c_4 h
    refine r_aload_n hR dX2_holdTable_7 rfl 0 rfl ?_
    refine g_X2_held hR m_1_117 dX2_holdTable_8 ?_
    refine r_bipush hR dX2_holdTable_11 kc_bipush_6 ?_
    refine r_icmp_lt hR (tgt := 17) dX2_holdTable_13 (by decide) (fun c_13 => ?_) (fun c_13 => ?_)
    · replace h := it_t c_13 h
      refine r_aload_n hR dX2_holdTable_17 rfl 0 rfl ?_
      refine g_X2_sets hR m_1_112 dX2_holdTable_18 ?_
      refine r_aload_n hR dX2_holdTable_21 rfl 0 rfl ?_
      refine g_X2_held hR m_1_117 dX2_holdTable_22 ?_
      refine r_iconst hR dX2_holdTable_25 kc_iconst_1 ?_
      refine r_iload_n hR dX2_holdTable_26 rfl 1 rfl ?_
      refine r_ishl hR dX2_holdTable_27 ?_
      obtain ⟨hin, h⟩ := ck_some h
      obtain ⟨q_28, hq, h⟩ := bn_some h
      refine sv_X2_sets hR dX2_holdTable_28 hin hq ?_
      refine r_aload_n hR dX2_holdTable_29 rfl 0 rfl ?_
      refine g_X2_costs hR m_1_113 dX2_holdTable_30 ?_
      refine r_aload_n hR dX2_holdTable_33 rfl 0 rfl ?_
      refine g_X2_held hR m_1_117 dX2_holdTable_34 ?_
      refine r_aload_n hR dX2_holdTable_37 rfl 0 rfl ?_
      refine g_X2_shelf hR m_1_110 dX2_holdTable_38 ?_
      refine r_iload_n hR dX2_holdTable_41 rfl 1 rfl ?_
      obtain ⟨r_42, hc, h⟩ := bd_some h
      refine r_callVi hR (c7_pagesOfTable hc) (cf_X2_65 (by decide)) ⟨m_2_96, m_2_97⟩ (As := [.int x1]) (q0 := 1) (ci := 5) rfl rfl rfl rfl (rc_X7 ad _) (Nat.le_of_ble_eq_true rfl) rfl dX2_holdTable_42 ?_
      obtain ⟨hin, h⟩ := ck_some h
      obtain ⟨q_45, hq, h⟩ := bn_some h
      refine sv_X2_costs hR dX2_holdTable_45 hin hq ?_
      refine r_aload_n hR dX2_holdTable_46 rfl 0 rfl ?_
      refine g_X2_orders hR m_1_114 dX2_holdTable_47 ?_
      refine r_aload_n hR dX2_holdTable_50 rfl 0 rfl ?_
      refine g_X2_held hR m_1_117 dX2_holdTable_51 ?_
      refine r_aload_n hR dX2_holdTable_54 rfl 0 rfl ?_
      refine g_X2_shelf hR m_1_110 dX2_holdTable_55 ?_
      refine r_iload_n hR dX2_holdTable_58 rfl 1 rfl ?_
      obtain ⟨r_59, hc, h⟩ := bd_some h
      refine r_callVi hR (c7_sortedLetter N hc) (cf_X2_71 (by decide)) ⟨m_2_104, m_2_105⟩ (As := [.int x1]) (q0 := 1) (ci := 5) rfl rfl rfl rfl (rc_X7 ad _) (Nat.le_of_ble_eq_true rfl) rfl dX2_holdTable_59 ?_
      obtain ⟨hin, h⟩ := ck_some h
      obtain ⟨q_62, hq, h⟩ := bn_some h
      refine sv_X2_orders hR dX2_holdTable_62 hin hq ?_
      refine r_aload_n hR dX2_holdTable_63 rfl 0 rfl ?_
      refine r_dup hR dX2_holdTable_64 rfl ?_
      refine g_X2_held hR m_1_117 dX2_holdTable_65 ?_
      refine r_iconst hR dX2_holdTable_68 kc_iconst_1 ?_
      refine r_iadd hR dX2_holdTable_69 ?_
      obtain ⟨q_70, hq, h⟩ := bn_some h
      refine p_X2_held hR m_1_117 dX2_holdTable_70 hq ?_
      exact r_vret hR dX2_holdTable_73 rfl (rtv hP h)
    · replace h := it_f c_13 h
      exact r_vret hR dX2_holdTable_16 rfl (rtv hP h)
theorem c2_holdTable (N : Nat) {x1 : Int32} {q : SS} {q2 : SS} (h : f2_holdTable N x1 q = some q2) : Ct wC 4 yX2_holdTable cX2_holdTable 2 none (fun ad => [.ref (ad 4), .int x1]) q (fun _ => none) q2 :=
  ct_of (by decide) (fun _ => Nat.le_of_ble_eq_true rfl) (fun ad J hR => t2_holdTable hR N ⟨rfl, rfl⟩ x1 q h)
theorem t2_holdWay (hR : Rl wC 1 RX2 cX2_holdWay 2 none ad J P) {q2 : SS} (hP : P none q2) (x1 : Int32) (q : SS) (h : f2_holdWay x1 q = some q2) : J [(0, .ref (ad 4)), (1, .int x1)] [] q 0 := by
  unfold f2_holdWay at h
  refine r_aload_n hR dX2_holdWay_0 rfl 0 rfl ?_
  refine g_X2_waiting hR m_1_118 dX2_holdWay_1 ?_
  refine r_if_lt hR (tgt := 16) dX2_holdWay_4 (by decide) (fun c_4 => ?_) (fun c_4 => ?_)
  · replace h := it_t c_4 h
    exact r_vret hR dX2_holdWay_16 rfl (rtv hP h)
  · replace h := it_f c_4 h
    refine r_aload_n hR dX2_holdWay_7 rfl 0 rfl ?_
    refine g_X2_waiting hR m_1_118 dX2_holdWay_8 ?_
    refine r_bipush hR dX2_holdWay_11 kc_bipush_6 ?_
    refine r_icmp_lt hR (tgt := 17) dX2_holdWay_13 (by decide) (fun c_13 => ?_) (fun c_13 => ?_)
    · replace h := it_t c_13 h
      refine r_aload_n hR dX2_holdWay_17 rfl 0 rfl ?_
      refine g_X2_ways hR m_1_116 dX2_holdWay_18 ?_
      refine r_aload_n hR dX2_holdWay_21 rfl 0 rfl ?_
      refine g_X2_waiting hR m_1_118 dX2_holdWay_22 ?_
      refine r_iload_n hR dX2_holdWay_25 rfl 1 rfl ?_
      obtain ⟨hin, h⟩ := ck_some h
      obtain ⟨q_26, hq, h⟩ := bn_some h
      refine sv_X2_ways hR dX2_holdWay_26 hin hq ?_
      refine r_aload_n hR dX2_holdWay_27 rfl 0 rfl ?_
      refine r_dup hR dX2_holdWay_28 rfl ?_
      refine g_X2_waiting hR m_1_118 dX2_holdWay_29 ?_
      refine r_iconst hR dX2_holdWay_32 kc_iconst_1 ?_
      refine r_iadd hR dX2_holdWay_33 ?_
      obtain ⟨q_34, hq, h⟩ := bn_some h
      refine p_X2_waiting hR m_1_118 dX2_holdWay_34 hq ?_
      exact r_vret hR dX2_holdWay_37 rfl (rtv hP h)
    · replace h := it_f c_13 h
      exact r_vret hR dX2_holdWay_16 rfl (rtv hP h)
theorem c2_holdWay {x1 : Int32} {q : SS} {q2 : SS} (h : f2_holdWay x1 q = some q2) : Ct wC 1 yX2_holdWay cX2_holdWay 2 none (fun ad => [.ref (ad 4), .int x1]) q (fun _ => none) q2 :=
  ct_of (by decide) (fun _ => Nat.le_of_ble_eq_true rfl) (fun ad J hR => t2_holdWay hR ⟨rfl, rfl⟩ x1 q h)
theorem t2_sortingUnless (hR : Rl wC 3 RX2 cX2_sortingUnless 3 (some .int) ad J P) (N : Nat) (q : SS) {r : Int32} (hP : P (some (.int r)) q) (x1 : Int32) (x2 : Int32) (h : f2_sortingUnless N q x1 x2 = some r) : J [(0, .ref (ad 4)), (1, .int x1), (2, .int x2)] [] q 0 := by
  unfold f2_sortingUnless at h
  refine r_iload_n hR dX2_sortingUnless_0 rfl 1 rfl ?_
  refine r_if_lt hR (tgt := 20) dX2_sortingUnless_1 (by decide) (fun c_1 => ?_) (fun c_1 => ?_)
  · replace h := it_t c_1 h
    refine r_iconst hR dX2_sortingUnless_20 kc_iconst_0 ?_
    exact r_iret hR dX2_sortingUnless_21 rfl (rt1 hP h)
  · replace h := it_f c_1 h
    refine r_iload_n hR dX2_sortingUnless_4 rfl 1 rfl ?_
    refine r_bipush hR dX2_sortingUnless_5 kc_bipush_6 ?_
    refine r_icmp_ge hR (tgt := 20) dX2_sortingUnless_7 (by decide) (fun c_7 => ?_) (fun c_7 => ?_)
    · replace h := it_t c_7 h
      refine r_iconst hR dX2_sortingUnless_20 kc_iconst_0 ?_
      exact r_iret hR dX2_sortingUnless_21 rfl (rt1 hP h)
    · replace h := it_f c_7 h
      refine r_aload_n hR dX2_sortingUnless_10 rfl 0 rfl ?_
      refine g_X2_orders hR m_1_114 dX2_sortingUnless_11 ?_
      refine r_iload_n hR dX2_sortingUnless_14 rfl 1 rfl ?_
      obtain ⟨hin, h⟩ := ck_some h
      refine ld_X2_orders hR dX2_sortingUnless_15 hin ?_
      refine r_iload_n hR dX2_sortingUnless_16 rfl 2 rfl ?_
      refine r_icmp_ne hR (tgt := 22) dX2_sortingUnless_17 (by decide) (fun c_17 => ?_) (fun c_17 => ?_)
      · replace h := it_f c_17 h
        refine r_aload_n hR dX2_sortingUnless_22 rfl 0 rfl ?_
        refine g_X2_pageCounts hR m_1_115 dX2_sortingUnless_23 ?_
        refine r_iload_n hR dX2_sortingUnless_26 rfl 1 rfl ?_
        obtain ⟨hin, h⟩ := ck_some h
        refine ld_X2_pageCounts hR dX2_sortingUnless_27 hin ?_
        refine r_aload_n hR dX2_sortingUnless_28 rfl 0 rfl ?_
        refine g_X2_shelf hR m_1_110 dX2_sortingUnless_29 ?_
        obtain ⟨r_32, hc, h⟩ := bd_some h
        refine r_callVi hR (c7_memory hc) (cf_X2_77 (by decide)) ⟨m_3_97, m_3_98⟩ (As := []) (q0 := 1) (ci := 5) rfl rfl rfl rfl (rc_X7 ad _) (Nat.le_of_ble_eq_true rfl) rfl dX2_sortingUnless_32 ?_
        obtain ⟨r_35, hc, h⟩ := bd_some h
        refine r_callSi hR (c5_sorting N hc) (cf_X2_98 (by decide)) m_3_114 (As := [.int (ar q 20 (ix x1)), .int r_32]) rfl rfl (Nat.le_of_ble_eq_true rfl) rfl dX2_sortingUnless_35 ?_
        exact r_iret hR dX2_sortingUnless_38 rfl (rt1 hP h)
      · replace h := it_t c_17 h
        refine r_iconst hR dX2_sortingUnless_20 kc_iconst_0 ?_
        exact r_iret hR dX2_sortingUnless_21 rfl (rt1 hP h)
theorem c2_sortingUnless (N : Nat) {x1 : Int32} {x2 : Int32} {q : SS} {r : Int32} (h : f2_sortingUnless N q x1 x2 = some r) : Ct wC 3 yX2_sortingUnless cX2_sortingUnless 3 (some .int) (fun ad => [.ref (ad 4), .int x1, .int x2]) q (fun _ => some (.int r)) q :=
  ct_of (by decide) (fun _ => Nat.le_of_ble_eq_true rfl) (fun ad J hR => t2_sortingUnless hR N q ⟨rfl, rfl⟩ x1 x2 h)
theorem t2_joinLastTwo_b260 (hR : Rl wC 4 RX2 cX2_joinLastTwo 6 none ad J P) (N : Nat) {q2 : SS} (hP : P none q2) (x1 : Int32) (x2 : Int32) (q : SS) (h : f2_joinLastTwo_b260 N x1 x2 q = some q2) : J [(0, .ref (ad 4)), (1, .int x1), (2, .int x2)] [] q 260 := by
  unfold f2_joinLastTwo_b260 at h
  refine r_aload_n hR dX2_joinLastTwo_260 rfl 0 rfl ?_
  refine g_X2_sets hR m_1_112 dX2_joinLastTwo_261 ?_
  refine r_iload_n hR dX2_joinLastTwo_264 rfl 1 rfl ?_
  refine r_dup2 hR dX2_joinLastTwo_265 rfl rfl ?_
  obtain ⟨hin, h⟩ := ck_some h
  refine ld_X2_sets hR dX2_joinLastTwo_266 hin ?_
  refine r_aload_n hR dX2_joinLastTwo_267 rfl 0 rfl ?_
  refine g_X2_sets hR m_1_112 dX2_joinLastTwo_268 ?_
  refine r_iload_n hR dX2_joinLastTwo_271 rfl 2 rfl ?_
  obtain ⟨hin, h⟩ := ck_some h
  refine ld_X2_sets hR dX2_joinLastTwo_272 hin ?_
  refine r_ior hR dX2_joinLastTwo_273 ?_
  obtain ⟨hin, h⟩ := ck_some h
  obtain ⟨q_274, hq, h⟩ := bn_some h
  refine sv_X2_sets hR dX2_joinLastTwo_274 hin hq ?_
  refine r_aload_n hR dX2_joinLastTwo_275 rfl 0 rfl ?_
  refine r_dup hR dX2_joinLastTwo_276 rfl ?_
  refine g_X2_joins hR m_1_119 dX2_joinLastTwo_277 ?_
  refine r_iconst hR dX2_joinLastTwo_280 kc_iconst_1 ?_
  refine r_iadd hR dX2_joinLastTwo_281 ?_
  obtain ⟨q_282, hq, h⟩ := bn_some h
  refine p_X2_joins hR m_1_119 dX2_joinLastTwo_282 hq ?_
  exact r_vret hR dX2_joinLastTwo_285 rfl (rtv hP h)
theorem t2_joinLastTwo (hR : Rl wC 4 RX2 cX2_joinLastTwo 6 none ad J P) (N : Nat) {q2 : SS} (hP : P none q2) (q : SS) (h : f2_joinLastTwo N q = some q2) : J [(0, .ref (ad 4))] [] q 0 := by
  unfold f2_joinLastTwo at h
  refine r_aload_n hR dX2_joinLastTwo_0 rfl 0 rfl ?_
  refine g_X2_held hR m_1_117 dX2_joinLastTwo_1 ?_
  refine r_iconst hR dX2_joinLastTwo_4 kc_iconst_2 ?_
  refine r_icmp_lt hR (tgt := 34) dX2_joinLastTwo_5 (by decide) (fun c_5 => ?_) (fun c_5 => ?_)
  · replace h := it_t c_5 h
    exact r_vret hR dX2_joinLastTwo_34 rfl (rtv hP h)
  · replace h := it_f c_5 h
    refine r_aload_n hR dX2_joinLastTwo_8 rfl 0 rfl ?_
    refine g_X2_held hR m_1_117 dX2_joinLastTwo_9 ?_
    refine r_bipush hR dX2_joinLastTwo_12 kc_bipush_6 ?_
    refine r_icmp_gt hR (tgt := 34) dX2_joinLastTwo_14 (by decide) (fun c_14 => ?_) (fun c_14 => ?_)
    · replace h := it_t c_14 h
      exact r_vret hR dX2_joinLastTwo_34 rfl (rtv hP h)
    · replace h := it_f c_14 h
      refine r_aload_n hR dX2_joinLastTwo_17 rfl 0 rfl ?_
      refine g_X2_waiting hR m_1_118 dX2_joinLastTwo_18 ?_
      refine r_iconst hR dX2_joinLastTwo_21 kc_iconst_1 ?_
      refine r_icmp_lt hR (tgt := 34) dX2_joinLastTwo_22 (by decide) (fun c_22 => ?_) (fun c_22 => ?_)
      · replace h := it_t c_22 h
        exact r_vret hR dX2_joinLastTwo_34 rfl (rtv hP h)
      · replace h := it_f c_22 h
        refine r_aload_n hR dX2_joinLastTwo_25 rfl 0 rfl ?_
        refine g_X2_waiting hR m_1_118 dX2_joinLastTwo_26 ?_
        refine r_bipush hR dX2_joinLastTwo_29 kc_bipush_6 ?_
        refine r_icmp_le hR (tgt := 35) dX2_joinLastTwo_31 (by decide) (fun c_31 => ?_) (fun c_31 => ?_)
        · replace h := it_t c_31 h
          refine r_aload_n hR dX2_joinLastTwo_35 rfl 0 rfl ?_
          refine r_dup hR dX2_joinLastTwo_36 rfl ?_
          refine g_X2_waiting hR m_1_118 dX2_joinLastTwo_37 ?_
          refine r_iconst hR dX2_joinLastTwo_40 kc_iconst_1 ?_
          refine r_isub hR dX2_joinLastTwo_41 ?_
          obtain ⟨q_42, hq, h⟩ := bn_some h
          refine p_X2_waiting hR m_1_118 dX2_joinLastTwo_42 hq ?_
          refine r_aload_n hR dX2_joinLastTwo_45 rfl 0 rfl ?_
          refine r_dup hR dX2_joinLastTwo_46 rfl ?_
          refine g_X2_held hR m_1_117 dX2_joinLastTwo_47 ?_
          refine r_iconst hR dX2_joinLastTwo_50 kc_iconst_1 ?_
          refine r_isub hR dX2_joinLastTwo_51 ?_
          obtain ⟨q_52, hq, h⟩ := bn_some h
          refine p_X2_held hR m_1_117 dX2_joinLastTwo_52 hq ?_
          refine r_aload_n hR dX2_joinLastTwo_55 rfl 0 rfl ?_
          refine g_X2_held hR m_1_117 dX2_joinLastTwo_56 ?_
          refine r_iconst hR dX2_joinLastTwo_59 kc_iconst_1 ?_
          refine r_isub hR dX2_joinLastTwo_60 ?_
          obtain ⟨x1_61, hx, h⟩ := bn_some h
          refine r_istore_n hR (i := 1) (lv' := [(1, .int x1_61), (0, .ref (ad 4))]) dX2_joinLastTwo_61 hx rfl (by decide) rfl ?_
          refine r_aload_n hR dX2_joinLastTwo_62 rfl 1 rfl ?_
          refine g_X2_held hR m_1_117 dX2_joinLastTwo_63 ?_
          obtain ⟨x2_66, hx, h⟩ := bn_some h
          refine r_istore_n hR (i := 2) (lv' := [(2, .int x2_66), (1, .int x1_61), (0, .ref (ad 4))]) dX2_joinLastTwo_66 hx rfl (by decide) rfl ?_
          refine r_aload_n hR dX2_joinLastTwo_67 rfl 2 rfl ?_
          refine g_X2_shelf hR m_1_110 dX2_joinLastTwo_68 ?_
          refine r_aload_n hR dX2_joinLastTwo_71 rfl 2 rfl ?_
          refine g_X2_sets hR m_1_112 dX2_joinLastTwo_72 ?_
          refine r_iload_n hR dX2_joinLastTwo_75 rfl 1 rfl ?_
          obtain ⟨hin, h⟩ := ck_some h
          refine ld_X2_sets hR dX2_joinLastTwo_76 hin ?_
          obtain ⟨r_77, hc, h⟩ := bd_some h
          refine r_callVi hR (c7_lettersOfSet N hc) (cf_X2_74 (by decide)) ⟨m_2_175, m_2_176⟩ (As := [.int (ar q_52 17 (ix x1_61))]) (q0 := 1) (ci := 5) rfl rfl rfl rfl (rc_X7 ad _) (Nat.le_of_ble_eq_true rfl) rfl dX2_joinLastTwo_77 ?_
          refine r_aload_n hR dX2_joinLastTwo_80 rfl 2 rfl ?_
          refine g_X2_shelf hR m_1_110 dX2_joinLastTwo_81 ?_
          refine r_aload_n hR dX2_joinLastTwo_84 rfl 2 rfl ?_
          refine g_X2_sets hR m_1_112 dX2_joinLastTwo_85 ?_
          refine r_iload_n hR dX2_joinLastTwo_88 rfl 0 rfl ?_
          obtain ⟨hin, h⟩ := ck_some h
          refine ld_X2_sets hR dX2_joinLastTwo_89 hin ?_
          obtain ⟨r_90, hc, h⟩ := bd_some h
          refine r_callVi hR (c7_lettersOfSet N hc) (cf_X2_74 (by decide)) ⟨m_2_175, m_2_176⟩ (As := [.int (ar q_52 17 (ix x2_66))]) (q0 := 1) (ci := 5) rfl rfl rfl rfl (rc_X7 ad _) (Nat.le_of_ble_eq_true rfl) rfl dX2_joinLastTwo_90 ?_
          refine r_iand hR dX2_joinLastTwo_93 ?_
          obtain ⟨x3_94, hx, h⟩ := bn_some h
          refine r_istore_n hR (i := 3) (lv' := [(3, .int x3_94), (2, .int x2_66), (1, .int x1_61), (0, .ref (ad 4))]) dX2_joinLastTwo_94 hx rfl (by decide) rfl ?_
          refine r_aload_n hR dX2_joinLastTwo_95 rfl 3 rfl ?_
          refine g_X2_ways hR m_1_116 dX2_joinLastTwo_96 ?_
          refine r_aload_n hR dX2_joinLastTwo_99 rfl 3 rfl ?_
          refine g_X2_waiting hR m_1_118 dX2_joinLastTwo_100 ?_
          obtain ⟨hin, h⟩ := ck_some h
          refine ld_X2_ways hR dX2_joinLastTwo_103 hin ?_
          obtain ⟨x4_104, hx, h⟩ := bn_some h
          refine r_istore hR (i := 4) (lv' := [(4, .int x4_104), (3, .int x3_94), (2, .int x2_66), (1, .int x1_61), (0, .ref (ad 4))]) dX2_joinLastTwo_104 hx (by decide) rfl ?_
          refine r_aload_n hR dX2_joinLastTwo_106 rfl 4 rfl ?_
          refine g_X2_costs hR m_1_113 dX2_joinLastTwo_107 ?_
          refine r_iload_n hR dX2_joinLastTwo_110 rfl 3 rfl ?_
          refine r_dup2 hR dX2_joinLastTwo_111 rfl rfl ?_
          obtain ⟨hin, h⟩ := ck_some h
          refine ld_X2_costs hR dX2_joinLastTwo_112 hin ?_
          refine r_aload_n hR dX2_joinLastTwo_113 rfl 4 rfl ?_
          refine g_X2_costs hR m_1_113 dX2_joinLastTwo_114 ?_
          refine r_iload_n hR dX2_joinLastTwo_117 rfl 2 rfl ?_
          obtain ⟨hin, h⟩ := ck_some h
          refine ld_X2_costs hR dX2_joinLastTwo_118 hin ?_
          refine r_iadd hR dX2_joinLastTwo_119 ?_
          obtain ⟨hin, h⟩ := ck_some h
          obtain ⟨q_120, hq, h⟩ := bn_some h
          refine sv_X2_costs hR dX2_joinLastTwo_120 hin hq ?_
          refine r_iload hR dX2_joinLastTwo_121 0 rfl ?_
          refine r_bipush hR dX2_joinLastTwo_123 kc_bipush_108 ?_
          refine r_icmp_ne hR (tgt := 162) dX2_joinLastTwo_125 (by decide) (fun c_125 => ?_) (fun c_125 => ?_)
          · replace h := it_f c_125 h
            refine r_iload_n hR dX2_joinLastTwo_162 rfl 1 rfl ?_
            refine r_if_ne hR (tgt := 174) dX2_joinLastTwo_163 (by decide) (fun c_163 => ?_) (fun c_163 => ?_)
            · replace h := it_f c_163 h
              refine r_iload hR dX2_joinLastTwo_174 0 rfl ?_
              refine r_bipush hR dX2_joinLastTwo_176 kc_bipush_112 ?_
              refine r_icmp_ne hR (tgt := 222) dX2_joinLastTwo_178 (by decide) (fun c_178 => ?_) (fun c_178 => ?_)
              · replace h := it_f c_178 h
                refine r_iload_n hR dX2_joinLastTwo_222 rfl 1 rfl ?_
                obtain ⟨r_223, hc, h⟩ := bd_some h
                refine r_callSi hR (cJ6_numberOfTrailingZeros hc) (cf_X2_90 (by decide)) m_2_201 (As := [.int x3_94]) rfl rfl (Nat.le_of_ble_eq_true rfl) rfl dX2_joinLastTwo_223 ?_
                refine r_istore hR (i := 5) (lv' := [(5, .int r_223), (4, .int x4_104), (3, .int x3_94), (2, .int x2_66), (1, .int x1_61), (0, .ref (ad 4))]) dX2_joinLastTwo_226 rfl (by decide) rfl ?_
                refine r_aload_n hR dX2_joinLastTwo_228 rfl 5 rfl ?_
                refine g_X2_costs hR m_1_113 dX2_joinLastTwo_229 ?_
                refine r_iload_n hR dX2_joinLastTwo_232 rfl 4 rfl ?_
                refine r_dup2 hR dX2_joinLastTwo_233 rfl rfl ?_
                obtain ⟨hin, h⟩ := ck_some h
                refine ld_X2_costs hR dX2_joinLastTwo_234 hin ?_
                refine r_aload_n hR dX2_joinLastTwo_235 rfl 5 rfl ?_
                refine r_iload_n hR dX2_joinLastTwo_236 rfl 4 rfl ?_
                refine r_iload hR dX2_joinLastTwo_237 0 rfl ?_
                obtain ⟨r_239, hc, h⟩ := bd_some h
                refine r_callVi hR (c2_sortingUnless N hc) (cf_X2_95 (by decide)) ⟨m_3_111, ms_2_3⟩ (As := [.int x1_61, .int r_223]) (q0 := 4) (ci := 2) rfl rfl rfl rfl (rc_X2 ad _) (Nat.le_of_ble_eq_true rfl) rfl dX2_joinLastTwo_239 ?_
                refine r_aload_n hR dX2_joinLastTwo_242 rfl 5 rfl ?_
                refine r_iload_n hR dX2_joinLastTwo_243 rfl 3 rfl ?_
                refine r_iload hR dX2_joinLastTwo_244 0 rfl ?_
                obtain ⟨r_246, hc, h⟩ := bd_some h
                refine r_callVi hR (c2_sortingUnless N hc) (cf_X2_95 (by decide)) ⟨m_3_111, ms_2_3⟩ (As := [.int x2_66, .int r_223]) (q0 := 4) (ci := 2) rfl rfl rfl rfl (rc_X2 ad _) (Nat.le_of_ble_eq_true rfl) rfl dX2_joinLastTwo_246 ?_
                refine r_iadd hR dX2_joinLastTwo_249 ?_
                refine r_iadd hR dX2_joinLastTwo_250 ?_
                obtain ⟨hin, h⟩ := ck_some h
                obtain ⟨q_251, hq, h⟩ := bn_some h
                refine sv_X2_costs hR dX2_joinLastTwo_251 hin hq ?_
                refine r_aload_n hR dX2_joinLastTwo_252 rfl 5 rfl ?_
                refine g_X2_orders hR m_1_114 dX2_joinLastTwo_253 ?_
                refine r_iload_n hR dX2_joinLastTwo_256 rfl 4 rfl ?_
                refine r_iload hR dX2_joinLastTwo_257 0 rfl ?_
                obtain ⟨hin, h⟩ := ck_some h
                obtain ⟨q_259, hq, h⟩ := bn_some h
                refine sv_X2_orders hR dX2_joinLastTwo_259 hin hq ?_
                exact r_sub hR [5, 4, 3] rfl (t2_joinLastTwo_b260 hR N hP _ _ _ h)
              · replace h := it_t c_178 h
                refine r_aload_n hR dX2_joinLastTwo_181 rfl 4 rfl ?_
                refine g_X2_costs hR m_1_113 dX2_joinLastTwo_182 ?_
                refine r_iload_n hR dX2_joinLastTwo_185 rfl 3 rfl ?_
                refine r_dup2 hR dX2_joinLastTwo_186 rfl rfl ?_
                obtain ⟨hin, h⟩ := ck_some h
                refine ld_X2_costs hR dX2_joinLastTwo_187 hin ?_
                refine r_aload_n hR dX2_joinLastTwo_188 rfl 4 rfl ?_
                refine g_X2_pageCounts hR m_1_115 dX2_joinLastTwo_189 ?_
                refine r_iload_n hR dX2_joinLastTwo_192 rfl 3 rfl ?_
                obtain ⟨hin, h⟩ := ck_some h
                refine ld_X2_pageCounts hR dX2_joinLastTwo_193 hin ?_
                refine r_aload_n hR dX2_joinLastTwo_194 rfl 4 rfl ?_
                refine g_X2_pageCounts hR m_1_115 dX2_joinLastTwo_195 ?_
                refine r_iload_n hR dX2_joinLastTwo_198 rfl 2 rfl ?_
                obtain ⟨hin, h⟩ := ck_some h
                refine ld_X2_pageCounts hR dX2_joinLastTwo_199 hin ?_
                refine r_aload_n hR dX2_joinLastTwo_200 rfl 4 rfl ?_
                refine g_X2_shelf hR m_1_110 dX2_joinLastTwo_201 ?_
                obtain ⟨r_204, hc, h⟩ := bd_some h
                refine r_callVi hR (c7_memory hc) (cf_X2_77 (by decide)) ⟨m_3_97, m_3_98⟩ (As := []) (q0 := 1) (ci := 5) rfl rfl rfl rfl (rc_X7 ad _) (Nat.le_of_ble_eq_true rfl) rfl dX2_joinLastTwo_204 ?_
                obtain ⟨r_207, hc, h⟩ := bd_some h
                refine r_callSi hR (c5_parts hc) (cf_X2_87 (by decide)) m_3_105 (As := [.int (ar q_120 20 (ix x1_61)), .int (ar q_120 20 (ix x2_66)), .int r_204]) rfl rfl (Nat.le_of_ble_eq_true rfl) rfl dX2_joinLastTwo_207 ?_
                refine r_iadd hR dX2_joinLastTwo_210 ?_
                obtain ⟨hin, h⟩ := ck_some h
                obtain ⟨q_211, hq, h⟩ := bn_some h
                refine sv_X2_costs hR dX2_joinLastTwo_211 hin hq ?_
                refine r_aload_n hR dX2_joinLastTwo_212 rfl 4 rfl ?_
                refine g_X2_orders hR m_1_114 dX2_joinLastTwo_213 ?_
                refine r_iload_n hR dX2_joinLastTwo_216 rfl 3 rfl ?_
                refine r_iconst hR dX2_joinLastTwo_217 kc_iconst_m1 ?_
                obtain ⟨hin, h⟩ := ck_some h
                obtain ⟨q_218, hq, h⟩ := bn_some h
                refine sv_X2_orders hR dX2_joinLastTwo_218 hin hq ?_
                refine r_goto hR (tgt := 260) dX2_joinLastTwo_219 (by decide) ?_
                exact r_sub hR [4, 3, 2] rfl (t2_joinLastTwo_b260 hR N hP _ _ _ h)
            · replace h := it_t c_163 h
              refine r_aload_n hR dX2_joinLastTwo_166 rfl 4 rfl ?_
              refine r_iconst hR dX2_joinLastTwo_167 kc_iconst_0 ?_
              obtain ⟨q_168, hq, h⟩ := bn_some h
              refine p_X2_doable hR m_1_120 dX2_joinLastTwo_168 (Or.inl rfl) hq ?_
              refine r_goto hR (tgt := 260) dX2_joinLastTwo_171 (by decide) ?_
              exact r_sub hR [4, 3, 2] rfl (t2_joinLastTwo_b260 hR N hP _ _ _ h)
          · replace h := it_t c_125 h
            refine r_aload_n hR dX2_joinLastTwo_128 rfl 4 rfl ?_
            refine g_X2_costs hR m_1_113 dX2_joinLastTwo_129 ?_
            refine r_iload_n hR dX2_joinLastTwo_132 rfl 3 rfl ?_
            refine r_dup2 hR dX2_joinLastTwo_133 rfl rfl ?_
            obtain ⟨hin, h⟩ := ck_some h
            refine ld_X2_costs hR dX2_joinLastTwo_134 hin ?_
            refine r_aload_n hR dX2_joinLastTwo_135 rfl 4 rfl ?_
            refine g_X2_pageCounts hR m_1_115 dX2_joinLastTwo_136 ?_
            refine r_iload_n hR dX2_joinLastTwo_139 rfl 3 rfl ?_
            obtain ⟨hin, h⟩ := ck_some h
            refine ld_X2_pageCounts hR dX2_joinLastTwo_140 hin ?_
            refine r_aload_n hR dX2_joinLastTwo_141 rfl 4 rfl ?_
            refine g_X2_pageCounts hR m_1_115 dX2_joinLastTwo_142 ?_
            refine r_iload_n hR dX2_joinLastTwo_145 rfl 2 rfl ?_
            obtain ⟨hin, h⟩ := ck_some h
            refine ld_X2_pageCounts hR dX2_joinLastTwo_146 hin ?_
            refine r_aload_n hR dX2_joinLastTwo_147 rfl 4 rfl ?_
            refine g_X2_shelf hR m_1_110 dX2_joinLastTwo_148 ?_
            obtain ⟨r_151, hc, h⟩ := bd_some h
            refine r_callVi hR (c7_memory hc) (cf_X2_77 (by decide)) ⟨m_3_97, m_3_98⟩ (As := []) (q0 := 1) (ci := 5) rfl rfl rfl rfl (rc_X7 ad _) (Nat.le_of_ble_eq_true rfl) rfl dX2_joinLastTwo_151 ?_
            obtain ⟨r_154, hc, h⟩ := bd_some h
            refine r_callSi hR (c5_loops hc) (cf_X2_81 (by decide)) m_3_101 (As := [.int (ar q_120 20 (ix x1_61)), .int (ar q_120 20 (ix x2_66)), .int r_151]) rfl rfl (Nat.le_of_ble_eq_true rfl) rfl dX2_joinLastTwo_154 ?_
            refine r_iadd hR dX2_joinLastTwo_157 ?_
            obtain ⟨hin, h⟩ := ck_some h
            obtain ⟨q_158, hq, h⟩ := bn_some h
            refine sv_X2_costs hR dX2_joinLastTwo_158 hin hq ?_
            refine r_goto hR (tgt := 260) dX2_joinLastTwo_159 (by decide) ?_
            exact r_sub hR [4, 3, 2] rfl (t2_joinLastTwo_b260 hR N hP _ _ _ h)
        · replace h := it_f c_31 h
          exact r_vret hR dX2_joinLastTwo_34 rfl (rtv hP h)
theorem c2_joinLastTwo (N : Nat) {q : SS} {q2 : SS} (h : f2_joinLastTwo N q = some q2) : Ct wC 4 yX2_joinLastTwo cX2_joinLastTwo 6 none (fun ad => [.ref (ad 4)]) q (fun _ => none) q2 :=
  ct_of (by decide) (fun _ => Nat.le_of_ble_eq_true rfl) (fun ad J hR => t2_joinLastTwo hR N ⟨rfl, rfl⟩ q h)
theorem t2_read_v16_b175 (hR : Rl wC 13 RX2 cX2_read 8 none ad J P) (N : Nat) {q2 : SS} (hP : P none q2) (bk23 : Int32 → Int32 → Int32 → SS → Option SS) (hbk23 : ∀ (x2 : Int32) (x3 : Int32) (x4 : Int32) (q : SS), bk23 x2 x3 x4 q = some q2 → J [(0, .ref (ad 4)), (1, .ref (ad 16)), (2, .int x2), (3, .int x3), (4, .int x4)] [] q 23) (x2 : Int32) (x3 : Int32) (x4 : Int32) (q : SS) (h : f2_read_v16_b175 N bk23 x2 x3 x4 q = some q2) : J [(0, .ref (ad 4)), (1, .ref (ad 16)), (2, .int x2), (3, .int x3), (4, .int x4)] [] q 175 := by
  unfold f2_read_v16_b175 at h
  obtain ⟨x4_175, hx, h⟩ := bn_some h
  refine r_iinc hR (i := 4) (lv' := [(4, .int x4_175), (0, .ref (ad 4)), (1, .ref (ad 16)), (2, .int x2), (3, .int x3)]) dX2_read_175 4 rfl (inc_ok hx kc_iconst_1) (by decide) rfl ?_
  refine r_goto hR (tgt := 23) dX2_read_178 (by decide) ?_
  exact r_sub hR [1, 2, 3, 4, 0] rfl (hbk23 _ _ _ _ h)
theorem t2_read_v16_b129 (hR : Rl wC 13 RX2 cX2_read 8 none ad J P) (N : Nat) {q2 : SS} (hP : P none q2) (bk23 : Int32 → Int32 → Int32 → SS → Option SS) (hbk23 : ∀ (x2 : Int32) (x3 : Int32) (x4 : Int32) (q : SS), bk23 x2 x3 x4 q = some q2 → J [(0, .ref (ad 4)), (1, .ref (ad 16)), (2, .int x2), (3, .int x3), (4, .int x4)] [] q 23) (x2 : Int32) (x3 : Int32) (x4 : Int32) (q : SS) (h : f2_read_v16_b129 N bk23 x2 x3 x4 q = some q2) : J [(0, .ref (ad 4)), (1, .ref (ad 16)), (2, .int x2), (3, .int x3), (4, .int x4)] [] q 129 := by
  unfold f2_read_v16_b129 at h
  refine r_aload_n hR dX2_read_129 rfl 0 rfl ?_
  refine g_X2_held hR m_1_117 dX2_read_130 ?_
  refine r_if_le hR (tgt := 175) dX2_read_133 (by decide) (fun c_133 => ?_) (fun c_133 => ?_)
  · replace h := it_t c_133 h
    exact r_sub hR [0, 1, 2, 3, 4] rfl (t2_read_v16_b175 hR N hP bk23 hbk23 _ _ _ _ h)
  · replace h := it_f c_133 h
    refine r_aload_n hR dX2_read_136 rfl 0 rfl ?_
    refine g_X2_held hR m_1_117 dX2_read_137 ?_
    refine r_bipush hR dX2_read_140 kc_bipush_6 ?_
    refine r_icmp_gt hR (tgt := 175) dX2_read_142 (by decide) (fun c_142 => ?_) (fun c_142 => ?_)
    · replace h := it_t c_142 h
      exact r_sub hR [0, 1, 2, 3, 4] rfl (t2_read_v16_b175 hR N hP bk23 hbk23 _ _ _ _ h)
    · replace h := it_f c_142 h
      refine r_aload_n hR dX2_read_145 rfl 0 rfl ?_
      refine g_X2_pageCounts hR m_1_115 dX2_read_146 ?_
      refine r_aload_n hR dX2_read_149 rfl 0 rfl ?_
      refine g_X2_held hR m_1_117 dX2_read_150 ?_
      refine r_iconst hR dX2_read_153 kc_iconst_1 ?_
      refine r_isub hR dX2_read_154 ?_
      refine r_aload_n hR dX2_read_155 rfl 0 rfl ?_
      refine g_X2_matches hR m_1_111 dX2_read_156 ?_
      refine r_aload_n hR dX2_read_159 rfl 0 rfl ?_
      refine g_X2_sets hR m_1_112 dX2_read_160 ?_
      refine r_aload_n hR dX2_read_163 rfl 0 rfl ?_
      refine g_X2_held hR m_1_117 dX2_read_164 ?_
      refine r_iconst hR dX2_read_167 kc_iconst_1 ?_
      refine r_isub hR dX2_read_168 ?_
      obtain ⟨hin, h⟩ := ck_some h
      refine ld_X2_sets hR dX2_read_169 hin ?_
      refine r_iload_n hR dX2_read_170 rfl 3 rfl ?_
      obtain ⟨r_171, q_171, hc, h⟩ := bd2_some h
      refine r_callVi hR (c3_pagesOf N hc) (cf_X2_59 (by decide)) ⟨m_2_196, m_2_197⟩ (As := [.int (ar q 17 (ix ((fi q 10) - (1 : Int32)))), .int x3]) (q0 := 2) (ci := 3) rfl rfl rfl rfl (rc_X3 ad _) (Nat.le_of_ble_eq_true rfl) rfl dX2_read_171 ?_
      obtain ⟨hin, h⟩ := ck_some h
      obtain ⟨q_174, hq, h⟩ := bn_some h
      refine sv_X2_pageCounts hR dX2_read_174 hin hq ?_
      exact r_sub hR [0, 1, 2, 3, 4] rfl (t2_read_v16_b175 hR N hP bk23 hbk23 _ _ _ _ h)
theorem t2_read_v16_b119 (hR : Rl wC 13 RX2 cX2_read 8 none ad J P) (N : Nat) {q2 : SS} (hP : P none q2) (bk23 : Int32 → Int32 → Int32 → SS → Option SS) (hbk23 : ∀ (x2 : Int32) (x3 : Int32) (x4 : Int32) (q : SS), bk23 x2 x3 x4 q = some q2 → J [(0, .ref (ad 4)), (1, .ref (ad 16)), (2, .int x2), (3, .int x3), (4, .int x4)] [] q 23) (x2 : Int32) (x3 : Int32) (x4 : Int32) (x6 : Int32) (x7 : Int32) (q : SS) (h : f2_read_v16_b119 N bk23 x2 x3 x4 x6 x7 q = some q2) : J [(0, .ref (ad 4)), (1, .ref (ad 16)), (2, .int x2), (3, .int x3), (4, .int x4), (6, .int x6), (7, .int x7)] [] q 119 := by
  unfold f2_read_v16_b119 at h
  refine r_iload hR dX2_read_119 5 rfl ?_
  refine r_if_ne hR (tgt := 129) dX2_read_121 (by decide) (fun c_121 => ?_) (fun c_121 => ?_)
  · replace h := it_f c_121 h
    exact r_sub hR [0, 1, 2, 3, 4] rfl (t2_read_v16_b129 hR N hP bk23 hbk23 _ _ _ _ h)
  · replace h := it_t c_121 h
    refine r_iload hR dX2_read_124 6 rfl ?_
    refine r_if_eq hR (tgt := 175) dX2_read_126 (by decide) (fun c_126 => ?_) (fun c_126 => ?_)
    · replace h := it_t c_126 h
      exact r_sub hR [0, 1, 2, 3, 4] rfl (t2_read_v16_b175 hR N hP bk23 hbk23 _ _ _ _ h)
    · replace h := it_f c_126 h
      exact r_sub hR [0, 1, 2, 3, 4] rfl (t2_read_v16_b129 hR N hP bk23 hbk23 _ _ _ _ h)
theorem t2_read_v16_b75 (hR : Rl wC 13 RX2 cX2_read 8 none ad J P) (N : Nat) {q2 : SS} (hP : P none q2) (bk23 : Int32 → Int32 → Int32 → SS → Option SS) (hbk23 : ∀ (x2 : Int32) (x3 : Int32) (x4 : Int32) (q : SS), bk23 x2 x3 x4 q = some q2 → J [(0, .ref (ad 4)), (1, .ref (ad 16)), (2, .int x2), (3, .int x3), (4, .int x4)] [] q 23) (x2 : Int32) (x3 : Int32) (x4 : Int32) (x5 : Int32) (x6 : Int32) (s0 : Int32) (q : SS) (h : f2_read_v16_b75 N bk23 x2 x3 x4 x5 x6 s0 q = some q2) : J [(0, .ref (ad 4)), (1, .ref (ad 16)), (2, .int x2), (3, .int x3), (4, .int x4), (5, .int x5), (6, .int x6)] [.int s0] q 75 := by
  unfold f2_read_v16_b75 at h
  refine r_istore hR (i := 7) (lv' := [(7, .int s0), (0, .ref (ad 4)), (1, .ref (ad 16)), (2, .int x2), (3, .int x3), (4, .int x4), (5, .int x5), (6, .int x6)]) dX2_read_75 rfl (by decide) rfl ?_
  refine r_iload hR dX2_read_77 7 rfl ?_
  refine r_if_eq hR (tgt := 94) dX2_read_79 (by decide) (fun c_79 => ?_) (fun c_79 => ?_)
  · replace h := it_t c_79 h
    refine r_iload hR dX2_read_94 0 rfl ?_
    refine r_if_eq hR (tgt := 106) dX2_read_96 (by decide) (fun c_96 => ?_) (fun c_96 => ?_)
    · replace h := it_t c_96 h
      refine r_iload hR dX2_read_106 6 rfl ?_
      refine r_bipush hR dX2_read_108 kc_bipush_40 ?_
      refine r_icmp_eq hR (tgt := 119) dX2_read_110 (by decide) (fun c_110 => ?_) (fun c_110 => ?_)
      · replace h := it_t c_110 h
        exact r_sub hR [1, 2, 3, 4, 5, 7, 0] rfl (t2_read_v16_b119 hR N hP bk23 hbk23 _ _ _ _ _ _ h)
      · replace h := it_f c_110 h
        refine r_aload_n hR dX2_read_113 rfl 1 rfl ?_
        refine r_iload hR dX2_read_114 6 rfl ?_
        obtain ⟨q_116, hc, h⟩ := bd_some h
        refine r_callVv hR (c2_holdWay hc) (cf_X2_56 (by decide)) ⟨m_3_118, ms_2_4⟩ (As := [.int x5]) (q0 := 4) (ci := 2) rfl rfl rfl rfl (rc_X2 ad _) (Nat.le_of_ble_eq_true rfl) rfl dX2_read_116 ?_
        exact r_sub hR [1, 2, 3, 4, 5, 7, 0] rfl (t2_read_v16_b119 hR N hP bk23 hbk23 _ _ _ _ _ _ h)
    · replace h := it_f c_96 h
      refine r_aload_n hR dX2_read_99 rfl 1 rfl ?_
      obtain ⟨q_100, hc, h⟩ := bd_some h
      refine r_callVv hR (c2_joinLastTwo N hc) (cf_X2_53 (by decide)) ⟨m_3_93, ms_2_2⟩ (As := []) (q0 := 4) (ci := 2) rfl rfl rfl rfl (rc_X2 ad _) (Nat.le_of_ble_eq_true rfl) rfl dX2_read_100 ?_
      refine r_goto hR (tgt := 119) dX2_read_103 (by decide) ?_
      exact r_sub hR [1, 2, 3, 4, 5, 7, 0] rfl (t2_read_v16_b119 hR N hP bk23 hbk23 _ _ _ _ _ _ h)
  · replace h := it_f c_79 h
    refine r_aload_n hR dX2_read_82 rfl 1 rfl ?_
    refine r_iload hR dX2_read_83 6 rfl ?_
    refine r_bipush hR dX2_read_85 kc_bipush_48 ?_
    refine r_isub hR dX2_read_87 ?_
    obtain ⟨q_88, hc, h⟩ := bd_some h
    refine r_callVv hR (c2_holdTable N hc) (cf_X2_49 (by decide)) ⟨m_3_87, ms_2_1⟩ (As := [.int (x5 - (48 : Int32))]) (q0 := 4) (ci := 2) rfl rfl rfl rfl (rc_X2 ad _) (Nat.le_of_ble_eq_true rfl) rfl dX2_read_88 ?_
    refine r_goto hR (tgt := 119) dX2_read_91 (by decide) ?_
    exact r_sub hR [1, 2, 3, 4, 5, 7, 0] rfl (t2_read_v16_b119 hR N hP bk23 hbk23 _ _ _ _ _ _ h)
theorem t2_read_v16_b61 (hR : Rl wC 13 RX2 cX2_read 8 none ad J P) (N : Nat) {q2 : SS} (hP : P none q2) (bk23 : Int32 → Int32 → Int32 → SS → Option SS) (hbk23 : ∀ (x2 : Int32) (x3 : Int32) (x4 : Int32) (q : SS), bk23 x2 x3 x4 q = some q2 → J [(0, .ref (ad 4)), (1, .ref (ad 16)), (2, .int x2), (3, .int x3), (4, .int x4)] [] q 23) (x2 : Int32) (x3 : Int32) (x4 : Int32) (x5 : Int32) (s0 : Int32) (q : SS) (h : f2_read_v16_b61 N bk23 x2 x3 x4 x5 s0 q = some q2) : J [(0, .ref (ad 4)), (1, .ref (ad 16)), (2, .int x2), (3, .int x3), (4, .int x4), (5, .int x5)] [.int s0] q 61 := by
  unfold f2_read_v16_b61 at h
  refine r_istore hR (i := 6) (lv' := [(6, .int s0), (0, .ref (ad 4)), (1, .ref (ad 16)), (2, .int x2), (3, .int x3), (4, .int x4), (5, .int x5)]) dX2_read_61 rfl (by decide) rfl ?_
  refine r_iload hR dX2_read_63 6 rfl ?_
  refine r_bipush hR dX2_read_65 kc_bipush_41 ?_
  refine r_icmp_ne hR (tgt := 74) dX2_read_67 (by decide) (fun c_67 => ?_) (fun c_67 => ?_)
  · replace h := it_f c_67 h
    refine r_iconst hR dX2_read_74 kc_iconst_0 ?_
    exact r_sub hR [1, 2, 3, 4, 5, 6, 0] rfl (t2_read_v16_b75 hR N hP bk23 hbk23 _ _ _ _ _ _ _ h)
  · replace h := it_t c_67 h
    refine r_iconst hR dX2_read_70 kc_iconst_1 ?_
    refine r_goto hR (tgt := 75) dX2_read_71 (by decide) ?_
    exact r_sub hR [1, 2, 3, 4, 5, 6, 0] rfl (t2_read_v16_b75 hR N hP bk23 hbk23 _ _ _ _ _ _ _ h)
theorem t2_read_v16_b60 (hR : Rl wC 13 RX2 cX2_read 8 none ad J P) (N : Nat) {q2 : SS} (hP : P none q2) (bk23 : Int32 → Int32 → Int32 → SS → Option SS) (hbk23 : ∀ (x2 : Int32) (x3 : Int32) (x4 : Int32) (q : SS), bk23 x2 x3 x4 q = some q2 → J [(0, .ref (ad 4)), (1, .ref (ad 16)), (2, .int x2), (3, .int x3), (4, .int x4)] [] q 23) (x2 : Int32) (x3 : Int32) (x4 : Int32) (x5 : Int32) (q : SS) (h : f2_read_v16_b60 N bk23 x2 x3 x4 x5 q = some q2) : J [(0, .ref (ad 4)), (1, .ref (ad 16)), (2, .int x2), (3, .int x3), (4, .int x4), (5, .int x5)] [] q 60 := by
  unfold f2_read_v16_b60 at h
  refine r_iconst hR dX2_read_60 kc_iconst_0 ?_
  exact r_sub hR [0, 1, 2, 3, 4, 5] rfl (t2_read_v16_b61 hR N hP bk23 hbk23 _ _ _ _ _ _ h)
theorem t2_read_v16_l23_B (hR : Rl wC 13 RX2 cX2_read 8 none ad J P) (N : Nat) {q2 : SS} (hP : P none q2) (bk23 : Int32 → Int32 → Int32 → SS → Option SS) (hbk23 : ∀ (x2 : Int32) (x3 : Int32) (x4 : Int32) (q : SS), bk23 x2 x3 x4 q = some q2 → J [(0, .ref (ad 4)), (1, .ref (ad 16)), (2, .int x2), (3, .int x3), (4, .int x4)] [] q 23) (x2 : Int32) (x3 : Int32) (x4 : Int32) (q : SS) (h : f2_read_v16_l23_B N bk23 x2 x3 x4 q = some q2) : J [(0, .ref (ad 4)), (1, .ref (ad 16)), (2, .int x2), (3, .int x3), (4, .int x4)] [] q 23 := by
  unfold f2_read_v16_l23_B at h
  refine r_iload hR dX2_read_23 4 rfl ?_
  refine r_iload_n hR dX2_read_25 rfl 2 rfl ?_
  refine r_icmp_ge hR (tgt := 181) dX2_read_26 (by decide) (fun c_26 => ?_) (fun c_26 => ?_)
  · replace h := it_t c_26 h
    exact r_vret hR dX2_read_181 rfl (rtv hP h)
  · replace h := it_f c_26 h
    refine r_iload hR dX2_read_29 4 rfl ?_
    refine r_aload_n hR dX2_read_31 rfl 1 rfl ?_
    refine al_X6_signs hR dX2_read_32 ?_
    refine r_icmp_ge hR (tgt := 181) dX2_read_33 (by decide) (fun c_33 => ?_) (fun c_33 => ?_)
    · replace h := it_t c_33 h
      exact r_vret hR dX2_read_181 rfl (rtv hP h)
    · replace h := it_f c_33 h
      refine r_aload_n hR dX2_read_36 rfl 1 rfl ?_
      refine r_iload hR dX2_read_37 4 rfl ?_
      obtain ⟨hin, h⟩ := ck_some h
      refine ld_X6_signs hR dX2_read_39 hin ?_
      obtain ⟨x5_40, hx, h⟩ := bn_some h
      refine r_istore hR (i := 5) (lv' := [(5, .int x5_40), (0, .ref (ad 4)), (1, .ref (ad 16)), (2, .int x2), (3, .int x3), (4, .int x4)]) dX2_read_40 hx (by decide) rfl ?_
      refine r_iload hR dX2_read_42 0 rfl ?_
      refine r_bipush hR dX2_read_44 kc_bipush_48 ?_
      refine r_icmp_lt hR (tgt := 60) dX2_read_46 (by decide) (fun c_46 => ?_) (fun c_46 => ?_)
      · replace h := it_t c_46 h
        exact r_sub hR [1, 2, 3, 4, 5, 0] rfl (t2_read_v16_b60 hR N hP bk23 hbk23 _ _ _ _ _ h)
      · replace h := it_f c_46 h
        refine r_iload hR dX2_read_49 0 rfl ?_
        refine r_bipush hR dX2_read_51 kc_bipush_54 ?_
        refine r_icmp_ge hR (tgt := 60) dX2_read_53 (by decide) (fun c_53 => ?_) (fun c_53 => ?_)
        · replace h := it_t c_53 h
          exact r_sub hR [1, 2, 3, 4, 5, 0] rfl (t2_read_v16_b60 hR N hP bk23 hbk23 _ _ _ _ _ h)
        · replace h := it_f c_53 h
          refine r_iconst hR dX2_read_56 kc_iconst_1 ?_
          refine r_goto hR (tgt := 61) dX2_read_57 (by decide) ?_
          exact r_sub hR [1, 2, 3, 4, 5, 0] rfl (t2_read_v16_b61 hR N hP bk23 hbk23 _ _ _ _ _ _ h)
theorem t2_read_v16_l23 (hR : Rl wC 13 RX2 cX2_read 8 none ad J P) (N : Nat) {q2 : SS} (hP : P none q2) : ∀ (n : Nat) (x2 : Int32) (x3 : Int32) (x4 : Int32) (q : SS), f2_read_v16_l23 N n x2 x3 x4 q = some q2 → J [(0, .ref (ad 4)), (1, .ref (ad 16)), (2, .int x2), (3, .int x3), (4, .int x4)] [] q 23 := by
  intro n
  induction n with
  | zero => intro x2 x3 x4 q h; exact mu_noneF h
  | succ n ih => intro x2 x3 x4 q h; exact t2_read_v16_l23_B hR N hP _ ih x2 x3 x4 q h
theorem t2_read_v16 (hR : Rl wC 13 RX2 cX2_read 8 none ad J P) (N : Nat) {q2 : SS} (hP : P none q2) (x2 : Int32) (x3 : Int32) (q : SS) (h : f2_read_v16 N x2 x3 q = some q2) : J [(0, .ref (ad 4)), (1, .ref (ad 16)), (2, .int x2), (3, .int x3)] [] q 0 := by
  unfold f2_read_v16 at h
  refine r_aload_n hR dX2_read_0 rfl 0 rfl ?_
  refine r_iconst hR dX2_read_1 kc_iconst_0 ?_
  obtain ⟨q_2, hq, h⟩ := bn_some h
  refine p_X2_held hR m_1_117 dX2_read_2 hq ?_
  refine r_aload_n hR dX2_read_5 rfl 0 rfl ?_
  refine r_iconst hR dX2_read_6 kc_iconst_0 ?_
  obtain ⟨q_7, hq, h⟩ := bn_some h
  refine p_X2_waiting hR m_1_118 dX2_read_7 hq ?_
  refine r_aload_n hR dX2_read_10 rfl 0 rfl ?_
  refine r_iconst hR dX2_read_11 kc_iconst_0 ?_
  obtain ⟨q_12, hq, h⟩ := bn_some h
  refine p_X2_joins hR m_1_119 dX2_read_12 hq ?_
  refine r_aload_n hR dX2_read_15 rfl 0 rfl ?_
  refine r_iconst hR dX2_read_16 kc_iconst_1 ?_
  obtain ⟨q_17, hq, h⟩ := bn_some h
  refine p_X2_doable hR m_1_120 dX2_read_17 (Or.inr rfl) hq ?_
  refine r_iconst hR dX2_read_20 kc_iconst_0 ?_
  refine r_istore hR (i := 4) (lv' := [(4, .int (0 : Int32)), (0, .ref (ad 4)), (1, .ref (ad 16)), (2, .int x2), (3, .int x3)]) dX2_read_21 rfl (by decide) rfl ?_
  exact r_sub hR [1, 2, 3, 4, 0] rfl (t2_read_v16_l23 hR N hP N _ _ _ _ h)
theorem c2_read_v16 (N : Nat) {x2 : Int32} {x3 : Int32} {q : SS} {q2 : SS} (h : f2_read_v16 N x2 x3 q = some q2) : Ct wC 13 yX2_read cX2_read 8 none (fun ad => [.ref (ad 4), .ref (ad 16), .int x2, .int x3]) q (fun _ => none) q2 :=
  ct_of (by decide) (fun _ => Nat.le_of_ble_eq_true rfl) (fun ad J hR => t2_read_v16 hR N ⟨rfl, rfl⟩ x2 x3 q h)
theorem t2_read_v26_b175 (hR : Rl wC 13 RX2 cX2_read 8 none ad J P) (N : Nat) {q2 : SS} (hP : P none q2) (bk23 : Int32 → Int32 → Int32 → SS → Option SS) (hbk23 : ∀ (x2 : Int32) (x3 : Int32) (x4 : Int32) (q : SS), bk23 x2 x3 x4 q = some q2 → J [(0, .ref (ad 4)), (1, .ref (ad 26)), (2, .int x2), (3, .int x3), (4, .int x4)] [] q 23) (x2 : Int32) (x3 : Int32) (x4 : Int32) (q : SS) (h : f2_read_v26_b175 N bk23 x2 x3 x4 q = some q2) : J [(0, .ref (ad 4)), (1, .ref (ad 26)), (2, .int x2), (3, .int x3), (4, .int x4)] [] q 175 := by
  unfold f2_read_v26_b175 at h
  obtain ⟨x4_175, hx, h⟩ := bn_some h
  refine r_iinc hR (i := 4) (lv' := [(4, .int x4_175), (0, .ref (ad 4)), (1, .ref (ad 26)), (2, .int x2), (3, .int x3)]) dX2_read_175 4 rfl (inc_ok hx kc_iconst_1) (by decide) rfl ?_
  refine r_goto hR (tgt := 23) dX2_read_178 (by decide) ?_
  exact r_sub hR [1, 2, 3, 4, 0] rfl (hbk23 _ _ _ _ h)
theorem t2_read_v26_b129 (hR : Rl wC 13 RX2 cX2_read 8 none ad J P) (N : Nat) {q2 : SS} (hP : P none q2) (bk23 : Int32 → Int32 → Int32 → SS → Option SS) (hbk23 : ∀ (x2 : Int32) (x3 : Int32) (x4 : Int32) (q : SS), bk23 x2 x3 x4 q = some q2 → J [(0, .ref (ad 4)), (1, .ref (ad 26)), (2, .int x2), (3, .int x3), (4, .int x4)] [] q 23) (x2 : Int32) (x3 : Int32) (x4 : Int32) (q : SS) (h : f2_read_v26_b129 N bk23 x2 x3 x4 q = some q2) : J [(0, .ref (ad 4)), (1, .ref (ad 26)), (2, .int x2), (3, .int x3), (4, .int x4)] [] q 129 := by
  unfold f2_read_v26_b129 at h
  refine r_aload_n hR dX2_read_129 rfl 0 rfl ?_
  refine g_X2_held hR m_1_117 dX2_read_130 ?_
  refine r_if_le hR (tgt := 175) dX2_read_133 (by decide) (fun c_133 => ?_) (fun c_133 => ?_)
  · replace h := it_t c_133 h
    exact r_sub hR [0, 1, 2, 3, 4] rfl (t2_read_v26_b175 hR N hP bk23 hbk23 _ _ _ _ h)
  · replace h := it_f c_133 h
    refine r_aload_n hR dX2_read_136 rfl 0 rfl ?_
    refine g_X2_held hR m_1_117 dX2_read_137 ?_
    refine r_bipush hR dX2_read_140 kc_bipush_6 ?_
    refine r_icmp_gt hR (tgt := 175) dX2_read_142 (by decide) (fun c_142 => ?_) (fun c_142 => ?_)
    · replace h := it_t c_142 h
      exact r_sub hR [0, 1, 2, 3, 4] rfl (t2_read_v26_b175 hR N hP bk23 hbk23 _ _ _ _ h)
    · replace h := it_f c_142 h
      refine r_aload_n hR dX2_read_145 rfl 0 rfl ?_
      refine g_X2_pageCounts hR m_1_115 dX2_read_146 ?_
      refine r_aload_n hR dX2_read_149 rfl 0 rfl ?_
      refine g_X2_held hR m_1_117 dX2_read_150 ?_
      refine r_iconst hR dX2_read_153 kc_iconst_1 ?_
      refine r_isub hR dX2_read_154 ?_
      refine r_aload_n hR dX2_read_155 rfl 0 rfl ?_
      refine g_X2_matches hR m_1_111 dX2_read_156 ?_
      refine r_aload_n hR dX2_read_159 rfl 0 rfl ?_
      refine g_X2_sets hR m_1_112 dX2_read_160 ?_
      refine r_aload_n hR dX2_read_163 rfl 0 rfl ?_
      refine g_X2_held hR m_1_117 dX2_read_164 ?_
      refine r_iconst hR dX2_read_167 kc_iconst_1 ?_
      refine r_isub hR dX2_read_168 ?_
      obtain ⟨hin, h⟩ := ck_some h
      refine ld_X2_sets hR dX2_read_169 hin ?_
      refine r_iload_n hR dX2_read_170 rfl 3 rfl ?_
      obtain ⟨r_171, q_171, hc, h⟩ := bd2_some h
      refine r_callVi hR (c3_pagesOf N hc) (cf_X2_59 (by decide)) ⟨m_2_196, m_2_197⟩ (As := [.int (ar q 17 (ix ((fi q 10) - (1 : Int32)))), .int x3]) (q0 := 2) (ci := 3) rfl rfl rfl rfl (rc_X3 ad _) (Nat.le_of_ble_eq_true rfl) rfl dX2_read_171 ?_
      obtain ⟨hin, h⟩ := ck_some h
      obtain ⟨q_174, hq, h⟩ := bn_some h
      refine sv_X2_pageCounts hR dX2_read_174 hin hq ?_
      exact r_sub hR [0, 1, 2, 3, 4] rfl (t2_read_v26_b175 hR N hP bk23 hbk23 _ _ _ _ h)
theorem t2_read_v26_b119 (hR : Rl wC 13 RX2 cX2_read 8 none ad J P) (N : Nat) {q2 : SS} (hP : P none q2) (bk23 : Int32 → Int32 → Int32 → SS → Option SS) (hbk23 : ∀ (x2 : Int32) (x3 : Int32) (x4 : Int32) (q : SS), bk23 x2 x3 x4 q = some q2 → J [(0, .ref (ad 4)), (1, .ref (ad 26)), (2, .int x2), (3, .int x3), (4, .int x4)] [] q 23) (x2 : Int32) (x3 : Int32) (x4 : Int32) (x6 : Int32) (x7 : Int32) (q : SS) (h : f2_read_v26_b119 N bk23 x2 x3 x4 x6 x7 q = some q2) : J [(0, .ref (ad 4)), (1, .ref (ad 26)), (2, .int x2), (3, .int x3), (4, .int x4), (6, .int x6), (7, .int x7)] [] q 119 := by
  unfold f2_read_v26_b119 at h
  refine r_iload hR dX2_read_119 5 rfl ?_
  refine r_if_ne hR (tgt := 129) dX2_read_121 (by decide) (fun c_121 => ?_) (fun c_121 => ?_)
  · replace h := it_f c_121 h
    exact r_sub hR [0, 1, 2, 3, 4] rfl (t2_read_v26_b129 hR N hP bk23 hbk23 _ _ _ _ h)
  · replace h := it_t c_121 h
    refine r_iload hR dX2_read_124 6 rfl ?_
    refine r_if_eq hR (tgt := 175) dX2_read_126 (by decide) (fun c_126 => ?_) (fun c_126 => ?_)
    · replace h := it_t c_126 h
      exact r_sub hR [0, 1, 2, 3, 4] rfl (t2_read_v26_b175 hR N hP bk23 hbk23 _ _ _ _ h)
    · replace h := it_f c_126 h
      exact r_sub hR [0, 1, 2, 3, 4] rfl (t2_read_v26_b129 hR N hP bk23 hbk23 _ _ _ _ h)
theorem t2_read_v26_b75 (hR : Rl wC 13 RX2 cX2_read 8 none ad J P) (N : Nat) {q2 : SS} (hP : P none q2) (bk23 : Int32 → Int32 → Int32 → SS → Option SS) (hbk23 : ∀ (x2 : Int32) (x3 : Int32) (x4 : Int32) (q : SS), bk23 x2 x3 x4 q = some q2 → J [(0, .ref (ad 4)), (1, .ref (ad 26)), (2, .int x2), (3, .int x3), (4, .int x4)] [] q 23) (x2 : Int32) (x3 : Int32) (x4 : Int32) (x5 : Int32) (x6 : Int32) (s0 : Int32) (q : SS) (h : f2_read_v26_b75 N bk23 x2 x3 x4 x5 x6 s0 q = some q2) : J [(0, .ref (ad 4)), (1, .ref (ad 26)), (2, .int x2), (3, .int x3), (4, .int x4), (5, .int x5), (6, .int x6)] [.int s0] q 75 := by
  unfold f2_read_v26_b75 at h
  refine r_istore hR (i := 7) (lv' := [(7, .int s0), (0, .ref (ad 4)), (1, .ref (ad 26)), (2, .int x2), (3, .int x3), (4, .int x4), (5, .int x5), (6, .int x6)]) dX2_read_75 rfl (by decide) rfl ?_
  refine r_iload hR dX2_read_77 7 rfl ?_
  refine r_if_eq hR (tgt := 94) dX2_read_79 (by decide) (fun c_79 => ?_) (fun c_79 => ?_)
  · replace h := it_t c_79 h
    refine r_iload hR dX2_read_94 0 rfl ?_
    refine r_if_eq hR (tgt := 106) dX2_read_96 (by decide) (fun c_96 => ?_) (fun c_96 => ?_)
    · replace h := it_t c_96 h
      refine r_iload hR dX2_read_106 6 rfl ?_
      refine r_bipush hR dX2_read_108 kc_bipush_40 ?_
      refine r_icmp_eq hR (tgt := 119) dX2_read_110 (by decide) (fun c_110 => ?_) (fun c_110 => ?_)
      · replace h := it_t c_110 h
        exact r_sub hR [1, 2, 3, 4, 5, 7, 0] rfl (t2_read_v26_b119 hR N hP bk23 hbk23 _ _ _ _ _ _ h)
      · replace h := it_f c_110 h
        refine r_aload_n hR dX2_read_113 rfl 1 rfl ?_
        refine r_iload hR dX2_read_114 6 rfl ?_
        obtain ⟨q_116, hc, h⟩ := bd_some h
        refine r_callVv hR (c2_holdWay hc) (cf_X2_56 (by decide)) ⟨m_3_118, ms_2_4⟩ (As := [.int x5]) (q0 := 4) (ci := 2) rfl rfl rfl rfl (rc_X2 ad _) (Nat.le_of_ble_eq_true rfl) rfl dX2_read_116 ?_
        exact r_sub hR [1, 2, 3, 4, 5, 7, 0] rfl (t2_read_v26_b119 hR N hP bk23 hbk23 _ _ _ _ _ _ h)
    · replace h := it_f c_96 h
      refine r_aload_n hR dX2_read_99 rfl 1 rfl ?_
      obtain ⟨q_100, hc, h⟩ := bd_some h
      refine r_callVv hR (c2_joinLastTwo N hc) (cf_X2_53 (by decide)) ⟨m_3_93, ms_2_2⟩ (As := []) (q0 := 4) (ci := 2) rfl rfl rfl rfl (rc_X2 ad _) (Nat.le_of_ble_eq_true rfl) rfl dX2_read_100 ?_
      refine r_goto hR (tgt := 119) dX2_read_103 (by decide) ?_
      exact r_sub hR [1, 2, 3, 4, 5, 7, 0] rfl (t2_read_v26_b119 hR N hP bk23 hbk23 _ _ _ _ _ _ h)
  · replace h := it_f c_79 h
    refine r_aload_n hR dX2_read_82 rfl 1 rfl ?_
    refine r_iload hR dX2_read_83 6 rfl ?_
    refine r_bipush hR dX2_read_85 kc_bipush_48 ?_
    refine r_isub hR dX2_read_87 ?_
    obtain ⟨q_88, hc, h⟩ := bd_some h
    refine r_callVv hR (c2_holdTable N hc) (cf_X2_49 (by decide)) ⟨m_3_87, ms_2_1⟩ (As := [.int (x5 - (48 : Int32))]) (q0 := 4) (ci := 2) rfl rfl rfl rfl (rc_X2 ad _) (Nat.le_of_ble_eq_true rfl) rfl dX2_read_88 ?_
    refine r_goto hR (tgt := 119) dX2_read_91 (by decide) ?_
    exact r_sub hR [1, 2, 3, 4, 5, 7, 0] rfl (t2_read_v26_b119 hR N hP bk23 hbk23 _ _ _ _ _ _ h)
theorem t2_read_v26_b61 (hR : Rl wC 13 RX2 cX2_read 8 none ad J P) (N : Nat) {q2 : SS} (hP : P none q2) (bk23 : Int32 → Int32 → Int32 → SS → Option SS) (hbk23 : ∀ (x2 : Int32) (x3 : Int32) (x4 : Int32) (q : SS), bk23 x2 x3 x4 q = some q2 → J [(0, .ref (ad 4)), (1, .ref (ad 26)), (2, .int x2), (3, .int x3), (4, .int x4)] [] q 23) (x2 : Int32) (x3 : Int32) (x4 : Int32) (x5 : Int32) (s0 : Int32) (q : SS) (h : f2_read_v26_b61 N bk23 x2 x3 x4 x5 s0 q = some q2) : J [(0, .ref (ad 4)), (1, .ref (ad 26)), (2, .int x2), (3, .int x3), (4, .int x4), (5, .int x5)] [.int s0] q 61 := by
  unfold f2_read_v26_b61 at h
  refine r_istore hR (i := 6) (lv' := [(6, .int s0), (0, .ref (ad 4)), (1, .ref (ad 26)), (2, .int x2), (3, .int x3), (4, .int x4), (5, .int x5)]) dX2_read_61 rfl (by decide) rfl ?_
  refine r_iload hR dX2_read_63 6 rfl ?_
  refine r_bipush hR dX2_read_65 kc_bipush_41 ?_
  refine r_icmp_ne hR (tgt := 74) dX2_read_67 (by decide) (fun c_67 => ?_) (fun c_67 => ?_)
  · replace h := it_f c_67 h
    refine r_iconst hR dX2_read_74 kc_iconst_0 ?_
    exact r_sub hR [1, 2, 3, 4, 5, 6, 0] rfl (t2_read_v26_b75 hR N hP bk23 hbk23 _ _ _ _ _ _ _ h)
  · replace h := it_t c_67 h
    refine r_iconst hR dX2_read_70 kc_iconst_1 ?_
    refine r_goto hR (tgt := 75) dX2_read_71 (by decide) ?_
    exact r_sub hR [1, 2, 3, 4, 5, 6, 0] rfl (t2_read_v26_b75 hR N hP bk23 hbk23 _ _ _ _ _ _ _ h)
theorem t2_read_v26_b60 (hR : Rl wC 13 RX2 cX2_read 8 none ad J P) (N : Nat) {q2 : SS} (hP : P none q2) (bk23 : Int32 → Int32 → Int32 → SS → Option SS) (hbk23 : ∀ (x2 : Int32) (x3 : Int32) (x4 : Int32) (q : SS), bk23 x2 x3 x4 q = some q2 → J [(0, .ref (ad 4)), (1, .ref (ad 26)), (2, .int x2), (3, .int x3), (4, .int x4)] [] q 23) (x2 : Int32) (x3 : Int32) (x4 : Int32) (x5 : Int32) (q : SS) (h : f2_read_v26_b60 N bk23 x2 x3 x4 x5 q = some q2) : J [(0, .ref (ad 4)), (1, .ref (ad 26)), (2, .int x2), (3, .int x3), (4, .int x4), (5, .int x5)] [] q 60 := by
  unfold f2_read_v26_b60 at h
  refine r_iconst hR dX2_read_60 kc_iconst_0 ?_
  exact r_sub hR [0, 1, 2, 3, 4, 5] rfl (t2_read_v26_b61 hR N hP bk23 hbk23 _ _ _ _ _ _ h)
theorem t2_read_v26_l23_B (hR : Rl wC 13 RX2 cX2_read 8 none ad J P) (N : Nat) {q2 : SS} (hP : P none q2) (bk23 : Int32 → Int32 → Int32 → SS → Option SS) (hbk23 : ∀ (x2 : Int32) (x3 : Int32) (x4 : Int32) (q : SS), bk23 x2 x3 x4 q = some q2 → J [(0, .ref (ad 4)), (1, .ref (ad 26)), (2, .int x2), (3, .int x3), (4, .int x4)] [] q 23) (x2 : Int32) (x3 : Int32) (x4 : Int32) (q : SS) (h : f2_read_v26_l23_B N bk23 x2 x3 x4 q = some q2) : J [(0, .ref (ad 4)), (1, .ref (ad 26)), (2, .int x2), (3, .int x3), (4, .int x4)] [] q 23 := by
  unfold f2_read_v26_l23_B at h
  refine r_iload hR dX2_read_23 4 rfl ?_
  refine r_iload_n hR dX2_read_25 rfl 2 rfl ?_
  refine r_icmp_ge hR (tgt := 181) dX2_read_26 (by decide) (fun c_26 => ?_) (fun c_26 => ?_)
  · replace h := it_t c_26 h
    exact r_vret hR dX2_read_181 rfl (rtv hP h)
  · replace h := it_f c_26 h
    refine r_iload hR dX2_read_29 4 rfl ?_
    refine r_aload_n hR dX2_read_31 rfl 1 rfl ?_
    refine al_X0_text hR dX2_read_32 ?_
    refine r_icmp_ge hR (tgt := 181) dX2_read_33 (by decide) (fun c_33 => ?_) (fun c_33 => ?_)
    · replace h := it_t c_33 h
      exact r_vret hR dX2_read_181 rfl (rtv hP h)
    · replace h := it_f c_33 h
      refine r_aload_n hR dX2_read_36 rfl 1 rfl ?_
      refine r_iload hR dX2_read_37 4 rfl ?_
      obtain ⟨hin, h⟩ := ck_some h
      refine ld_X0_text hR dX2_read_39 hin ?_
      obtain ⟨x5_40, hx, h⟩ := bn_some h
      refine r_istore hR (i := 5) (lv' := [(5, .int x5_40), (0, .ref (ad 4)), (1, .ref (ad 26)), (2, .int x2), (3, .int x3), (4, .int x4)]) dX2_read_40 hx (by decide) rfl ?_
      refine r_iload hR dX2_read_42 0 rfl ?_
      refine r_bipush hR dX2_read_44 kc_bipush_48 ?_
      refine r_icmp_lt hR (tgt := 60) dX2_read_46 (by decide) (fun c_46 => ?_) (fun c_46 => ?_)
      · replace h := it_t c_46 h
        exact r_sub hR [1, 2, 3, 4, 5, 0] rfl (t2_read_v26_b60 hR N hP bk23 hbk23 _ _ _ _ _ h)
      · replace h := it_f c_46 h
        refine r_iload hR dX2_read_49 0 rfl ?_
        refine r_bipush hR dX2_read_51 kc_bipush_54 ?_
        refine r_icmp_ge hR (tgt := 60) dX2_read_53 (by decide) (fun c_53 => ?_) (fun c_53 => ?_)
        · replace h := it_t c_53 h
          exact r_sub hR [1, 2, 3, 4, 5, 0] rfl (t2_read_v26_b60 hR N hP bk23 hbk23 _ _ _ _ _ h)
        · replace h := it_f c_53 h
          refine r_iconst hR dX2_read_56 kc_iconst_1 ?_
          refine r_goto hR (tgt := 61) dX2_read_57 (by decide) ?_
          exact r_sub hR [1, 2, 3, 4, 5, 0] rfl (t2_read_v26_b61 hR N hP bk23 hbk23 _ _ _ _ _ _ h)
theorem t2_read_v26_l23 (hR : Rl wC 13 RX2 cX2_read 8 none ad J P) (N : Nat) {q2 : SS} (hP : P none q2) : ∀ (n : Nat) (x2 : Int32) (x3 : Int32) (x4 : Int32) (q : SS), f2_read_v26_l23 N n x2 x3 x4 q = some q2 → J [(0, .ref (ad 4)), (1, .ref (ad 26)), (2, .int x2), (3, .int x3), (4, .int x4)] [] q 23 := by
  intro n
  induction n with
  | zero => intro x2 x3 x4 q h; exact mu_noneF h
  | succ n ih => intro x2 x3 x4 q h; exact t2_read_v26_l23_B hR N hP _ ih x2 x3 x4 q h
theorem t2_read_v26 (hR : Rl wC 13 RX2 cX2_read 8 none ad J P) (N : Nat) {q2 : SS} (hP : P none q2) (x2 : Int32) (x3 : Int32) (q : SS) (h : f2_read_v26 N x2 x3 q = some q2) : J [(0, .ref (ad 4)), (1, .ref (ad 26)), (2, .int x2), (3, .int x3)] [] q 0 := by
  unfold f2_read_v26 at h
  refine r_aload_n hR dX2_read_0 rfl 0 rfl ?_
  refine r_iconst hR dX2_read_1 kc_iconst_0 ?_
  obtain ⟨q_2, hq, h⟩ := bn_some h
  refine p_X2_held hR m_1_117 dX2_read_2 hq ?_
  refine r_aload_n hR dX2_read_5 rfl 0 rfl ?_
  refine r_iconst hR dX2_read_6 kc_iconst_0 ?_
  obtain ⟨q_7, hq, h⟩ := bn_some h
  refine p_X2_waiting hR m_1_118 dX2_read_7 hq ?_
  refine r_aload_n hR dX2_read_10 rfl 0 rfl ?_
  refine r_iconst hR dX2_read_11 kc_iconst_0 ?_
  obtain ⟨q_12, hq, h⟩ := bn_some h
  refine p_X2_joins hR m_1_119 dX2_read_12 hq ?_
  refine r_aload_n hR dX2_read_15 rfl 0 rfl ?_
  refine r_iconst hR dX2_read_16 kc_iconst_1 ?_
  obtain ⟨q_17, hq, h⟩ := bn_some h
  refine p_X2_doable hR m_1_120 dX2_read_17 (Or.inr rfl) hq ?_
  refine r_iconst hR dX2_read_20 kc_iconst_0 ?_
  refine r_istore hR (i := 4) (lv' := [(4, .int (0 : Int32)), (0, .ref (ad 4)), (1, .ref (ad 26)), (2, .int x2), (3, .int x3)]) dX2_read_21 rfl (by decide) rfl ?_
  exact r_sub hR [1, 2, 3, 4, 0] rfl (t2_read_v26_l23 hR N hP N _ _ _ _ h)
theorem c2_read_v26 (N : Nat) {x2 : Int32} {x3 : Int32} {q : SS} {q2 : SS} (h : f2_read_v26 N x2 x3 q = some q2) : Ct wC 13 yX2_read cX2_read 8 none (fun ad => [.ref (ad 4), .ref (ad 26), .int x2, .int x3]) q (fun _ => none) q2 :=
  ct_of (by decide) (fun _ => Nat.le_of_ble_eq_true rfl) (fun ad J hR => t2_read_v26 hR N ⟨rfl, rfl⟩ x2 x3 q h)
theorem t2_canBeDone (hR : Rl wC 1 RX2 cX2_canBeDone 1 (some .boolean) ad J P) (q : SS) {r : Int32} (hP : P (some (.int r)) q) (h : f2_canBeDone q = some r) : J [(0, .ref (ad 4))] [] q 0 := by
  unfold f2_canBeDone at h
  refine r_aload_n hR dX2_canBeDone_0 rfl 0 rfl ?_
  refine g_X2_doable hR m_1_120 dX2_canBeDone_1 ?_
  obtain ⟨hz, h⟩ := cz_some h
  exact r_zret hR dX2_canBeDone_4 rfl hz (rt1 hP h)
theorem c2_canBeDone {q : SS} {r : Int32} (h : f2_canBeDone q = some r) : Ct wC 1 yX2_canBeDone cX2_canBeDone 1 (some .boolean) (fun ad => [.ref (ad 4)]) q (fun _ => some (.int r)) q :=
  ct_of (by decide) (fun _ => Nat.le_of_ble_eq_true rfl) (fun ad J hR => t2_canBeDone hR q ⟨rfl, rfl⟩ h)
theorem t2_tablesRead (hR : Rl wC 1 RX2 cX2_tablesRead 1 (some .int) ad J P) (q : SS) {r : Int32} (hP : P (some (.int r)) q) (h : f2_tablesRead q = some r) : J [(0, .ref (ad 4))] [] q 0 := by
  unfold f2_tablesRead at h
  refine r_aload_n hR dX2_tablesRead_0 rfl 0 rfl ?_
  refine g_X2_sets hR m_1_112 dX2_tablesRead_1 ?_
  refine r_iconst hR dX2_tablesRead_4 kc_iconst_0 ?_
  refine ld_X2_sets hR dX2_tablesRead_5 (show ¬ ((0 : Int32) < 0 ∨ 6 ≤ Int32.toNatClampNeg (0 : Int32)) by decide) ?_
  exact r_iret hR dX2_tablesRead_6 rfl (rt1 hP h)
theorem c2_tablesRead {q : SS} {r : Int32} (h : f2_tablesRead q = some r) : Ct wC 1 yX2_tablesRead cX2_tablesRead 1 (some .int) (fun ad => [.ref (ad 4)]) q (fun _ => some (.int r)) q :=
  ct_of (by decide) (fun _ => Nat.le_of_ble_eq_true rfl) (fun ad J hR => t2_tablesRead hR q ⟨rfl, rfl⟩ h)
theorem t2_costRead (hR : Rl wC 1 RX2 cX2_costRead 1 (some .int) ad J P) (q : SS) {r : Int32} (hP : P (some (.int r)) q) (h : f2_costRead q = some r) : J [(0, .ref (ad 4))] [] q 0 := by
  unfold f2_costRead at h
  refine r_aload_n hR dX2_costRead_0 rfl 0 rfl ?_
  refine g_X2_costs hR m_1_113 dX2_costRead_1 ?_
  refine r_iconst hR dX2_costRead_4 kc_iconst_0 ?_
  refine ld_X2_costs hR dX2_costRead_5 (show ¬ ((0 : Int32) < 0 ∨ 6 ≤ Int32.toNatClampNeg (0 : Int32)) by decide) ?_
  exact r_iret hR dX2_costRead_6 rfl (rt1 hP h)
theorem c2_costRead {q : SS} {r : Int32} (h : f2_costRead q = some r) : Ct wC 1 yX2_costRead cX2_costRead 1 (some .int) (fun ad => [.ref (ad 4)]) q (fun _ => some (.int r)) q :=
  ct_of (by decide) (fun _ => Nat.le_of_ble_eq_true rfl) (fun ad J hR => t2_costRead hR q ⟨rfl, rfl⟩ h)
theorem t2_letterRead (hR : Rl wC 1 RX2 cX2_letterRead 1 (some .int) ad J P) (q : SS) {r : Int32} (hP : P (some (.int r)) q) (h : f2_letterRead q = some r) : J [(0, .ref (ad 4))] [] q 0 := by
  unfold f2_letterRead at h
  refine r_aload_n hR dX2_letterRead_0 rfl 0 rfl ?_
  refine g_X2_orders hR m_1_114 dX2_letterRead_1 ?_
  refine r_iconst hR dX2_letterRead_4 kc_iconst_0 ?_
  refine ld_X2_orders hR dX2_letterRead_5 (show ¬ ((0 : Int32) < 0 ∨ 6 ≤ Int32.toNatClampNeg (0 : Int32)) by decide) ?_
  exact r_iret hR dX2_letterRead_6 rfl (rt1 hP h)
theorem c2_letterRead {q : SS} {r : Int32} (h : f2_letterRead q = some r) : Ct wC 1 yX2_letterRead cX2_letterRead 1 (some .int) (fun ad => [.ref (ad 4)]) q (fun _ => some (.int r)) q :=
  ct_of (by decide) (fun _ => Nat.le_of_ble_eq_true rfl) (fun ad J hR => t2_letterRead hR q ⟨rfl, rfl⟩ h)
theorem t2_stepsRead (hR : Rl wC 1 RX2 cX2_stepsRead 1 (some .int) ad J P) (q : SS) {r : Int32} (hP : P (some (.int r)) q) (h : f2_stepsRead q = some r) : J [(0, .ref (ad 4))] [] q 0 := by
  unfold f2_stepsRead at h
  refine r_aload_n hR dX2_stepsRead_0 rfl 0 rfl ?_
  refine g_X2_joins hR m_1_119 dX2_stepsRead_1 ?_
  exact r_iret hR dX2_stepsRead_4 rfl (rt1 hP h)
theorem c2_stepsRead {q : SS} {r : Int32} (h : f2_stepsRead q = some r) : Ct wC 1 yX2_stepsRead cX2_stepsRead 1 (some .int) (fun ad => [.ref (ad 4)]) q (fun _ => some (.int r)) q :=
  ct_of (by decide) (fun _ => Nat.le_of_ble_eq_true rfl) (fun ad J hR => t2_stepsRead hR q ⟨rfl, rfl⟩ h)
theorem t3_fixRow_l6_B (hR : Rl wC 11 RX3 cX3_fixRow 7 (some .int) ad J P) (N : Nat) {r : Int32} {q2 : SS} (hP : P (some (.int r)) q2) (bk6 : Int32 → Int32 → Int32 → Int32 → SS → Option (Int32 × SS)) (hbk6 : ∀ (x1 : Int32) (x2 : Int32) (x4 : Int32) (x5 : Int32) (q : SS), bk6 x1 x2 x4 x5 q = some (r, q2) → J [(0, .ref (ad 2)), (1, .int x1), (2, .int x2), (4, .int x4), (5, .int x5)] [] q 6) (x1 : Int32) (x2 : Int32) (x4 : Int32) (x5 : Int32) (q : SS) (h : f3_fixRow_l6_B N bk6 x1 x2 x4 x5 q = some (r, q2)) : J [(0, .ref (ad 2)), (1, .int x1), (2, .int x2), (4, .int x4), (5, .int x5)] [] q 6 := by
  unfold f3_fixRow_l6_B at h
  refine r_iload hR dX3_fixRow_6 4 rfl ?_
  refine r_aload_n hR dX3_fixRow_8 rfl 0 rfl ?_
  refine g_X3_shelf hR m_1_60 dX3_fixRow_9 ?_
  refine r_iload_n hR dX3_fixRow_12 rfl 2 rfl ?_
  obtain ⟨r_13, hc, h⟩ := bd_some h
  refine r_callVi hR (c7_rowsOf hc) (cf_X3_64 (by decide)) ⟨m_2_13, m_2_14⟩ (As := [.int x2]) (q0 := 1) (ci := 5) rfl rfl rfl rfl (rc_X7 ad _) (Nat.le_of_ble_eq_true rfl) rfl dX3_fixRow_13 ?_
  refine r_icmp_ge hR (tgt := 67) dX3_fixRow_16 (by decide) (fun c_16 => ?_) (fun c_16 => ?_)
  · replace h := it_t c_16 h
    refine r_iload hR dX3_fixRow_67 3 rfl ?_
    exact r_iret hR dX3_fixRow_69 rfl (rt2 hP h)
  · replace h := it_f c_16 h
    refine r_aload_n hR dX3_fixRow_19 rfl 0 rfl ?_
    refine g_X3_allowed hR m_1_61 dX3_fixRow_20 ?_
    refine r_iload_n hR dX3_fixRow_23 rfl 2 rfl ?_
    refine r_iconst hR dX3_fixRow_24 kc_iconst_1 ?_
    refine r_iload hR dX3_fixRow_25 4 rfl ?_
    refine r_ishl hR dX3_fixRow_27 ?_
    obtain ⟨hin, h⟩ := ck_some h
    obtain ⟨q_28, hq, h⟩ := bn_some h
    refine sv_X3_allowed hR dX3_fixRow_28 hin hq ?_
    refine r_aload_n hR dX3_fixRow_29 rfl 0 rfl ?_
    refine g_X3_found hR m_1_64 dX3_fixRow_30 ?_
    refine r_iload_n hR dX3_fixRow_33 rfl 2 rfl ?_
    refine r_iload hR dX3_fixRow_34 4 rfl ?_
    obtain ⟨hin, h⟩ := ck_some h
    obtain ⟨q_36, hq, h⟩ := bn_some h
    refine sv_X3_found hR dX3_fixRow_36 hin hq ?_
    refine r_aload_n hR dX3_fixRow_37 rfl 0 rfl ?_
    refine r_iload_n hR dX3_fixRow_38 rfl 1 rfl ?_
    obtain ⟨r_39, q_39, hc, h⟩ := bd2_some h
    refine r_callVi hR (c3_counted N hc) (cf_X3_61 (by decide)) ⟨m_2_168, ms_1_5⟩ (As := [.int x1]) (q0 := 2) (ci := 3) rfl rfl rfl rfl (rc_X3 ad _) (Nat.le_of_ble_eq_true rfl) rfl dX3_fixRow_39 ?_
    refine r_istore hR (i := 6) (lv' := [(6, .int r_39), (0, .ref (ad 2)), (1, .int x1), (2, .int x2), (4, .int x4), (5, .int x5)]) dX3_fixRow_42 rfl (by decide) rfl ?_
    refine r_iload hR dX3_fixRow_44 4 rfl ?_
    refine r_iload hR dX3_fixRow_46 0 rfl ?_
    refine r_icmp_ge hR (tgt := 54) dX3_fixRow_48 (by decide) (fun c_48 => ?_) (fun c_48 => ?_)
    · replace h := it_t c_48 h
      refine r_iload hR dX3_fixRow_54 4 rfl ?_
      refine r_iload hR dX3_fixRow_56 0 rfl ?_
      refine r_isub hR dX3_fixRow_58 ?_
      obtain ⟨x4_59, hx, h⟩ := bn_some h
      refine r_istore hR (i := 4) (lv' := [(4, .int x4_59), (6, .int r_39), (0, .ref (ad 2)), (1, .int x1), (2, .int x2), (5, .int x5)]) dX3_fixRow_59 hx (by decide) rfl ?_
      obtain ⟨x5_61, hx, h⟩ := bn_some h
      refine r_iinc hR (i := 5) (lv' := [(5, .int x5_61), (4, .int x4_59), (6, .int r_39), (0, .ref (ad 2)), (1, .int x1), (2, .int x2)]) dX3_fixRow_61 5 rfl (inc_ok hx kc_iconst_1) (by decide) rfl ?_
      refine r_goto hR (tgt := 6) dX3_fixRow_64 (by decide) ?_
      exact r_sub hR [3, 4, 5, 1, 0] rfl (hbk6 _ _ _ _ _ h)
    · replace h := it_f c_48 h
      refine r_iload hR dX3_fixRow_51 4 rfl ?_
      exact r_iret hR dX3_fixRow_53 rfl (rt2 hP h)
theorem t3_fixRow_l6 (hR : Rl wC 11 RX3 cX3_fixRow 7 (some .int) ad J P) (N : Nat) {r : Int32} {q2 : SS} (hP : P (some (.int r)) q2) : ∀ (n : Nat) (x1 : Int32) (x2 : Int32) (x4 : Int32) (x5 : Int32) (q : SS), f3_fixRow_l6 N n x1 x2 x4 x5 q = some (r, q2) → J [(0, .ref (ad 2)), (1, .int x1), (2, .int x2), (4, .int x4), (5, .int x5)] [] q 6 := by
  intro n
  induction n with
  | zero => intro x1 x2 x4 x5 q h; exact mu_noneF h
  | succ n ih => intro x1 x2 x4 x5 q h; exact t3_fixRow_l6_B hR N hP _ ih x1 x2 x4 x5 q h
theorem t3_fixRow (hR : Rl wC 11 RX3 cX3_fixRow 7 (some .int) ad J P) (N : Nat) {r : Int32} {q2 : SS} (hP : P (some (.int r)) q2) (x1 : Int32) (x2 : Int32) (x3 : Int32) (q : SS) (h : f3_fixRow N x1 x2 x3 q = some (r, q2)) : J [(0, .ref (ad 2)), (1, .int x1), (2, .int x2), (3, .int x3)] [] q 0 := by
  unfold f3_fixRow at h
  refine r_iload_n hR dX3_fixRow_0 rfl 3 rfl ?_
  refine r_istore hR (i := 4) (lv' := [(4, .int x3), (0, .ref (ad 2)), (1, .int x1), (2, .int x2), (3, .int x3)]) dX3_fixRow_1 rfl (by decide) rfl ?_
  refine r_iconst hR dX3_fixRow_3 kc_iconst_0 ?_
  refine r_istore hR (i := 5) (lv' := [(5, .int (0 : Int32)), (4, .int x3), (0, .ref (ad 2)), (1, .int x1), (2, .int x2), (3, .int x3)]) dX3_fixRow_4 rfl (by decide) rfl ?_
  exact r_sub hR [2, 3, 4, 1, 0] rfl (t3_fixRow_l6 hR N hP N _ _ _ _ _ h)
theorem c3_fixRow (N : Nat) {x1 : Int32} {x2 : Int32} {x3 : Int32} {q : SS} {r : Int32} {q2 : SS} (h : f3_fixRow N x1 x2 x3 q = some (r, q2)) : Ct wC 11 yX3_fixRow cX3_fixRow 7 (some .int) (fun ad => [.ref (ad 2), .int x1, .int x2, .int x3]) q (fun _ => some (.int r)) q2 :=
  ct_of (by decide) (fun _ => Nat.le_of_ble_eq_true rfl) (fun ad J hR => t3_fixRow hR N ⟨rfl, rfl⟩ x1 x2 x3 q h)
theorem t3_find_b50 (hR : Rl wC 12 RX3 cX3_find 5 (some .boolean) ad J P) (N : Nat) {r : Int32} {q2 : SS} (hP : P (some (.int r)) q2) (bk24 : Int32 → Int32 → Int32 → SS → Option (Int32 × SS)) (hbk24 : ∀ (x1 : Int32) (x3 : Int32) (x4 : Int32) (q : SS), bk24 x1 x3 x4 q = some (r, q2) → J [(0, .ref (ad 2)), (1, .int x1), (3, .int x3), (4, .int x4)] [] q 24) (x1 : Int32) (x3 : Int32) (x4 : Int32) (q : SS) (h : f3_find_b50 N bk24 x1 x3 x4 q = some (r, q2)) : J [(0, .ref (ad 2)), (1, .int x1), (3, .int x3), (4, .int x4)] [] q 50 := by
  unfold f3_find_b50 at h
  obtain ⟨x4_50, hx, h⟩ := bn_some h
  refine r_iinc hR (i := 4) (lv' := [(4, .int x4_50), (0, .ref (ad 2)), (1, .int x1), (3, .int x3)]) dX3_find_50 3 rfl (inc_ok hx kc_iconst_1) (by decide) rfl ?_
  refine r_goto hR (tgt := 24) dX3_find_53 (by decide) ?_
  exact r_sub hR [1, 2, 3, 0] rfl (hbk24 _ _ _ _ h)
theorem t3_find_l24_B (hR : Rl wC 12 RX3 cX3_find 5 (some .boolean) ad J P) (N : Nat) {r : Int32} {q2 : SS} (hP : P (some (.int r)) q2) (bk24 : Int32 → Int32 → Int32 → SS → Option (Int32 × SS)) (hbk24 : ∀ (x1 : Int32) (x3 : Int32) (x4 : Int32) (q : SS), bk24 x1 x3 x4 q = some (r, q2) → J [(0, .ref (ad 2)), (1, .int x1), (3, .int x3), (4, .int x4)] [] q 24) (x1 : Int32) (x3 : Int32) (x4 : Int32) (q : SS) (h : f3_find_l24_B N bk24 x1 x3 x4 q = some (r, q2)) : J [(0, .ref (ad 2)), (1, .int x1), (3, .int x3), (4, .int x4)] [] q 24 := by
  unfold f3_find_l24_B at h
  refine r_iload hR dX3_find_24 3 rfl ?_
  refine r_bipush hR dX3_find_26 kc_bipush_6 ?_
  refine r_icmp_ge hR (tgt := 56) dX3_find_28 (by decide) (fun c_28 => ?_) (fun c_28 => ?_)
  · replace h := it_t c_28 h
    refine r_iconst hR dX3_find_56 kc_iconst_1 ?_
    exact r_zret hR dX3_find_57 rfl (Or.inr rfl) (rt2 hP h)
  · replace h := it_f c_28 h
    refine r_iload_n hR dX3_find_31 rfl 1 rfl ?_
    refine r_iload hR dX3_find_32 3 rfl ?_
    refine r_ishr hR dX3_find_34 ?_
    refine r_iconst hR dX3_find_35 kc_iconst_1 ?_
    refine r_iand hR dX3_find_36 ?_
    refine r_iconst hR dX3_find_37 kc_iconst_1 ?_
    refine r_icmp_ne hR (tgt := 50) dX3_find_38 (by decide) (fun c_38 => ?_) (fun c_38 => ?_)
    · replace h := it_f c_38 h
      exact r_sub hR [0, 1, 2, 3] rfl (t3_find_b50 hR N hP bk24 hbk24 _ _ _ _ h)
    · replace h := it_t c_38 h
      refine r_aload_n hR dX3_find_41 rfl 0 rfl ?_
      refine r_iload_n hR dX3_find_42 rfl 1 rfl ?_
      refine r_iload hR dX3_find_43 3 rfl ?_
      refine r_iload_n hR dX3_find_45 rfl 2 rfl ?_
      obtain ⟨r_46, q_46, hc, h⟩ := bd2_some h
      refine r_callVi hR (c3_fixRow N hc) (cf_X3_83 (by decide)) ⟨m_2_225, ms_1_10⟩ (As := [.int x1, .int x4, .int x3]) (q0 := 2) (ci := 3) rfl rfl rfl rfl (rc_X3 ad _) (Nat.le_of_ble_eq_true rfl) rfl dX3_find_46 ?_
      refine r_istore_n hR (i := 3) (lv' := [(3, .int r_46), (0, .ref (ad 2)), (1, .int x1), (4, .int x4)]) dX3_find_49 rfl rfl (by decide) rfl ?_
      exact r_sub hR [1, 2, 0, 3] rfl (t3_find_b50 hR N hP bk24 hbk24 _ _ _ _ h)
theorem t3_find_l24 (hR : Rl wC 12 RX3 cX3_find 5 (some .boolean) ad J P) (N : Nat) {r : Int32} {q2 : SS} (hP : P (some (.int r)) q2) : ∀ (n : Nat) (x1 : Int32) (x3 : Int32) (x4 : Int32) (q : SS), f3_find_l24 N n x1 x3 x4 q = some (r, q2) → J [(0, .ref (ad 2)), (1, .int x1), (3, .int x3), (4, .int x4)] [] q 24 := by
  intro n
  induction n with
  | zero => intro x1 x3 x4 q h; exact mu_noneF h
  | succ n ih => intro x1 x3 x4 q h; exact t3_find_l24_B hR N hP _ ih x1 x3 x4 q h
theorem t3_find (hR : Rl wC 12 RX3 cX3_find 5 (some .boolean) ad J P) (N : Nat) {r : Int32} {q2 : SS} (hP : P (some (.int r)) q2) (x1 : Int32) (x2 : Int32) (q : SS) (h : f3_find N x1 x2 q = some (r, q2)) : J [(0, .ref (ad 2)), (1, .int x1), (2, .int x2)] [] q 0 := by
  unfold f3_find at h
  refine r_aload_n hR dX3_find_0 rfl 0 rfl ?_
  obtain ⟨q_1, hc, h⟩ := bd_some h
  refine r_callVv hR (c3_allowAllRows N hc) (cf_X3_58 (by decide)) ⟨m_2_161, ms_1_4⟩ (As := []) (q0 := 2) (ci := 3) rfl rfl rfl rfl (rc_X3 ad _) (Nat.le_of_ble_eq_true rfl) rfl dX3_find_1 ?_
  refine r_iload_n hR dX3_find_4 rfl 2 rfl ?_
  refine r_if_lt hR (tgt := 17) dX3_find_5 (by decide) (fun c_5 => ?_) (fun c_5 => ?_)
  · replace h := it_t c_5 h
    refine r_iconst hR dX3_find_17 kc_iconst_0 ?_
    exact r_zret hR dX3_find_18 rfl (Or.inl rfl) (rt2 hP h)
  · replace h := it_f c_5 h
    refine r_iload_n hR dX3_find_8 rfl 2 rfl ?_
    refine r_aload_n hR dX3_find_9 rfl 0 rfl ?_
    refine r_iload_n hR dX3_find_10 rfl 1 rfl ?_
    obtain ⟨r_11, q_11, hc, h⟩ := bd2_some h
    refine r_callVi hR (c3_counted N hc) (cf_X3_61 (by decide)) ⟨m_2_168, ms_1_5⟩ (As := [.int x1]) (q0 := 2) (ci := 3) rfl rfl rfl rfl (rc_X3 ad _) (Nat.le_of_ble_eq_true rfl) rfl dX3_find_11 ?_
    refine r_icmp_lt hR (tgt := 19) dX3_find_14 (by decide) (fun c_14 => ?_) (fun c_14 => ?_)
    · replace h := it_t c_14 h
      refine r_iload_n hR dX3_find_19 rfl 2 rfl ?_
      refine r_istore_n hR (i := 3) (lv' := [(3, .int x2), (0, .ref (ad 2)), (1, .int x1), (2, .int x2)]) dX3_find_20 rfl rfl (by decide) rfl ?_
      refine r_iconst hR dX3_find_21 kc_iconst_0 ?_
      refine r_istore hR (i := 4) (lv' := [(4, .int (0 : Int32)), (3, .int x2), (0, .ref (ad 2)), (1, .int x1), (2, .int x2)]) dX3_find_22 rfl (by decide) rfl ?_
      exact r_sub hR [2, 3, 1, 0] rfl (t3_find_l24 hR N hP N _ _ _ _ h)
    · replace h := it_f c_14 h
      refine r_iconst hR dX3_find_17 kc_iconst_0 ?_
      exact r_zret hR dX3_find_18 rfl (Or.inl rfl) (rt2 hP h)
theorem c3_find (N : Nat) {x1 : Int32} {x2 : Int32} {q : SS} {r : Int32} {q2 : SS} (h : f3_find N x1 x2 q = some (r, q2)) : Ct wC 12 yX3_find cX3_find 5 (some .boolean) (fun ad => [.ref (ad 2), .int x1, .int x2]) q (fun _ => some (.int r)) q2 :=
  ct_of (by decide) (fun _ => Nat.le_of_ble_eq_true rfl) (fun ad J hR => t3_find hR N ⟨rfl, rfl⟩ x1 x2 q h)
theorem t3_rowFound (hR : Rl wC 1 RX3 cX3_rowFound 2 (some .int) ad J P) (q : SS) {r : Int32} (hP : P (some (.int r)) q) (x1 : Int32) (h : f3_rowFound q x1 = some r) : J [(0, .ref (ad 2)), (1, .int x1)] [] q 0 := by
  unfold f3_rowFound at h
  refine r_iload_n hR dX3_rowFound_0 rfl 1 rfl ?_
  refine r_if_lt hR (tgt := 19) dX3_rowFound_1 (by decide) (fun c_1 => ?_) (fun c_1 => ?_)
  · replace h := it_t c_1 h
    refine r_iconst hR dX3_rowFound_19 kc_iconst_m1 ?_
    exact r_iret hR dX3_rowFound_20 rfl (rt1 hP h)
  · replace h := it_f c_1 h
    refine r_iload_n hR dX3_rowFound_4 rfl 1 rfl ?_
    refine r_bipush hR dX3_rowFound_5 kc_bipush_6 ?_
    refine r_icmp_ge hR (tgt := 19) dX3_rowFound_7 (by decide) (fun c_7 => ?_) (fun c_7 => ?_)
    · replace h := it_t c_7 h
      refine r_iconst hR dX3_rowFound_19 kc_iconst_m1 ?_
      exact r_iret hR dX3_rowFound_20 rfl (rt1 hP h)
    · replace h := it_f c_7 h
      refine r_aload_n hR dX3_rowFound_10 rfl 0 rfl ?_
      refine g_X3_found hR m_1_64 dX3_rowFound_11 ?_
      refine r_iload_n hR dX3_rowFound_14 rfl 1 rfl ?_
      obtain ⟨hin, h⟩ := ck_some h
      refine ld_X3_found hR dX3_rowFound_15 hin ?_
      refine r_goto hR (tgt := 20) dX3_rowFound_16 (by decide) ?_
      exact r_iret hR dX3_rowFound_20 rfl (rt1 hP h)
theorem c3_rowFound {x1 : Int32} {q : SS} {r : Int32} (h : f3_rowFound q x1 = some r) : Ct wC 1 yX3_rowFound cX3_rowFound 2 (some .int) (fun ad => [.ref (ad 2), .int x1]) q (fun _ => some (.int r)) q :=
  ct_of (by decide) (fun _ => Nat.le_of_ble_eq_true rfl) (fun ad J hR => t3_rowFound hR q ⟨rfl, rfl⟩ x1 h)
theorem t3_numberFound_b48 (hR : Rl wC 2 RX3 cX3_numberFound 4 (some .int) ad J P) (N : Nat) (q : SS) {r : Int32} (hP : P (some (.int r)) q) (bk2 : Int32 → Int32 → Int32 → Option Int32) (hbk2 : ∀ (x1 : Int32) (x2 : Int32) (x3 : Int32), bk2 x1 x2 x3 = some r → J [(0, .ref (ad 2)), (1, .int x1), (2, .int x2), (3, .int x3)] [] q 2) (x1 : Int32) (x2 : Int32) (x3 : Int32) (h : f3_numberFound_b48 N q bk2 x1 x2 x3 = some r) : J [(0, .ref (ad 2)), (1, .int x1), (2, .int x2), (3, .int x3)] [] q 48 := by
  unfold f3_numberFound_b48 at h
  obtain ⟨x3_48, hx, h⟩ := bn_some h
  refine r_iinc hR (i := 3) (lv' := [(3, .int x3_48), (0, .ref (ad 2)), (1, .int x1), (2, .int x2)]) dX3_numberFound_48 3 rfl (inc_ok hx kc_iconst_1) (by decide) rfl ?_
  refine r_goto hR (tgt := 2) dX3_numberFound_51 (by decide) ?_
  exact r_sub hR [1, 2, 3, 0] rfl (hbk2 _ _ _ h)
theorem t3_numberFound_l2_B (hR : Rl wC 2 RX3 cX3_numberFound 4 (some .int) ad J P) (N : Nat) (q : SS) {r : Int32} (hP : P (some (.int r)) q) (bk2 : Int32 → Int32 → Int32 → Option Int32) (hbk2 : ∀ (x1 : Int32) (x2 : Int32) (x3 : Int32), bk2 x1 x2 x3 = some r → J [(0, .ref (ad 2)), (1, .int x1), (2, .int x2), (3, .int x3)] [] q 2) (x1 : Int32) (x2 : Int32) (x3 : Int32) (h : f3_numberFound_l2_B N q bk2 x1 x2 x3 = some r) : J [(0, .ref (ad 2)), (1, .int x1), (2, .int x2), (3, .int x3)] [] q 2 := by
  unfold f3_numberFound_l2_B at h
  refine r_iload_n hR dX3_numberFound_2 rfl 3 rfl ?_
  refine r_bipush hR dX3_numberFound_3 kc_bipush_6 ?_
  refine r_icmp_ge hR (tgt := 54) dX3_numberFound_5 (by decide) (fun c_5 => ?_) (fun c_5 => ?_)
  · replace h := it_t c_5 h
    refine r_iconst hR dX3_numberFound_54 kc_iconst_m1 ?_
    exact r_iret hR dX3_numberFound_55 rfl (rt1 hP h)
  · replace h := it_f c_5 h
    refine r_iload_n hR dX3_numberFound_8 rfl 1 rfl ?_
    refine r_iload_n hR dX3_numberFound_9 rfl 3 rfl ?_
    refine r_ishr hR dX3_numberFound_10 ?_
    refine r_iconst hR dX3_numberFound_11 kc_iconst_1 ?_
    refine r_iand hR dX3_numberFound_12 ?_
    refine r_iconst hR dX3_numberFound_13 kc_iconst_1 ?_
    refine r_icmp_ne hR (tgt := 48) dX3_numberFound_14 (by decide) (fun c_14 => ?_) (fun c_14 => ?_)
    · replace h := it_f c_14 h
      exact r_sub hR [0, 1, 2, 3] rfl (t3_numberFound_b48 hR N q hP bk2 hbk2 _ _ _ h)
    · replace h := it_t c_14 h
      refine r_aload_n hR dX3_numberFound_17 rfl 0 rfl ?_
      refine g_X3_shelf hR m_1_60 dX3_numberFound_18 ?_
      refine r_iload_n hR dX3_numberFound_21 rfl 3 rfl ?_
      refine r_iload_n hR dX3_numberFound_22 rfl 2 rfl ?_
      obtain ⟨r_23, hc, h⟩ := bd_some h
      refine r_callVi hR (c7_hasLetter hc) (cf_X3_71 (by decide)) ⟨m_2_37, m_2_38⟩ (As := [.int x3, .int x2]) (q0 := 1) (ci := 5) rfl rfl rfl rfl (rc_X7 ad _) (Nat.le_of_ble_eq_true rfl) rfl dX3_numberFound_23 ?_
      refine r_if_eq hR (tgt := 48) dX3_numberFound_26 (by decide) (fun c_26 => ?_) (fun c_26 => ?_)
      · replace h := it_t c_26 h
        exact r_sub hR [0, 1, 2, 3] rfl (t3_numberFound_b48 hR N q hP bk2 hbk2 _ _ _ h)
      · replace h := it_f c_26 h
        refine r_aload_n hR dX3_numberFound_29 rfl 0 rfl ?_
        refine g_X3_shelf hR m_1_60 dX3_numberFound_30 ?_
        refine r_iload_n hR dX3_numberFound_33 rfl 3 rfl ?_
        refine r_aload_n hR dX3_numberFound_34 rfl 0 rfl ?_
        refine g_X3_found hR m_1_64 dX3_numberFound_35 ?_
        refine r_iload_n hR dX3_numberFound_38 rfl 3 rfl ?_
        obtain ⟨hin, h⟩ := ck_some h
        refine ld_X3_found hR dX3_numberFound_39 hin ?_
        obtain ⟨r_40, hc, h⟩ := bd_some h
        refine r_callVi hR (c7_codeAt hc) (cf_X3_87 (by decide)) ⟨m_2_72, m_2_73⟩ (As := [.int x3, .int (ar q 15 (ix x3))]) (q0 := 1) (ci := 5) rfl rfl rfl rfl (rc_X7 ad _) (Nat.le_of_ble_eq_true rfl) rfl dX3_numberFound_40 ?_
        refine r_iload_n hR dX3_numberFound_43 rfl 2 rfl ?_
        obtain ⟨r_44, hc, h⟩ := bd_some h
        refine r_callSi hR (c4_numberIn hc) (cf_X3_90 (by decide)) m_2_76 (As := [.int r_40, .int x2]) rfl rfl (Nat.le_of_ble_eq_true rfl) rfl dX3_numberFound_44 ?_
        exact r_iret hR dX3_numberFound_47 rfl (rt1 hP h)
theorem t3_numberFound_l2 (hR : Rl wC 2 RX3 cX3_numberFound 4 (some .int) ad J P) (N : Nat) (q : SS) {r : Int32} (hP : P (some (.int r)) q) : ∀ (n : Nat) (x1 : Int32) (x2 : Int32) (x3 : Int32), f3_numberFound_l2 N q n x1 x2 x3 = some r → J [(0, .ref (ad 2)), (1, .int x1), (2, .int x2), (3, .int x3)] [] q 2 := by
  intro n
  induction n with
  | zero => intro x1 x2 x3 h; exact mu_noneF h
  | succ n ih => intro x1 x2 x3 h; exact t3_numberFound_l2_B hR N q hP _ ih x1 x2 x3 h
theorem t3_numberFound (hR : Rl wC 2 RX3 cX3_numberFound 4 (some .int) ad J P) (N : Nat) (q : SS) {r : Int32} (hP : P (some (.int r)) q) (x1 : Int32) (x2 : Int32) (h : f3_numberFound N q x1 x2 = some r) : J [(0, .ref (ad 2)), (1, .int x1), (2, .int x2)] [] q 0 := by
  unfold f3_numberFound at h
  refine r_iconst hR dX3_numberFound_0 kc_iconst_0 ?_
  refine r_istore_n hR (i := 3) (lv' := [(3, .int (0 : Int32)), (0, .ref (ad 2)), (1, .int x1), (2, .int x2)]) dX3_numberFound_1 rfl rfl (by decide) rfl ?_
  exact r_sub hR [1, 2, 3, 0] rfl (t3_numberFound_l2 hR N q hP N _ _ _ h)
theorem c3_numberFound (N : Nat) {x1 : Int32} {x2 : Int32} {q : SS} {r : Int32} (h : f3_numberFound N q x1 x2 = some r) : Ct wC 2 yX3_numberFound cX3_numberFound 4 (some .int) (fun ad => [.ref (ad 2), .int x1, .int x2]) q (fun _ => some (.int r)) q :=
  ct_of (by decide) (fun _ => Nat.le_of_ble_eq_true rfl) (fun ad J hR => t3_numberFound hR N q ⟨rfl, rfl⟩ x1 x2 h)
theorem t3_idleRows_b55 (hR : Rl wC 11 RX3 cX3_idleRows 5 (some .int) ad J P) (N : Nat) {r : Int32} {q2 : SS} (hP : P (some (.int r)) q2) (bk21 : Int32 → Int32 → Int32 → Int32 → SS → Option (Int32 × SS)) (hbk21 : ∀ (x1 : Int32) (x2 : Int32) (x3 : Int32) (x4 : Int32) (q : SS), bk21 x1 x2 x3 x4 q = some (r, q2) → J [(0, .ref (ad 2)), (1, .int x1), (2, .int x2), (3, .int x3), (4, .int x4)] [] q 21) (x1 : Int32) (x2 : Int32) (x3 : Int32) (x4 : Int32) (q : SS) (h : f3_idleRows_b55 N bk21 x1 x2 x3 x4 q = some (r, q2)) : J [(0, .ref (ad 2)), (1, .int x1), (2, .int x2), (3, .int x3), (4, .int x4)] [] q 55 := by
  unfold f3_idleRows_b55 at h
  obtain ⟨x4_55, hx, h⟩ := bn_some h
  refine r_iinc hR (i := 4) (lv' := [(4, .int x4_55), (0, .ref (ad 2)), (1, .int x1), (2, .int x2), (3, .int x3)]) dX3_idleRows_55 4 rfl (inc_ok hx kc_iconst_1) (by decide) rfl ?_
  refine r_goto hR (tgt := 21) dX3_idleRows_58 (by decide) ?_
  exact r_sub hR [1, 2, 3, 4, 0] rfl (hbk21 _ _ _ _ _ h)
theorem t3_idleRows_l21_B (hR : Rl wC 11 RX3 cX3_idleRows 5 (some .int) ad J P) (N : Nat) {r : Int32} {q2 : SS} (hP : P (some (.int r)) q2) (bk21 : Int32 → Int32 → Int32 → Int32 → SS → Option (Int32 × SS)) (hbk21 : ∀ (x1 : Int32) (x2 : Int32) (x3 : Int32) (x4 : Int32) (q : SS), bk21 x1 x2 x3 x4 q = some (r, q2) → J [(0, .ref (ad 2)), (1, .int x1), (2, .int x2), (3, .int x3), (4, .int x4)] [] q 21) (x1 : Int32) (x2 : Int32) (x3 : Int32) (x4 : Int32) (q : SS) (h : f3_idleRows_l21_B N bk21 x1 x2 x3 x4 q = some (r, q2)) : J [(0, .ref (ad 2)), (1, .int x1), (2, .int x2), (3, .int x3), (4, .int x4)] [] q 21 := by
  unfold f3_idleRows_l21_B at h
  refine r_iload hR dX3_idleRows_21 4 rfl ?_
  refine r_aload_n hR dX3_idleRows_23 rfl 0 rfl ?_
  refine g_X3_shelf hR m_1_60 dX3_idleRows_24 ?_
  refine r_iload_n hR dX3_idleRows_27 rfl 2 rfl ?_
  obtain ⟨r_28, hc, h⟩ := bd_some h
  refine r_callVi hR (c7_rowsOf hc) (cf_X3_64 (by decide)) ⟨m_2_13, m_2_14⟩ (As := [.int x2]) (q0 := 1) (ci := 5) rfl rfl rfl rfl (rc_X7 ad _) (Nat.le_of_ble_eq_true rfl) rfl dX3_idleRows_28 ?_
  refine r_icmp_ge hR (tgt := 61) dX3_idleRows_31 (by decide) (fun c_31 => ?_) (fun c_31 => ?_)
  · replace h := it_t c_31 h
    refine r_iload_n hR dX3_idleRows_61 rfl 3 rfl ?_
    exact r_iret hR dX3_idleRows_62 rfl (rt2 hP h)
  · replace h := it_f c_31 h
    refine r_aload_n hR dX3_idleRows_34 rfl 0 rfl ?_
    refine g_X3_allowed hR m_1_61 dX3_idleRows_35 ?_
    refine r_iload_n hR dX3_idleRows_38 rfl 2 rfl ?_
    refine r_iconst hR dX3_idleRows_39 kc_iconst_1 ?_
    refine r_iload hR dX3_idleRows_40 4 rfl ?_
    refine r_ishl hR dX3_idleRows_42 ?_
    obtain ⟨hin, h⟩ := ck_some h
    obtain ⟨q_43, hq, h⟩ := bn_some h
    refine sv_X3_allowed hR dX3_idleRows_43 hin hq ?_
    refine r_aload_n hR dX3_idleRows_44 rfl 0 rfl ?_
    refine r_iload_n hR dX3_idleRows_45 rfl 1 rfl ?_
    obtain ⟨r_46, q_46, hc, h⟩ := bd2_some h
    refine r_callVi hR (c3_counted N hc) (cf_X3_61 (by decide)) ⟨m_2_168, ms_1_5⟩ (As := [.int x1]) (q0 := 2) (ci := 3) rfl rfl rfl rfl (rc_X3 ad _) (Nat.le_of_ble_eq_true rfl) rfl dX3_idleRows_46 ?_
    refine r_if_ne hR (tgt := 55) dX3_idleRows_49 (by decide) (fun c_49 => ?_) (fun c_49 => ?_)
    · replace h := it_f c_49 h
      exact r_sub hR [0, 1, 2, 3, 4] rfl (t3_idleRows_b55 hR N hP bk21 hbk21 _ _ _ _ _ h)
    · replace h := it_t c_49 h
      obtain ⟨x3_52, hx, h⟩ := bn_some h
      refine r_iinc hR (i := 3) (lv' := [(3, .int x3_52), (0, .ref (ad 2)), (1, .int x1), (2, .int x2), (4, .int x4)]) dX3_idleRows_52 3 rfl (inc_ok hx kc_iconst_1) (by decide) rfl ?_
      exact r_sub hR [1, 2, 3, 0, 4] rfl (t3_idleRows_b55 hR N hP bk21 hbk21 _ _ _ _ _ h)
theorem t3_idleRows_l21 (hR : Rl wC 11 RX3 cX3_idleRows 5 (some .int) ad J P) (N : Nat) {r : Int32} {q2 : SS} (hP : P (some (.int r)) q2) : ∀ (n : Nat) (x1 : Int32) (x2 : Int32) (x3 : Int32) (x4 : Int32) (q : SS), f3_idleRows_l21 N n x1 x2 x3 x4 q = some (r, q2) → J [(0, .ref (ad 2)), (1, .int x1), (2, .int x2), (3, .int x3), (4, .int x4)] [] q 21 := by
  intro n
  induction n with
  | zero => intro x1 x2 x3 x4 q h; exact mu_noneF h
  | succ n ih => intro x1 x2 x3 x4 q h; exact t3_idleRows_l21_B hR N hP _ ih x1 x2 x3 x4 q h
theorem t3_idleRows (hR : Rl wC 11 RX3 cX3_idleRows 5 (some .int) ad J P) (N : Nat) {r : Int32} {q2 : SS} (hP : P (some (.int r)) q2) (x1 : Int32) (x2 : Int32) (q : SS) (h : f3_idleRows N x1 x2 q = some (r, q2)) : J [(0, .ref (ad 2)), (1, .int x1), (2, .int x2)] [] q 0 := by
  unfold f3_idleRows at h
  refine r_iload_n hR dX3_idleRows_0 rfl 2 rfl ?_
  refine r_if_lt hR (tgt := 10) dX3_idleRows_1 (by decide) (fun c_1 => ?_) (fun c_1 => ?_)
  · replace h := it_t c_1 h
    refine r_iconst hR dX3_idleRows_10 kc_iconst_0 ?_
    exact r_iret hR dX3_idleRows_11 rfl (rt2 hP h)
  · replace h := it_f c_1 h
    refine r_iload_n hR dX3_idleRows_4 rfl 2 rfl ?_
    refine r_bipush hR dX3_idleRows_5 kc_bipush_6 ?_
    refine r_icmp_lt hR (tgt := 12) dX3_idleRows_7 (by decide) (fun c_7 => ?_) (fun c_7 => ?_)
    · replace h := it_t c_7 h
      refine r_aload_n hR dX3_idleRows_12 rfl 0 rfl ?_
      obtain ⟨q_13, hc, h⟩ := bd_some h
      refine r_callVv hR (c3_allowAllRows N hc) (cf_X3_58 (by decide)) ⟨m_2_161, ms_1_4⟩ (As := []) (q0 := 2) (ci := 3) rfl rfl rfl rfl (rc_X3 ad _) (Nat.le_of_ble_eq_true rfl) rfl dX3_idleRows_13 ?_
      refine r_iconst hR dX3_idleRows_16 kc_iconst_0 ?_
      refine r_istore_n hR (i := 3) (lv' := [(3, .int (0 : Int32)), (0, .ref (ad 2)), (1, .int x1), (2, .int x2)]) dX3_idleRows_17 rfl rfl (by decide) rfl ?_
      refine r_iconst hR dX3_idleRows_18 kc_iconst_0 ?_
      refine r_istore hR (i := 4) (lv' := [(4, .int (0 : Int32)), (3, .int (0 : Int32)), (0, .ref (ad 2)), (1, .int x1), (2, .int x2)]) dX3_idleRows_19 rfl (by decide) rfl ?_
      exact r_sub hR [2, 3, 4, 1, 0] rfl (t3_idleRows_l21 hR N hP N _ _ _ _ _ h)
    · replace h := it_f c_7 h
      refine r_iconst hR dX3_idleRows_10 kc_iconst_0 ?_
      exact r_iret hR dX3_idleRows_11 rfl (rt2 hP h)
theorem c3_idleRows (N : Nat) {x1 : Int32} {x2 : Int32} {q : SS} {r : Int32} {q2 : SS} (h : f3_idleRows N x1 x2 q = some (r, q2)) : Ct wC 11 yX3_idleRows cX3_idleRows 5 (some .int) (fun ad => [.ref (ad 2), .int x1, .int x2]) q (fun _ => some (.int r)) q2 :=
  ct_of (by decide) (fun _ => Nat.le_of_ble_eq_true rfl) (fun ad J hR => t3_idleRows hR N ⟨rfl, rfl⟩ x1 x2 q h)
theorem t4_codeOf_b63 (hR : Rl wC 1 RX4 cX4_codeOf 8 (some .int) ad J P) (N : Nat) {q : SS} {r : Int32} (hP : P (some (.int r)) q) (bk9 : Int32 → Int32 → Int32 → Int32 → Int32 → Int32 → Int32 → Option Int32) (hbk9 : ∀ (x0 : Int32) (x1 : Int32) (x2 : Int32) (x3 : Int32) (x4 : Int32) (x5 : Int32) (x6 : Int32), bk9 x0 x1 x2 x3 x4 x5 x6 = some r → J [(0, .int x0), (1, .int x1), (2, .int x2), (3, .int x3), (4, .int x4), (5, .int x5), (6, .int x6)] [] q 9) (x0 : Int32) (x1 : Int32) (x2 : Int32) (x3 : Int32) (x4 : Int32) (x5 : Int32) (x6 : Int32) (h : f4_codeOf_b63 N bk9 x0 x1 x2 x3 x4 x5 x6 = some r) : J [(0, .int x0), (1, .int x1), (2, .int x2), (3, .int x3), (4, .int x4), (5, .int x5), (6, .int x6)] [] q 63 := by
  unfold f4_codeOf_b63 at h
  obtain ⟨x6_63, hx, h⟩ := bn_some h
  refine r_iinc hR (i := 6) (lv' := [(6, .int x6_63), (0, .int x0), (1, .int x1), (2, .int x2), (3, .int x3), (4, .int x4), (5, .int x5)]) dX4_codeOf_63 6 rfl (inc_ok hx kc_iconst_1) (by decide) rfl ?_
  refine r_goto hR (tgt := 9) dX4_codeOf_66 (by decide) ?_
  exact r_sub hR [1, 2, 3, 4, 5, 6, 0] rfl (hbk9 _ _ _ _ _ _ _ h)
theorem t4_codeOf_b46 (hR : Rl wC 1 RX4 cX4_codeOf 8 (some .int) ad J P) (N : Nat) {q : SS} {r : Int32} (hP : P (some (.int r)) q) (bk9 : Int32 → Int32 → Int32 → Int32 → Int32 → Int32 → Int32 → Option Int32) (hbk9 : ∀ (x0 : Int32) (x1 : Int32) (x2 : Int32) (x3 : Int32) (x4 : Int32) (x5 : Int32) (x6 : Int32), bk9 x0 x1 x2 x3 x4 x5 x6 = some r → J [(0, .int x0), (1, .int x1), (2, .int x2), (3, .int x3), (4, .int x4), (5, .int x5), (6, .int x6)] [] q 9) (x0 : Int32) (x1 : Int32) (x2 : Int32) (x3 : Int32) (x4 : Int32) (x5 : Int32) (x6 : Int32) (s0 : Int32) (h : f4_codeOf_b46 N bk9 x0 x1 x2 x3 x4 x5 x6 s0 = some r) : J [(0, .int x0), (1, .int x1), (2, .int x2), (3, .int x3), (4, .int x4), (5, .int x5), (6, .int x6)] [.int s0] q 46 := by
  unfold f4_codeOf_b46 at h
  refine r_istore hR (i := 7) (lv' := [(7, .int s0), (0, .int x0), (1, .int x1), (2, .int x2), (3, .int x3), (4, .int x4), (5, .int x5), (6, .int x6)]) dX4_codeOf_46 rfl (by decide) rfl ?_
  refine r_iload hR dX4_codeOf_48 5 rfl ?_
  refine r_iload hR dX4_codeOf_50 0 rfl ?_
  refine r_iconst hR dX4_codeOf_52 kc_iconst_4 ?_
  refine r_iload hR dX4_codeOf_53 7 rfl ?_
  refine r_imul hR dX4_codeOf_55 ?_
  refine r_ishl hR dX4_codeOf_56 ?_
  refine r_ior hR dX4_codeOf_57 ?_
  obtain ⟨x4_58, hx, h⟩ := bn_some h
  refine r_istore hR (i := 4) (lv' := [(4, .int x4_58), (7, .int s0), (0, .int x0), (1, .int x1), (2, .int x2), (3, .int x3), (5, .int x5), (6, .int x6)]) dX4_codeOf_58 hx (by decide) rfl ?_
  obtain ⟨x5_60, hx, h⟩ := bn_some h
  refine r_iinc hR (i := 5) (lv' := [(5, .int x5_60), (4, .int x4_58), (7, .int s0), (0, .int x0), (1, .int x1), (2, .int x2), (3, .int x3), (6, .int x6)]) dX4_codeOf_60 6 rfl (inc_ok hx kc_iconst_1) (by decide) rfl ?_
  exact r_sub hR [3, 4, 5, 6, 1, 0, 7] rfl (t4_codeOf_b63 hR N hP bk9 hbk9 _ _ _ _ _ _ _ h)
theorem t4_codeOf_l9_B (hR : Rl wC 1 RX4 cX4_codeOf 8 (some .int) ad J P) (N : Nat) {q : SS} {r : Int32} (hP : P (some (.int r)) q) (bk9 : Int32 → Int32 → Int32 → Int32 → Int32 → Int32 → Int32 → Option Int32) (hbk9 : ∀ (x0 : Int32) (x1 : Int32) (x2 : Int32) (x3 : Int32) (x4 : Int32) (x5 : Int32) (x6 : Int32), bk9 x0 x1 x2 x3 x4 x5 x6 = some r → J [(0, .int x0), (1, .int x1), (2, .int x2), (3, .int x3), (4, .int x4), (5, .int x5), (6, .int x6)] [] q 9) (x0 : Int32) (x1 : Int32) (x2 : Int32) (x3 : Int32) (x4 : Int32) (x5 : Int32) (x6 : Int32) (h : f4_codeOf_l9_B N bk9 x0 x1 x2 x3 x4 x5 x6 = some r) : J [(0, .int x0), (1, .int x1), (2, .int x2), (3, .int x3), (4, .int x4), (5, .int x5), (6, .int x6)] [] q 9 := by
  unfold f4_codeOf_l9_B at h
  refine r_iload hR dX4_codeOf_9 6 rfl ?_
  refine r_bipush hR dX4_codeOf_11 kc_bipush_8 ?_
  refine r_icmp_ge hR (tgt := 69) dX4_codeOf_13 (by decide) (fun c_13 => ?_) (fun c_13 => ?_)
  · replace h := it_t c_13 h
    refine r_iload hR dX4_codeOf_69 4 rfl ?_
    exact r_iret hR dX4_codeOf_71 rfl (rt1 hP h)
  · replace h := it_f c_13 h
    refine r_iload_n hR dX4_codeOf_16 rfl 0 rfl ?_
    refine r_iload hR dX4_codeOf_17 6 rfl ?_
    refine r_ishr hR dX4_codeOf_19 ?_
    refine r_iconst hR dX4_codeOf_20 kc_iconst_1 ?_
    refine r_iand hR dX4_codeOf_21 ?_
    refine r_iconst hR dX4_codeOf_22 kc_iconst_1 ?_
    refine r_icmp_ne hR (tgt := 63) dX4_codeOf_23 (by decide) (fun c_23 => ?_) (fun c_23 => ?_)
    · replace h := it_f c_23 h
      exact r_sub hR [0, 1, 2, 3, 4, 5, 6] rfl (t4_codeOf_b63 hR N hP bk9 hbk9 _ _ _ _ _ _ _ h)
    · replace h := it_t c_23 h
      refine r_iload hR dX4_codeOf_26 5 rfl ?_
      refine r_if_ne hR (tgt := 35) dX4_codeOf_28 (by decide) (fun c_28 => ?_) (fun c_28 => ?_)
      · replace h := it_f c_28 h
        refine r_iload hR dX4_codeOf_35 5 rfl ?_
        refine r_iconst hR dX4_codeOf_37 kc_iconst_1 ?_
        refine r_icmp_ne hR (tgt := 45) dX4_codeOf_38 (by decide) (fun c_38 => ?_) (fun c_38 => ?_)
        · replace h := it_f c_38 h
          refine r_iload_n hR dX4_codeOf_45 rfl 3 rfl ?_
          exact r_sub hR [0, 1, 2, 3, 4, 5, 6] rfl (t4_codeOf_b46 hR N hP bk9 hbk9 _ _ _ _ _ _ _ _ h)
        · replace h := it_t c_38 h
          refine r_iload_n hR dX4_codeOf_41 rfl 2 rfl ?_
          refine r_goto hR (tgt := 46) dX4_codeOf_42 (by decide) ?_
          exact r_sub hR [0, 1, 2, 3, 4, 5, 6] rfl (t4_codeOf_b46 hR N hP bk9 hbk9 _ _ _ _ _ _ _ _ h)
      · replace h := it_t c_28 h
        refine r_iload_n hR dX4_codeOf_31 rfl 1 rfl ?_
        refine r_goto hR (tgt := 46) dX4_codeOf_32 (by decide) ?_
        exact r_sub hR [0, 1, 2, 3, 4, 5, 6] rfl (t4_codeOf_b46 hR N hP bk9 hbk9 _ _ _ _ _ _ _ _ h)
theorem t4_codeOf_l9 (hR : Rl wC 1 RX4 cX4_codeOf 8 (some .int) ad J P) (N : Nat) {q : SS} {r : Int32} (hP : P (some (.int r)) q) : ∀ (n : Nat) (x0 : Int32) (x1 : Int32) (x2 : Int32) (x3 : Int32) (x4 : Int32) (x5 : Int32) (x6 : Int32), f4_codeOf_l9 N n x0 x1 x2 x3 x4 x5 x6 = some r → J [(0, .int x0), (1, .int x1), (2, .int x2), (3, .int x3), (4, .int x4), (5, .int x5), (6, .int x6)] [] q 9 := by
  intro n
  induction n with
  | zero => intro x0 x1 x2 x3 x4 x5 x6 h; exact mu_noneF h
  | succ n ih => intro x0 x1 x2 x3 x4 x5 x6 h; exact t4_codeOf_l9_B hR N hP _ ih x0 x1 x2 x3 x4 x5 x6 h
theorem t4_codeOf (hR : Rl wC 1 RX4 cX4_codeOf 8 (some .int) ad J P) (N : Nat) {q : SS} {r : Int32} (hP : P (some (.int r)) q) (x0 : Int32) (x1 : Int32) (x2 : Int32) (x3 : Int32) (h : f4_codeOf N x0 x1 x2 x3 = some r) : J [(0, .int x0), (1, .int x1), (2, .int x2), (3, .int x3)] [] q 0 := by
  unfold f4_codeOf at h
  refine r_iconst hR dX4_codeOf_0 kc_iconst_0 ?_
  refine r_istore hR (i := 4) (lv' := [(4, .int (0 : Int32)), (0, .int x0), (1, .int x1), (2, .int x2), (3, .int x3)]) dX4_codeOf_1 rfl (by decide) rfl ?_
  refine r_iconst hR dX4_codeOf_3 kc_iconst_0 ?_
  refine r_istore hR (i := 5) (lv' := [(5, .int (0 : Int32)), (4, .int (0 : Int32)), (0, .int x0), (1, .int x1), (2, .int x2), (3, .int x3)]) dX4_codeOf_4 rfl (by decide) rfl ?_
  refine r_iconst hR dX4_codeOf_6 kc_iconst_0 ?_
  refine r_istore hR (i := 6) (lv' := [(6, .int (0 : Int32)), (5, .int (0 : Int32)), (4, .int (0 : Int32)), (0, .int x0), (1, .int x1), (2, .int x2), (3, .int x3)]) dX4_codeOf_7 rfl (by decide) rfl ?_
  exact r_sub hR [3, 4, 5, 6, 2, 1, 0] rfl (t4_codeOf_l9 hR N hP N _ _ _ _ _ _ _ h)
theorem c4_codeOf (N : Nat) {x0 : Int32} {x1 : Int32} {x2 : Int32} {x3 : Int32} {q : SS} {r : Int32} (h : f4_codeOf N x0 x1 x2 x3 = some r) : Ct wC 1 yX4_codeOf cX4_codeOf 8 (some .int) (fun ad => [.int x0, .int x1, .int x2, .int x3]) q (fun _ => some (.int r)) q :=
  ct_of (by decide) (fun _ => Nat.le_of_ble_eq_true rfl) (fun ad J hR => t4_codeOf hR N ⟨rfl, rfl⟩ x0 x1 x2 x3 h)
theorem t6_append_l17_B (hR : Rl wC 1 RX6 cX6_append 5 (some .int) ad J P) (N : Nat) {r : Int32} {q2 : SS} (hP : P (some (.int r)) q2) (bk17 : Int64 → Int32 → Int32 → SS → Option (Int32 × SS)) (hbk17 : ∀ (x1 : Int64) (x3 : Int32) (x4 : Int32) (q : SS), bk17 x1 x3 x4 q = some (r, q2) → J [(0, .ref (ad 3)), (1, .long x1), (3, .int x3), (4, .int x4)] [] q 17) (x1 : Int64) (x3 : Int32) (x4 : Int32) (q : SS) (h : f6_append_l17_B N bk17 x1 x3 x4 q = some (r, q2)) : J [(0, .ref (ad 3)), (1, .long x1), (3, .int x3), (4, .int x4)] [] q 17 := by
  unfold f6_append_l17_B at h
  refine r_iload hR dX6_append_17 3 rfl ?_
  refine r_iload_n hR dX6_append_19 rfl 2 rfl ?_
  refine r_icmp_ge hR (tgt := 69) dX6_append_20 (by decide) (fun c_20 => ?_) (fun c_20 => ?_)
  · replace h := it_t c_20 h
    refine r_aload_n hR dX6_append_69 rfl 0 rfl ?_
    refine g_X6_length hR m_1_83 dX6_append_70 ?_
    exact r_iret hR dX6_append_73 rfl (rt2 hP h)
  · replace h := it_f c_20 h
    refine r_aload_n hR dX6_append_23 rfl 0 rfl ?_
    refine g_X6_length hR m_1_83 dX6_append_24 ?_
    refine r_bipush hR dX6_append_27 kc_bipush_40 ?_
    refine r_icmp_ge hR (tgt := 69) dX6_append_29 (by decide) (fun c_29 => ?_) (fun c_29 => ?_)
    · replace h := it_t c_29 h
      refine r_aload_n hR dX6_append_69 rfl 0 rfl ?_
      refine g_X6_length hR m_1_83 dX6_append_70 ?_
      exact r_iret hR dX6_append_73 rfl (rt2 hP h)
    · replace h := it_f c_29 h
      refine r_aload_n hR dX6_append_32 rfl 0 rfl ?_
      refine g_X6_signs hR m_1_82 dX6_append_33 ?_
      refine r_aload_n hR dX6_append_36 rfl 0 rfl ?_
      refine g_X6_length hR m_1_83 dX6_append_37 ?_
      refine r_lload_n hR dX6_append_40 rfl 1 rfl ?_
      refine r_bipush hR dX6_append_41 kc_bipush_8 ?_
      refine r_iload hR dX6_append_43 3 rfl ?_
      refine r_imul hR dX6_append_45 ?_
      refine r_lushr hR dX6_append_46 ?_
      refine r_ldc2 hR dX6_append_47 m_3_18 ?_
      refine r_land hR dX6_append_50 ?_
      refine r_l2i hR dX6_append_51 ?_
      obtain ⟨hin, h⟩ := ck_some h
      obtain ⟨q_52, hq, h⟩ := bn_some h
      refine sv_X6_signs hR dX6_append_52 hin hq ?_
      refine r_aload_n hR dX6_append_53 rfl 0 rfl ?_
      refine r_dup hR dX6_append_54 rfl ?_
      refine g_X6_length hR m_1_83 dX6_append_55 ?_
      refine r_iconst hR dX6_append_58 kc_iconst_1 ?_
      refine r_iadd hR dX6_append_59 ?_
      obtain ⟨q_60, hq, h⟩ := bn_some h
      refine p_X6_length hR m_1_83 dX6_append_60 hq ?_
      obtain ⟨x4_63, hx, h⟩ := bn_some h
      refine r_iinc hR (i := 4) (lv' := [(4, .int x4_63), (0, .ref (ad 3)), (1, .long x1), (3, .int x3)]) dX6_append_63 3 rfl (inc_ok hx kc_iconst_1) (by decide) rfl ?_
      refine r_goto hR (tgt := 17) dX6_append_66 (by decide) ?_
      exact r_sub hR [1, 2, 3, 0] rfl (hbk17 _ _ _ _ h)
theorem t6_append_l17 (hR : Rl wC 1 RX6 cX6_append 5 (some .int) ad J P) (N : Nat) {r : Int32} {q2 : SS} (hP : P (some (.int r)) q2) : ∀ (n : Nat) (x1 : Int64) (x3 : Int32) (x4 : Int32) (q : SS), f6_append_l17 N n x1 x3 x4 q = some (r, q2) → J [(0, .ref (ad 3)), (1, .long x1), (3, .int x3), (4, .int x4)] [] q 17 := by
  intro n
  induction n with
  | zero => intro x1 x3 x4 q h; exact mu_noneF h
  | succ n ih => intro x1 x3 x4 q h; exact t6_append_l17_B hR N hP _ ih x1 x3 x4 q h
theorem t6_append (hR : Rl wC 1 RX6 cX6_append 5 (some .int) ad J P) (N : Nat) {r : Int32} {q2 : SS} (hP : P (some (.int r)) q2) (x1 : Int64) (x3 : Int32) (q : SS) (h : f6_append N x1 x3 q = some (r, q2)) : J [(0, .ref (ad 3)), (1, .long x1), (3, .int x3)] [] q 0 := by
  unfold f6_append at h
  refine r_aload_n hR dX6_append_0 rfl 0 rfl ?_
  refine g_X6_length hR m_1_83 dX6_append_1 ?_
  refine r_iload_n hR dX6_append_4 rfl 2 rfl ?_
  refine r_iadd hR dX6_append_5 ?_
  refine r_bipush hR dX6_append_6 kc_bipush_40 ?_
  refine r_icmp_le hR (tgt := 14) dX6_append_8 (by decide) (fun c_8 => ?_) (fun c_8 => ?_)
  · replace h := it_t c_8 h
    refine r_iconst hR dX6_append_14 kc_iconst_0 ?_
    refine r_istore hR (i := 4) (lv' := [(4, .int (0 : Int32)), (0, .ref (ad 3)), (1, .long x1), (3, .int x3)]) dX6_append_15 rfl (by decide) rfl ?_
    exact r_sub hR [1, 2, 3, 0] rfl (t6_append_l17 hR N hP N _ _ _ _ h)
  · replace h := it_f c_8 h
    refine r_bipush hR dX6_append_11 kc_bipush_m104 ?_
    exact r_iret hR dX6_append_13 rfl (rt2 hP h)
theorem c6_append (N : Nat) {x1 : Int64} {x3 : Int32} {q : SS} {r : Int32} {q2 : SS} (h : f6_append N x1 x3 q = some (r, q2)) : Ct wC 1 yX6_append cX6_append 5 (some .int) (fun ad => [.ref (ad 3), .long x1, .int x3]) q (fun _ => some (.int r)) q2 :=
  ct_of (by decide) (fun _ => Nat.le_of_ble_eq_true rfl) (fun ad J hR => t6_append hR N ⟨rfl, rfl⟩ x1 x3 q h)
theorem t6_wipe (hR : Rl wC 1 RX6 cX6_wipe 2 (some .int) ad J P) {r : Int32} {q2 : SS} (hP : P (some (.int r)) q2) (q : SS) (h : f6_wipe q = some (r, q2)) : J [(0, .ref (ad 3))] [] q 0 := by
  unfold f6_wipe at h
  refine r_aload_n hR dX6_wipe_0 rfl 0 rfl ?_
  refine g_X6_length hR m_1_83 dX6_wipe_1 ?_
  obtain ⟨x1_4, hx, h⟩ := bn_some h
  refine r_istore_n hR (i := 1) (lv' := [(1, .int x1_4), (0, .ref (ad 3))]) dX6_wipe_4 hx rfl (by decide) rfl ?_
  refine r_aload_n hR dX6_wipe_5 rfl 1 rfl ?_
  refine r_iconst hR dX6_wipe_6 kc_iconst_0 ?_
  obtain ⟨q_7, hq, h⟩ := bn_some h
  refine p_X6_length hR m_1_83 dX6_wipe_7 hq ?_
  refine r_iload_n hR dX6_wipe_10 rfl 0 rfl ?_
  exact r_iret hR dX6_wipe_11 rfl (rt2 hP h)
theorem c6_wipe {q : SS} {r : Int32} {q2 : SS} (h : f6_wipe q = some (r, q2)) : Ct wC 1 yX6_wipe cX6_wipe 2 (some .int) (fun ad => [.ref (ad 3)]) q (fun _ => some (.int r)) q2 :=
  ct_of (by decide) (fun _ => Nat.le_of_ble_eq_true rfl) (fun ad J hR => t6_wipe hR ⟨rfl, rfl⟩ q h)
theorem t6_length (hR : Rl wC 1 RX6 cX6_length 1 (some .int) ad J P) (q : SS) {r : Int32} (hP : P (some (.int r)) q) (h : f6_length q = some r) : J [(0, .ref (ad 3))] [] q 0 := by
  unfold f6_length at h
  refine r_aload_n hR dX6_length_0 rfl 0 rfl ?_
  refine g_X6_length hR m_1_83 dX6_length_1 ?_
  exact r_iret hR dX6_length_4 rfl (rt1 hP h)
theorem c6_length {q : SS} {r : Int32} (h : f6_length q = some r) : Ct wC 1 yX6_length cX6_length 1 (some .int) (fun ad => [.ref (ad 3)]) q (fun _ => some (.int r)) q :=
  ct_of (by decide) (fun _ => Nat.le_of_ble_eq_true rfl) (fun ad J hR => t6_length hR q ⟨rfl, rfl⟩ h)
theorem t6_signs (hR : Rl wC 1 RX6 cX6_signs 1 (some (.array .int)) ad J P) (q : SS) (hP : P (some (.ref (ad 16))) q) (h : f6_signs q = some ()) : J [(0, .ref (ad 3))] [] q 0 := by
  unfold f6_signs at h
  refine r_aload_n hR dX6_signs_0 rfl 0 rfl ?_
  refine g_X6_signs hR m_1_82 dX6_signs_1 ?_
  exact r_aret hR dX6_signs_4 rfl hP
theorem c6_signs {q : SS} : Ct wC 1 yX6_signs cX6_signs 1 (some (.array .int)) (fun ad => [.ref (ad 3)]) q (fun ad => some (.ref (ad 16))) q :=
  ct_of (by decide) (fun _ => Nat.le_of_ble_eq_true rfl) (fun ad J hR => t6_signs hR q (hP := ⟨rfl, rfl⟩) rfl)
theorem t6_signAt (hR : Rl wC 1 RX6 cX6_signAt 2 (some .int) ad J P) (q : SS) {r : Int32} (hP : P (some (.int r)) q) (x1 : Int32) (h : f6_signAt q x1 = some r) : J [(0, .ref (ad 3)), (1, .int x1)] [] q 0 := by
  unfold f6_signAt at h
  refine r_iload_n hR dX6_signAt_0 rfl 1 rfl ?_
  refine r_if_lt hR (tgt := 21) dX6_signAt_1 (by decide) (fun c_1 => ?_) (fun c_1 => ?_)
  · replace h := it_t c_1 h
    refine r_iconst hR dX6_signAt_21 kc_iconst_m1 ?_
    exact r_iret hR dX6_signAt_22 rfl (rt1 hP h)
  · replace h := it_f c_1 h
    refine r_iload_n hR dX6_signAt_4 rfl 1 rfl ?_
    refine r_aload_n hR dX6_signAt_5 rfl 0 rfl ?_
    refine g_X6_length hR m_1_83 dX6_signAt_6 ?_
    refine r_icmp_ge hR (tgt := 21) dX6_signAt_9 (by decide) (fun c_9 => ?_) (fun c_9 => ?_)
    · replace h := it_t c_9 h
      refine r_iconst hR dX6_signAt_21 kc_iconst_m1 ?_
      exact r_iret hR dX6_signAt_22 rfl (rt1 hP h)
    · replace h := it_f c_9 h
      refine r_aload_n hR dX6_signAt_12 rfl 0 rfl ?_
      refine g_X6_signs hR m_1_82 dX6_signAt_13 ?_
      refine r_iload_n hR dX6_signAt_16 rfl 1 rfl ?_
      obtain ⟨hin, h⟩ := ck_some h
      refine ld_X6_signs hR dX6_signAt_17 hin ?_
      refine r_goto hR (tgt := 22) dX6_signAt_18 (by decide) ?_
      exact r_iret hR dX6_signAt_22 rfl (rt1 hP h)
theorem c6_signAt {x1 : Int32} {q : SS} {r : Int32} (h : f6_signAt q x1 = some r) : Ct wC 1 yX6_signAt cX6_signAt 2 (some .int) (fun ad => [.ref (ad 3), .int x1]) q (fun _ => some (.int r)) q :=
  ct_of (by decide) (fun _ => Nat.le_of_ble_eq_true rfl) (fun ad J hR => t6_signAt hR q ⟨rfl, rfl⟩ x1 h)
theorem t6_atRightSide (hR : Rl wC 1 RX6 cX6_atRightSide 1 (some .boolean) ad J P) (q : SS) {r : Int32} (hP : P (some (.int r)) q) (h : f6_atRightSide q = some r) : J [(0, .ref (ad 3))] [] q 0 := by
  unfold f6_atRightSide at h
  refine r_aload_n hR dX6_atRightSide_0 rfl 0 rfl ?_
  refine g_X6_sides hR m_1_87 dX6_atRightSide_1 ?_
  refine r_iconst hR dX6_atRightSide_4 kc_iconst_1 ?_
  refine r_iand hR dX6_atRightSide_5 ?_
  refine r_iconst hR dX6_atRightSide_6 kc_iconst_1 ?_
  refine r_icmp_ne hR (tgt := 14) dX6_atRightSide_7 (by decide) (fun c_7 => ?_) (fun c_7 => ?_)
  · replace h := it_f c_7 h
    refine r_iconst hR dX6_atRightSide_14 kc_iconst_0 ?_
    exact r_zret hR dX6_atRightSide_15 rfl (Or.inl rfl) (rt1 hP h)
  · replace h := it_t c_7 h
    refine r_iconst hR dX6_atRightSide_10 kc_iconst_1 ?_
    refine r_goto hR (tgt := 15) dX6_atRightSide_11 (by decide) ?_
    exact r_zret hR dX6_atRightSide_15 rfl (Or.inr rfl) (rt1 hP h)
theorem c6_atRightSide {q : SS} {r : Int32} (h : f6_atRightSide q = some r) : Ct wC 1 yX6_atRightSide cX6_atRightSide 1 (some .boolean) (fun ad => [.ref (ad 3)]) q (fun _ => some (.int r)) q :=
  ct_of (by decide) (fun _ => Nat.le_of_ble_eq_true rfl) (fun ad J hR => t6_atRightSide hR q ⟨rfl, rfl⟩ h)
theorem t6_takesClose (hR : Rl wC 1 RX6 cX6_takesClose 2 (some .boolean) ad J P) {r : Int32} {q2 : SS} (hP : P (some (.int r)) q2) (x1 : Int32) (q : SS) (h : f6_takesClose x1 q = some (r, q2)) : J [(0, .ref (ad 3)), (1, .int x1)] [] q 0 := by
  unfold f6_takesClose at h
  refine r_iload_n hR dX6_takesClose_0 rfl 1 rfl ?_
  refine r_bipush hR dX6_takesClose_1 kc_bipush_41 ?_
  refine r_icmp_eq hR (tgt := 8) dX6_takesClose_3 (by decide) (fun c_3 => ?_) (fun c_3 => ?_)
  · replace h := it_t c_3 h
    refine r_aload_n hR dX6_takesClose_8 rfl 0 rfl ?_
    refine r_dup hR dX6_takesClose_9 rfl ?_
    refine g_X6_open hR m_1_86 dX6_takesClose_10 ?_
    refine r_iconst hR dX6_takesClose_13 kc_iconst_1 ?_
    refine r_isub hR dX6_takesClose_14 ?_
    obtain ⟨q_15, hq, h⟩ := bn_some h
    refine p_X6_open hR m_1_86 dX6_takesClose_15 hq ?_
    refine r_aload_n hR dX6_takesClose_18 rfl 0 rfl ?_
    refine r_dup hR dX6_takesClose_19 rfl ?_
    refine g_X6_sides hR m_1_87 dX6_takesClose_20 ?_
    refine r_iconst hR dX6_takesClose_23 kc_iconst_1 ?_
    refine r_ishr hR dX6_takesClose_24 ?_
    obtain ⟨q_25, hq, h⟩ := bn_some h
    refine p_X6_sides hR m_1_87 dX6_takesClose_25 hq ?_
    refine r_iconst hR dX6_takesClose_28 kc_iconst_1 ?_
    exact r_zret hR dX6_takesClose_29 rfl (Or.inr rfl) (rt2 hP h)
  · replace h := it_f c_3 h
    refine r_iconst hR dX6_takesClose_6 kc_iconst_0 ?_
    exact r_zret hR dX6_takesClose_7 rfl (Or.inl rfl) (rt2 hP h)
theorem c6_takesClose {x1 : Int32} {q : SS} {r : Int32} {q2 : SS} (h : f6_takesClose x1 q = some (r, q2)) : Ct wC 1 yX6_takesClose cX6_takesClose 2 (some .boolean) (fun ad => [.ref (ad 3), .int x1]) q (fun _ => some (.int r)) q2 :=
  ct_of (by decide) (fun _ => Nat.le_of_ble_eq_true rfl) (fun ad J hR => t6_takesClose hR ⟨rfl, rfl⟩ x1 q h)
theorem t6_takesOpen (hR : Rl wC 2 RX6 cX6_takesOpen 2 (some .boolean) ad J P) {r : Int32} {q2 : SS} (hP : P (some (.int r)) q2) (x1 : Int32) (q : SS) (h : f6_takesOpen x1 q = some (r, q2)) : J [(0, .ref (ad 3)), (1, .int x1)] [] q 0 := by
  unfold f6_takesOpen at h
  refine r_aload_n hR dX6_takesOpen_0 rfl 0 rfl ?_
  refine g_X6_told hR m_1_84 dX6_takesOpen_1 ?_
  obtain ⟨r_4, hc, h⟩ := bd_some h
  refine r_callSi hR (cJ6_bitCount hc) (cf_X6_62 (by decide)) m_1_228 (As := [.int (fi q 5)]) rfl rfl (Nat.le_of_ble_eq_true rfl) rfl dX6_takesOpen_4 ?_
  refine r_aload_n hR dX6_takesOpen_7 rfl 0 rfl ?_
  refine g_X6_due hR m_1_85 dX6_takesOpen_8 ?_
  refine r_iadd hR dX6_takesOpen_11 ?_
  refine r_iconst hR dX6_takesOpen_12 kc_iconst_1 ?_
  refine r_iadd hR dX6_takesOpen_13 ?_
  refine r_iload_n hR dX6_takesOpen_14 rfl 1 rfl ?_
  refine r_icmp_le hR (tgt := 20) dX6_takesOpen_15 (by decide) (fun c_15 => ?_) (fun c_15 => ?_)
  · replace h := it_t c_15 h
    refine r_aload_n hR dX6_takesOpen_20 rfl 0 rfl ?_
    refine r_dup hR dX6_takesOpen_21 rfl ?_
    refine g_X6_due hR m_1_85 dX6_takesOpen_22 ?_
    refine r_iconst hR dX6_takesOpen_25 kc_iconst_1 ?_
    refine r_iadd hR dX6_takesOpen_26 ?_
    obtain ⟨q_27, hq, h⟩ := bn_some h
    refine p_X6_due hR m_1_85 dX6_takesOpen_27 hq ?_
    refine r_aload_n hR dX6_takesOpen_30 rfl 0 rfl ?_
    refine r_dup hR dX6_takesOpen_31 rfl ?_
    refine g_X6_open hR m_1_86 dX6_takesOpen_32 ?_
    refine r_iconst hR dX6_takesOpen_35 kc_iconst_1 ?_
    refine r_iadd hR dX6_takesOpen_36 ?_
    obtain ⟨q_37, hq, h⟩ := bn_some h
    refine p_X6_open hR m_1_86 dX6_takesOpen_37 hq ?_
    refine r_aload_n hR dX6_takesOpen_40 rfl 0 rfl ?_
    refine r_dup hR dX6_takesOpen_41 rfl ?_
    refine g_X6_sides hR m_1_87 dX6_takesOpen_42 ?_
    refine r_iconst hR dX6_takesOpen_45 kc_iconst_1 ?_
    refine r_ishl hR dX6_takesOpen_46 ?_
    obtain ⟨q_47, hq, h⟩ := bn_some h
    refine p_X6_sides hR m_1_87 dX6_takesOpen_47 hq ?_
    refine r_iconst hR dX6_takesOpen_50 kc_iconst_1 ?_
    exact r_zret hR dX6_takesOpen_51 rfl (Or.inr rfl) (rt2 hP h)
  · replace h := it_f c_15 h
    refine r_iconst hR dX6_takesOpen_18 kc_iconst_0 ?_
    exact r_zret hR dX6_takesOpen_19 rfl (Or.inl rfl) (rt2 hP h)
theorem c6_takesOpen {x1 : Int32} {q : SS} {r : Int32} {q2 : SS} (h : f6_takesOpen x1 q = some (r, q2)) : Ct wC 2 yX6_takesOpen cX6_takesOpen 2 (some .boolean) (fun ad => [.ref (ad 3), .int x1]) q (fun _ => some (.int r)) q2 :=
  ct_of (by decide) (fun _ => Nat.le_of_ble_eq_true rfl) (fun ad J hR => t6_takesOpen hR ⟨rfl, rfl⟩ x1 q h)
end
