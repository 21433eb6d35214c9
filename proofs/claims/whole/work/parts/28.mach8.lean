section
variable {ad : Nat → Nat} {J : JT} {P : PT} {ld : Nat}
theorem t9_best (hR : Rl wM 11 RX9 cX9_best 5 (some .int) ad J P) (N : Nat) {r : Int32} {q2 : SS} (hP : P (some (.int r)) q2) (x1 : Int32) (x2 : Int32) (x3 : Int32) (x4 : Int32) (q : SS) (h : f9_best N x1 x2 x3 x4 q = some (r, q2)) : J [(0, .ref (ad 0)), (1, .int x1), (2, .int x2), (3, .int x3), (4, .int x4)] [] q 0 := by
  unfold f9_best at h
  refine r_aload_n hR dX9_best_0 rfl 0 rfl ?_
  refine r_iload_n hR dX9_best_1 rfl 1 rfl ?_
  refine r_iload_n hR dX9_best_2 rfl 2 rfl ?_
  refine r_iload_n hR dX9_best_3 rfl 3 rfl ?_
  refine r_iload hR dX9_best_4 4 rfl ?_
  obtain ⟨r_6, hc, h⟩ := bd_some h
  refine r_callVi hR (c9_isAsked hc) (cf_X9_285 (by decide)) ⟨m_5_224, ms_5_5⟩ (As := [.int x1, .int x2, .int x3, .int x4]) (q0 := 0) (ci := 7) rfl rfl rfl rfl (rc_X9 ad _) (Nat.le_of_ble_eq_true rfl) rfl dX9_best_6 ?_
  refine r_if_ne hR (tgt := 15) dX9_best_9 (by decide) (fun c_9 => ?_) (fun c_9 => ?_)
  · replace h := it_f c_9 h
    refine r_aload_n hR dX9_best_15 rfl 0 rfl ?_
    refine g_X9_doneMany hR m_4_148 dX9_best_16 ?_
    refine r_bipush hR dX9_best_19 kc_bipush_60 ?_
    refine r_icmp_ne hR (tgt := 27) dX9_best_21 (by decide) (fun c_21 => ?_) (fun c_21 => ?_)
    · replace h := it_f c_21 h
      refine r_aload_n hR dX9_best_27 rfl 0 rfl ?_
      refine r_dup hR dX9_best_28 rfl ?_
      refine g_X9_doneMany hR m_4_148 dX9_best_29 ?_
      refine r_iconst hR dX9_best_32 kc_iconst_1 ?_
      refine r_iadd hR dX9_best_33 ?_
      obtain ⟨q_34, hq, h⟩ := bn_some h
      refine p_X9_doneMany hR m_4_148 dX9_best_34 hq ?_
      refine r_aload_n hR dX9_best_37 rfl 0 rfl ?_
      refine r_iload_n hR dX9_best_38 rfl 1 rfl ?_
      refine r_iload_n hR dX9_best_39 rfl 2 rfl ?_
      refine r_iload_n hR dX9_best_40 rfl 3 rfl ?_
      obtain ⟨q_41, hc, h⟩ := bd_some h
      refine r_callVv hR (c9_findBest N hc) (cf_X9_291 (by decide)) ⟨m_5_229, ms_5_6⟩ (As := [.int x1, .int x2, .int x3]) (q0 := 0) (ci := 7) rfl rfl rfl rfl (rc_X9 ad _) (Nat.le_of_ble_eq_true rfl) rfl dX9_best_41 ?_
      refine r_aload_n hR dX9_best_44 rfl 0 rfl ?_
      refine r_iload_n hR dX9_best_45 rfl 1 rfl ?_
      refine r_iload hR dX9_best_46 4 rfl ?_
      obtain ⟨r_48, q_48, hc, h⟩ := bd2_some h
      refine r_callVi hR (c9_bestOrder N hc) (cf_X9_294 (by decide)) ⟨m_6_12, ms_5_11⟩ (As := [.int x1, .int x4]) (q0 := 0) (ci := 7) rfl rfl rfl rfl (rc_X9 ad _) (Nat.le_of_ble_eq_true rfl) rfl dX9_best_48 ?_
      refine r_pop hR dX9_best_51 rfl ?_
      refine r_aload_n hR dX9_best_52 rfl 0 rfl ?_
      refine g_X9_wishedCost hR m_4_153 dX9_best_53 ?_
      exact r_iret hR dX9_best_56 rfl (rt2 hP h)
    · replace h := it_t c_21 h
      refine r_bipush hR dX9_best_24 kc_bipush_m103 ?_
      exact r_iret hR dX9_best_26 rfl (rt2 hP h)
  · replace h := it_t c_9 h
    refine r_bipush hR dX9_best_12 kc_bipush_m102 ?_
    exact r_iret hR dX9_best_14 rfl (rt2 hP h)
theorem c9_best (N : Nat) {x1 : Int32} {x2 : Int32} {x3 : Int32} {x4 : Int32} {q : SS} {r : Int32} {q2 : SS} (h : f9_best N x1 x2 x3 x4 q = some (r, q2)) : Ct wM 11 yX9_best cX9_best 5 (some .int) (fun ad => [.ref (ad 0), .int x1, .int x2, .int x3, .int x4]) q (fun _ => some (.int r)) q2 :=
  ct_of (by decide) (fun _ => Nat.le_of_ble_eq_true rfl) (fun ad J hR => t9_best hR N ⟨rfl, rfl⟩ x1 x2 x3 x4 q h)
theorem t9_sign (hR : Rl wM 11 RX9 cX9_sign 7 (some .int) ad J P) (N : Nat) {r : Int32} {q2 : SS} (hP : P (some (.int r)) q2) (x1 : Int32) (x2 : Int32) (x3 : Int32) (x4 : Int32) (x5 : Int32) (q : SS) (h : f9_sign N x1 x2 x3 x4 x5 q = some (r, q2)) : J [(0, .ref (ad 0)), (1, .int x1), (2, .int x2), (3, .int x3), (4, .int x4), (5, .int x5)] [] q 0 := by
  unfold f9_sign at h
  refine r_aload_n hR dX9_sign_0 rfl 0 rfl ?_
  refine r_iload_n hR dX9_sign_1 rfl 1 rfl ?_
  refine r_iload_n hR dX9_sign_2 rfl 2 rfl ?_
  refine r_iload_n hR dX9_sign_3 rfl 3 rfl ?_
  refine r_iload hR dX9_sign_4 4 rfl ?_
  obtain ⟨r_6, hc, h⟩ := bd_some h
  refine r_callVi hR (c9_isAsked hc) (cf_X9_285 (by decide)) ⟨m_5_224, ms_5_5⟩ (As := [.int x1, .int x2, .int x3, .int x4]) (q0 := 0) (ci := 7) rfl rfl rfl rfl (rc_X9 ad _) (Nat.le_of_ble_eq_true rfl) rfl dX9_sign_6 ?_
  refine r_if_ne hR (tgt := 15) dX9_sign_9 (by decide) (fun c_9 => ?_) (fun c_9 => ?_)
  · replace h := it_f c_9 h
    refine r_aload_n hR dX9_sign_15 rfl 0 rfl ?_
    refine g_X9_doneMany hR m_4_148 dX9_sign_16 ?_
    refine r_bipush hR dX9_sign_19 kc_bipush_60 ?_
    refine r_icmp_ne hR (tgt := 27) dX9_sign_21 (by decide) (fun c_21 => ?_) (fun c_21 => ?_)
    · replace h := it_f c_21 h
      refine r_aload_n hR dX9_sign_27 rfl 0 rfl ?_
      refine r_dup hR dX9_sign_28 rfl ?_
      refine g_X9_doneMany hR m_4_148 dX9_sign_29 ?_
      refine r_iconst hR dX9_sign_32 kc_iconst_1 ?_
      refine r_iadd hR dX9_sign_33 ?_
      obtain ⟨q_34, hq, h⟩ := bn_some h
      refine p_X9_doneMany hR m_4_148 dX9_sign_34 hq ?_
      refine r_aload_n hR dX9_sign_37 rfl 0 rfl ?_
      refine r_iload_n hR dX9_sign_38 rfl 1 rfl ?_
      refine r_iload_n hR dX9_sign_39 rfl 2 rfl ?_
      refine r_iload_n hR dX9_sign_40 rfl 3 rfl ?_
      obtain ⟨q_41, hc, h⟩ := bd_some h
      refine r_callVv hR (c9_findBest N hc) (cf_X9_291 (by decide)) ⟨m_5_229, ms_5_6⟩ (As := [.int x1, .int x2, .int x3]) (q0 := 0) (ci := 7) rfl rfl rfl rfl (rc_X9 ad _) (Nat.le_of_ble_eq_true rfl) rfl dX9_sign_41 ?_
      refine r_aload_n hR dX9_sign_44 rfl 0 rfl ?_
      refine r_iload_n hR dX9_sign_45 rfl 1 rfl ?_
      refine r_iload hR dX9_sign_46 4 rfl ?_
      obtain ⟨r_48, q_48, hc, h⟩ := bd2_some h
      refine r_callVi hR (c9_bestOrder N hc) (cf_X9_294 (by decide)) ⟨m_6_12, ms_5_11⟩ (As := [.int x1, .int x4]) (q0 := 0) (ci := 7) rfl rfl rfl rfl (rc_X9 ad _) (Nat.le_of_ble_eq_true rfl) rfl dX9_sign_48 ?_
      refine r_istore hR (i := 6) (lv' := [(6, .int r_48), (0, .ref (ad 0)), (1, .int x1), (2, .int x2), (3, .int x3), (4, .int x4), (5, .int x5)]) dX9_sign_51 rfl (by decide) rfl ?_
      refine r_iload hR dX9_sign_53 6 rfl ?_
      refine r_i2l hR dX9_sign_55 ?_
      refine r_lconst hR dX9_sign_56 kc_lconst_0 ?_
      refine r_iload_n hR dX9_sign_57 rfl 2 rfl ?_
      obtain ⟨r_58, hc, h⟩ := bd_some h
      refine r_callSi hR (c9_signsOf N hc) (cf_X9_266 (by decide)) m_6_4 (As := [.int x1]) rfl rfl (Nat.le_of_ble_eq_true rfl) rfl dX9_sign_58 ?_
      refine r_iconst hR dX9_sign_61 kc_iconst_1 ?_
      refine r_isub hR dX9_sign_62 ?_
      refine r_i2l hR dX9_sign_63 ?_
      obtain ⟨r_64, hc, h⟩ := bd_some h
      refine r_callSi hR (c9_in hc) (cf_X9_92 (by decide)) m_5_6 (As := [.long (Int32.toInt64 x5), .long (0 : Int64), .long (Int32.toInt64 (r_58 - (1 : Int32)))]) rfl rfl (Nat.le_of_ble_eq_true rfl) rfl dX9_sign_64 ?_
      refine r_if_eq hR (tgt := 91) dX9_sign_67 (by decide) (fun c_67 => ?_) (fun c_67 => ?_)
      · replace h := it_t c_67 h
        refine r_iconst hR dX9_sign_91 kc_iconst_m1 ?_
        exact r_iret hR dX9_sign_92 rfl (rt2 hP h)
      · replace h := it_f c_67 h
        refine r_aload_n hR dX9_sign_70 rfl 1 rfl ?_
        refine g_X9_bestTexts hR m_4_150 dX9_sign_71 ?_
        refine r_bipush hR dX9_sign_74 kc_bipush_21 ?_
        refine r_bipush hR dX9_sign_76 kc_bipush_9 ?_
        refine r_iload_n hR dX9_sign_78 rfl 2 rfl ?_
        refine r_imul hR dX9_sign_79 ?_
        refine r_iload hR dX9_sign_80 0 rfl ?_
        refine r_iadd hR dX9_sign_82 ?_
        refine r_imul hR dX9_sign_83 ?_
        refine r_iload hR dX9_sign_84 6 rfl ?_
        refine r_iadd hR dX9_sign_86 ?_
        obtain ⟨hin, h⟩ := ck_some h
        refine ld_X9_bestTexts hR dX9_sign_87 hin ?_
        refine r_goto hR (tgt := 92) dX9_sign_88 (by decide) ?_
        exact r_iret hR dX9_sign_92 rfl (rt2 hP h)
    · replace h := it_t c_21 h
      refine r_bipush hR dX9_sign_24 kc_bipush_m103 ?_
      exact r_iret hR dX9_sign_26 rfl (rt2 hP h)
  · replace h := it_t c_9 h
    refine r_bipush hR dX9_sign_12 kc_bipush_m102 ?_
    exact r_iret hR dX9_sign_14 rfl (rt2 hP h)
theorem c9_sign (N : Nat) {x1 : Int32} {x2 : Int32} {x3 : Int32} {x4 : Int32} {x5 : Int32} {q : SS} {r : Int32} {q2 : SS} (h : f9_sign N x1 x2 x3 x4 x5 q = some (r, q2)) : Ct wM 11 yX9_sign cX9_sign 7 (some .int) (fun ad => [.ref (ad 0), .int x1, .int x2, .int x3, .int x4, .int x5]) q (fun _ => some (.int r)) q2 :=
  ct_of (by decide) (fun _ => Nat.le_of_ble_eq_true rfl) (fun ad J hR => t9_sign hR N ⟨rfl, rfl⟩ x1 x2 x3 x4 x5 q h)
theorem t9_regret_l60_B (hR : Rl wM 11 RX9 cX9_regret 5 (some .int) ad J P) (N : Nat) {r : Int32} {q2 : SS} (hP : P (some (.int r)) q2) (bk60 : Int32 → Int32 → Int32 → Int32 → SS → Option (Int32 × SS)) (hbk60 : ∀ (x1 : Int32) (x2 : Int32) (x3 : Int32) (x4 : Int32) (q : SS), bk60 x1 x2 x3 x4 q = some (r, q2) → J [(0, .ref (ad 0)), (1, .int x1), (2, .int x2), (3, .int x3), (4, .int x4)] [] q 60) (x1 : Int32) (x2 : Int32) (x3 : Int32) (x4 : Int32) (q : SS) (h : f9_regret_l60_B N bk60 x1 x2 x3 x4 q = some (r, q2)) : J [(0, .ref (ad 0)), (1, .int x1), (2, .int x2), (3, .int x3), (4, .int x4)] [] q 60 := by
  unfold f9_regret_l60_B at h
  refine r_iload hR dX9_regret_60 4 rfl ?_
  refine r_iload_n hR dX9_regret_62 rfl 1 rfl ?_
  obtain ⟨r_63, hc, h⟩ := bd_some h
  refine r_callSi hR (c9_signsOf N hc) (cf_X9_266 (by decide)) m_6_4 (As := [.int x1]) rfl rfl (Nat.le_of_ble_eq_true rfl) rfl dX9_regret_63 ?_
  refine r_icmp_ge hR (tgt := 99) dX9_regret_66 (by decide) (fun c_66 => ?_) (fun c_66 => ?_)
  · replace h := it_t c_66 h
    refine r_aload_n hR dX9_regret_99 rfl 0 rfl ?_
    refine r_iload_n hR dX9_regret_100 rfl 1 rfl ?_
    refine r_iload_n hR dX9_regret_101 rfl 2 rfl ?_
    refine r_iconst hR dX9_regret_102 kc_iconst_0 ?_
    obtain ⟨q_103, hc, h⟩ := bd_some h
    refine r_callVv hR (c9_findBest N hc) (cf_X9_291 (by decide)) ⟨m_5_229, ms_5_6⟩ (As := [.int x1, .int x2, .int (0 : Int32)]) (q0 := 0) (ci := 7) rfl rfl rfl rfl (rc_X9 ad _) (Nat.le_of_ble_eq_true rfl) rfl dX9_regret_103 ?_
    refine r_aload_n hR dX9_regret_106 rfl 0 rfl ?_
    refine r_iload_n hR dX9_regret_107 rfl 1 rfl ?_
    refine r_iconst hR dX9_regret_108 kc_iconst_m1 ?_
    obtain ⟨r_109, q_109, hc, h⟩ := bd2_some h
    refine r_callVi hR (c9_bestOrder N hc) (cf_X9_294 (by decide)) ⟨m_6_12, ms_5_11⟩ (As := [.int x1, .int (-1 : Int32)]) (q0 := 0) (ci := 7) rfl rfl rfl rfl (rc_X9 ad _) (Nat.le_of_ble_eq_true rfl) rfl dX9_regret_109 ?_
    refine r_pop hR dX9_regret_112 rfl ?_
    refine r_aload_n hR dX9_regret_113 rfl 0 rfl ?_
    refine r_aload_n hR dX9_regret_114 rfl 0 rfl ?_
    refine g_X9_foretoldText hR m_4_154 dX9_regret_115 ?_
    refine r_iconst hR dX9_regret_118 kc_iconst_0 ?_
    refine r_iload_n hR dX9_regret_119 rfl 1 rfl ?_
    obtain ⟨r_120, hc, h⟩ := bd_some h
    refine r_callSi hR (c9_signsOf N hc) (cf_X9_266 (by decide)) m_6_4 (As := [.int x1]) rfl rfl (Nat.le_of_ble_eq_true rfl) rfl dX9_regret_120 ?_
    obtain ⟨q_123, hc, h⟩ := bd_some h
    refine r_callVv hR (c9_workOff_v21 N hc) (cf_X9_256 (by decide)) ⟨m_5_196, ms_4_15⟩ (As := [.ref (ad 21), .int (0 : Int32), .int r_120]) (q0 := 0) (ci := 7) rfl rfl rfl rfl (rc_X9 ad _) (Nat.le_of_ble_eq_true rfl) rfl dX9_regret_123 ?_
    refine r_aload_n hR dX9_regret_126 rfl 0 rfl ?_
    refine g_X9_readyCosts hR m_4_143 dX9_regret_127 ?_
    refine r_iconst hR dX9_regret_130 kc_iconst_0 ?_
    refine ld_X9_readyCosts hR dX9_regret_131 (show ¬ ((0 : Int32) < 0 ∨ 41 ≤ Int32.toNatClampNeg (0 : Int32)) by decide) ?_
    refine r_aload_n hR dX9_regret_132 rfl 0 rfl ?_
    refine g_X9_wishedCost hR m_4_153 dX9_regret_133 ?_
    refine r_isub hR dX9_regret_136 ?_
    exact r_iret hR dX9_regret_137 rfl (rt2 hP h)
  · replace h := it_f c_66 h
    refine r_aload_n hR dX9_regret_69 rfl 0 rfl ?_
    refine g_X9_foretoldText hR m_4_154 dX9_regret_70 ?_
    refine r_iload hR dX9_regret_73 4 rfl ?_
    refine r_aload_n hR dX9_regret_75 rfl 0 rfl ?_
    refine g_X9_bestTexts hR m_4_150 dX9_regret_76 ?_
    refine r_bipush hR dX9_regret_79 kc_bipush_21 ?_
    refine r_bipush hR dX9_regret_81 kc_bipush_9 ?_
    refine r_iload_n hR dX9_regret_83 rfl 1 rfl ?_
    refine r_imul hR dX9_regret_84 ?_
    refine r_iload_n hR dX9_regret_85 rfl 3 rfl ?_
    refine r_iadd hR dX9_regret_86 ?_
    refine r_imul hR dX9_regret_87 ?_
    refine r_iload hR dX9_regret_88 4 rfl ?_
    refine r_iadd hR dX9_regret_90 ?_
    obtain ⟨hin, h⟩ := ck_some h
    refine ld_X9_bestTexts hR dX9_regret_91 hin ?_
    obtain ⟨hin, h⟩ := ck_some h
    obtain ⟨q_92, hq, h⟩ := bn_some h
    refine sv_X9_foretoldText hR dX9_regret_92 hin hq ?_
    obtain ⟨x4_93, hx, h⟩ := bn_some h
    refine r_iinc hR (i := 4) (lv' := [(4, .int x4_93), (0, .ref (ad 0)), (1, .int x1), (2, .int x2), (3, .int x3)]) dX9_regret_93 4 rfl (inc_ok hx kc_iconst_1) (by decide) rfl ?_
    refine r_goto hR (tgt := 60) dX9_regret_96 (by decide) ?_
    exact r_sub hR [1, 2, 3, 4, 0] rfl (hbk60 _ _ _ _ _ h)
theorem t9_regret_l60 (hR : Rl wM 11 RX9 cX9_regret 5 (some .int) ad J P) (N : Nat) {r : Int32} {q2 : SS} (hP : P (some (.int r)) q2) : ∀ (n : Nat) (x1 : Int32) (x2 : Int32) (x3 : Int32) (x4 : Int32) (q : SS), f9_regret_l60 N n x1 x2 x3 x4 q = some (r, q2) → J [(0, .ref (ad 0)), (1, .int x1), (2, .int x2), (3, .int x3), (4, .int x4)] [] q 60 := by
  intro n
  induction n with
  | zero => intro x1 x2 x3 x4 q h; exact mu_noneF h
  | succ n ih => intro x1 x2 x3 x4 q h; exact t9_regret_l60_B hR N hP _ ih x1 x2 x3 x4 q h
theorem t9_regret (hR : Rl wM 11 RX9 cX9_regret 5 (some .int) ad J P) (N : Nat) {r : Int32} {q2 : SS} (hP : P (some (.int r)) q2) (x1 : Int32) (x2 : Int32) (q : SS) (h : f9_regret N x1 x2 q = some (r, q2)) : J [(0, .ref (ad 0)), (1, .int x1), (2, .int x2)] [] q 0 := by
  unfold f9_regret at h
  refine r_aload_n hR dX9_regret_0 rfl 0 rfl ?_
  refine r_iload_n hR dX9_regret_1 rfl 1 rfl ?_
  obtain ⟨r_2, hc, h⟩ := bd_some h
  refine r_callVi hR (c9_isSet hc) (cf_X9_186 (by decide)) ⟨m_5_94, ms_3_14⟩ (As := [.int x1]) (q0 := 0) (ci := 7) rfl rfl rfl rfl (rc_X9 ad _) (Nat.le_of_ble_eq_true rfl) rfl dX9_regret_2 ?_
  refine r_if_eq hR (tgt := 18) dX9_regret_5 (by decide) (fun c_5 => ?_) (fun c_5 => ?_)
  · replace h := it_t c_5 h
    refine r_bipush hR dX9_regret_18 kc_bipush_m102 ?_
    exact r_iret hR dX9_regret_20 rfl (rt2 hP h)
  · replace h := it_f c_5 h
    refine r_iload_n hR dX9_regret_8 rfl 2 rfl ?_
    refine r_i2l hR dX9_regret_9 ?_
    refine r_lconst hR dX9_regret_10 kc_lconst_0 ?_
    refine r_lconst hR dX9_regret_11 kc_lconst_1 ?_
    obtain ⟨r_12, hc, h⟩ := bd_some h
    refine r_callSi hR (c9_in hc) (cf_X9_92 (by decide)) m_5_6 (As := [.long (Int32.toInt64 x2), .long (0 : Int64), .long (1 : Int64)]) rfl rfl (Nat.le_of_ble_eq_true rfl) rfl dX9_regret_12 ?_
    refine r_if_ne hR (tgt := 21) dX9_regret_15 (by decide) (fun c_15 => ?_) (fun c_15 => ?_)
    · replace h := it_f c_15 h
      refine r_aload_n hR dX9_regret_21 rfl 0 rfl ?_
      refine g_X9_doneMany hR m_4_148 dX9_regret_22 ?_
      refine r_bipush hR dX9_regret_25 kc_bipush_60 ?_
      refine r_icmp_ne hR (tgt := 33) dX9_regret_27 (by decide) (fun c_27 => ?_) (fun c_27 => ?_)
      · replace h := it_f c_27 h
        refine r_aload_n hR dX9_regret_33 rfl 0 rfl ?_
        refine r_dup hR dX9_regret_34 rfl ?_
        refine g_X9_doneMany hR m_4_148 dX9_regret_35 ?_
        refine r_iconst hR dX9_regret_38 kc_iconst_1 ?_
        refine r_iadd hR dX9_regret_39 ?_
        obtain ⟨q_40, hq, h⟩ := bn_some h
        refine p_X9_doneMany hR m_4_148 dX9_regret_40 hq ?_
        refine r_aload_n hR dX9_regret_43 rfl 0 rfl ?_
        refine r_iload_n hR dX9_regret_44 rfl 1 rfl ?_
        refine r_iload_n hR dX9_regret_45 rfl 2 rfl ?_
        refine r_iconst hR dX9_regret_46 kc_iconst_1 ?_
        obtain ⟨q_47, hc, h⟩ := bd_some h
        refine r_callVv hR (c9_findBest N hc) (cf_X9_291 (by decide)) ⟨m_5_229, ms_5_6⟩ (As := [.int x1, .int x2, .int (1 : Int32)]) (q0 := 0) (ci := 7) rfl rfl rfl rfl (rc_X9 ad _) (Nat.le_of_ble_eq_true rfl) rfl dX9_regret_47 ?_
        refine r_aload_n hR dX9_regret_50 rfl 0 rfl ?_
        refine r_iload_n hR dX9_regret_51 rfl 1 rfl ?_
        refine r_iconst hR dX9_regret_52 kc_iconst_m1 ?_
        obtain ⟨r_53, q_53, hc, h⟩ := bd2_some h
        refine r_callVi hR (c9_bestOrder N hc) (cf_X9_294 (by decide)) ⟨m_6_12, ms_5_11⟩ (As := [.int x1, .int (-1 : Int32)]) (q0 := 0) (ci := 7) rfl rfl rfl rfl (rc_X9 ad _) (Nat.le_of_ble_eq_true rfl) rfl dX9_regret_53 ?_
        refine r_istore_n hR (i := 3) (lv' := [(3, .int r_53), (0, .ref (ad 0)), (1, .int x1), (2, .int x2)]) dX9_regret_56 rfl rfl (by decide) rfl ?_
        refine r_iconst hR dX9_regret_57 kc_iconst_0 ?_
        refine r_istore hR (i := 4) (lv' := [(4, .int (0 : Int32)), (3, .int r_53), (0, .ref (ad 0)), (1, .int x1), (2, .int x2)]) dX9_regret_58 rfl (by decide) rfl ?_
        exact r_sub hR [2, 3, 4, 1, 0] rfl (t9_regret_l60 hR N hP N _ _ _ _ _ h)
      · replace h := it_t c_27 h
        refine r_bipush hR dX9_regret_30 kc_bipush_m103 ?_
        exact r_iret hR dX9_regret_32 rfl (rt2 hP h)
    · replace h := it_t c_15 h
      refine r_bipush hR dX9_regret_18 kc_bipush_m102 ?_
      exact r_iret hR dX9_regret_20 rfl (rt2 hP h)
theorem c9_regret (N : Nat) {x1 : Int32} {x2 : Int32} {q : SS} {r : Int32} {q2 : SS} (h : f9_regret N x1 x2 q = some (r, q2)) : Ct wM 11 yX9_regret cX9_regret 5 (some .int) (fun ad => [.ref (ad 0), .int x1, .int x2]) q (fun _ => some (.int r)) q2 :=
  ct_of (by decide) (fun _ => Nat.le_of_ble_eq_true rfl) (fun ad J hR => t9_regret hR N ⟨rfl, rfl⟩ x1 x2 q h)
theorem t9_holder_b64 (hR : Rl wM 2 RX9 cX9_holder 5 (some .int) ad J P) (N : Nat) (q : SS) {r : Int32} (hP : P (some (.int r)) q) (bk22 : Int32 → Int32 → Int32 → Int32 → Option Int32) (hbk22 : ∀ (x1 : Int32) (x2 : Int32) (x3 : Int32) (x4 : Int32), bk22 x1 x2 x3 x4 = some r → J [(0, .ref (ad 0)), (1, .int x1), (2, .int x2), (3, .int x3), (4, .int x4)] [] q 22) (x1 : Int32) (x2 : Int32) (x3 : Int32) (x4 : Int32) (h : f9_holder_b64 N q bk22 x1 x2 x3 x4 = some r) : J [(0, .ref (ad 0)), (1, .int x1), (2, .int x2), (3, .int x3), (4, .int x4)] [] q 64 := by
  unfold f9_holder_b64 at h
  obtain ⟨x4_64, hx, h⟩ := bn_some h
  refine r_iinc hR (i := 4) (lv' := [(4, .int x4_64), (0, .ref (ad 0)), (1, .int x1), (2, .int x2), (3, .int x3)]) dX9_holder_64 4 rfl (inc_ok hx kc_iconst_1) (by decide) rfl ?_
  refine r_goto hR (tgt := 22) dX9_holder_67 (by decide) ?_
  exact r_sub hR [1, 2, 3, 4, 0] rfl (hbk22 _ _ _ _ h)
theorem t9_holder_l22_B (hR : Rl wM 2 RX9 cX9_holder 5 (some .int) ad J P) (N : Nat) (q : SS) {r : Int32} (hP : P (some (.int r)) q) (bk22 : Int32 → Int32 → Int32 → Int32 → Option Int32) (hbk22 : ∀ (x1 : Int32) (x2 : Int32) (x3 : Int32) (x4 : Int32), bk22 x1 x2 x3 x4 = some r → J [(0, .ref (ad 0)), (1, .int x1), (2, .int x2), (3, .int x3), (4, .int x4)] [] q 22) (x1 : Int32) (x2 : Int32) (x3 : Int32) (x4 : Int32) (h : f9_holder_l22_B N q bk22 x1 x2 x3 x4 = some r) : J [(0, .ref (ad 0)), (1, .int x1), (2, .int x2), (3, .int x3), (4, .int x4)] [] q 22 := by
  unfold f9_holder_l22_B at h
  refine r_iload hR dX9_holder_22 4 rfl ?_
  refine r_aload_n hR dX9_holder_24 rfl 0 rfl ?_
  refine g_X9_tables hR m_4_119 dX9_holder_25 ?_
  refine r_icmp_ge hR (tgt := 70) dX9_holder_28 (by decide) (fun c_28 => ?_) (fun c_28 => ?_)
  · replace h := it_t c_28 h
    refine r_iconst hR dX9_holder_70 kc_iconst_m1 ?_
    exact r_iret hR dX9_holder_71 rfl (rt1 hP h)
  · replace h := it_f c_28 h
    refine r_iload hR dX9_holder_31 4 rfl ?_
    refine r_iload_n hR dX9_holder_33 rfl 2 rfl ?_
    refine r_icmp_eq hR (tgt := 64) dX9_holder_34 (by decide) (fun c_34 => ?_) (fun c_34 => ?_)
    · replace h := it_t c_34 h
      exact r_sub hR [0, 1, 2, 3, 4] rfl (t9_holder_b64 hR N q hP bk22 hbk22 _ _ _ _ h)
    · replace h := it_f c_34 h
      refine r_iload_n hR dX9_holder_37 rfl 1 rfl ?_
      refine r_iload hR dX9_holder_38 4 rfl ?_
      refine r_ishr hR dX9_holder_40 ?_
      refine r_iconst hR dX9_holder_41 kc_iconst_1 ?_
      refine r_iand hR dX9_holder_42 ?_
      refine r_iconst hR dX9_holder_43 kc_iconst_1 ?_
      refine r_icmp_ne hR (tgt := 64) dX9_holder_44 (by decide) (fun c_44 => ?_) (fun c_44 => ?_)
      · replace h := it_f c_44 h
        exact r_sub hR [0, 1, 2, 3, 4] rfl (t9_holder_b64 hR N q hP bk22 hbk22 _ _ _ _ h)
      · replace h := it_t c_44 h
        refine r_iload_n hR dX9_holder_47 rfl 3 rfl ?_
        refine r_aload_n hR dX9_holder_48 rfl 0 rfl ?_
        refine g_X9_lettersOf hR m_4_120 dX9_holder_49 ?_
        refine r_iload hR dX9_holder_52 4 rfl ?_
        obtain ⟨hin, h⟩ := ck_some h
        refine ld_X9_lettersOf hR dX9_holder_54 hin ?_
        refine r_iconst hR dX9_holder_55 kc_iconst_m1 ?_
        refine r_ixor hR dX9_holder_56 ?_
        refine r_iand hR dX9_holder_57 ?_
        refine r_if_ne hR (tgt := 64) dX9_holder_58 (by decide) (fun c_58 => ?_) (fun c_58 => ?_)
        · replace h := it_f c_58 h
          exact r_sub hR [0, 1, 2, 3, 4] rfl (t9_holder_b64 hR N q hP bk22 hbk22 _ _ _ _ h)
        · replace h := it_t c_58 h
          refine r_iload hR dX9_holder_61 4 rfl ?_
          exact r_iret hR dX9_holder_63 rfl (rt1 hP h)
theorem t9_holder_l22 (hR : Rl wM 2 RX9 cX9_holder 5 (some .int) ad J P) (N : Nat) (q : SS) {r : Int32} (hP : P (some (.int r)) q) : ∀ (n : Nat) (x1 : Int32) (x2 : Int32) (x3 : Int32) (x4 : Int32), f9_holder_l22 N q n x1 x2 x3 x4 = some r → J [(0, .ref (ad 0)), (1, .int x1), (2, .int x2), (3, .int x3), (4, .int x4)] [] q 22 := by
  intro n
  induction n with
  | zero => intro x1 x2 x3 x4 h; exact mu_noneF h
  | succ n ih => intro x1 x2 x3 x4 h; exact t9_holder_l22_B hR N q hP _ ih x1 x2 x3 x4 h
theorem t9_holder (hR : Rl wM 2 RX9 cX9_holder 5 (some .int) ad J P) (N : Nat) (q : SS) {r : Int32} (hP : P (some (.int r)) q) (x1 : Int32) (x2 : Int32) (h : f9_holder N q x1 x2 = some r) : J [(0, .ref (ad 0)), (1, .int x1), (2, .int x2)] [] q 0 := by
  unfold f9_holder at h
  refine r_aload_n hR dX9_holder_0 rfl 0 rfl ?_
  refine r_iload_n hR dX9_holder_1 rfl 1 rfl ?_
  refine r_iconst hR dX9_holder_2 kc_iconst_1 ?_
  refine r_iload_n hR dX9_holder_3 rfl 2 rfl ?_
  refine r_ishl hR dX9_holder_4 ?_
  refine r_iconst hR dX9_holder_5 kc_iconst_m1 ?_
  refine r_ixor hR dX9_holder_6 ?_
  refine r_iand hR dX9_holder_7 ?_
  obtain ⟨r_8, hc, h⟩ := bd_some h
  refine r_callVi hR (c9_lettersIn N hc) (cf_X9_230 (by decide)) ⟨m_5_208, ms_5_2⟩ (As := [.int (x1 &&& ((jshl (1 : Int32) x2) ^^^ (-1 : Int32)))]) (q0 := 0) (ci := 7) rfl rfl rfl rfl (rc_X9 ad _) (Nat.le_of_ble_eq_true rfl) rfl dX9_holder_8 ?_
  refine r_aload_n hR dX9_holder_11 rfl 0 rfl ?_
  refine g_X9_lettersOf hR m_4_120 dX9_holder_12 ?_
  refine r_iload_n hR dX9_holder_15 rfl 2 rfl ?_
  obtain ⟨hin, h⟩ := ck_some h
  refine ld_X9_lettersOf hR dX9_holder_16 hin ?_
  refine r_iand hR dX9_holder_17 ?_
  obtain ⟨x3_18, hx, h⟩ := bn_some h
  refine r_istore_n hR (i := 3) (lv' := [(3, .int x3_18), (0, .ref (ad 0)), (1, .int x1), (2, .int x2)]) dX9_holder_18 hx rfl (by decide) rfl ?_
  refine r_iconst hR dX9_holder_19 kc_iconst_0 ?_
  refine r_istore hR (i := 4) (lv' := [(4, .int (0 : Int32)), (3, .int x3_18), (0, .ref (ad 0)), (1, .int x1), (2, .int x2)]) dX9_holder_20 rfl (by decide) rfl ?_
  exact r_sub hR [2, 3, 4, 1, 0] rfl (t9_holder_l22 hR N q hP N _ _ _ _ h)
theorem c9_holder (N : Nat) {x1 : Int32} {x2 : Int32} {q : SS} {r : Int32} (h : f9_holder N q x1 x2 = some r) : Ct wM 2 yX9_holder cX9_holder 5 (some .int) (fun ad => [.ref (ad 0), .int x1, .int x2]) q (fun _ => some (.int r)) q :=
  ct_of (by decide) (fun _ => Nat.le_of_ble_eq_true rfl) (fun ad J hR => t9_holder hR N q ⟨rfl, rfl⟩ x1 x2 h)
theorem t9_takeAway_b154 (hR : Rl wM 3 RX9 cX9_takeAway 6 none ad J P) (N : Nat) {q2 : SS} (hP : P none q2) (bk30 : Int32 → Int32 → SS → Option SS) (hbk30 : ∀ (x2 : Int32) (x3 : Int32) (q : SS), bk30 x2 x3 q = some q2 → J [(0, .ref (ad 0)), (2, .int x2), (3, .int x3)] [] q 30) (x2 : Int32) (x3 : Int32) (q : SS) (h : f9_takeAway_b154 N bk30 x2 x3 q = some q2) : J [(0, .ref (ad 0)), (2, .int x2), (3, .int x3)] [] q 154 := by
  unfold f9_takeAway_b154 at h
  refine r_goto hR (tgt := 30) dX9_takeAway_154 (by decide) ?_
  exact r_sub hR [0, 1, 2] rfl (hbk30 _ _ _ h)
theorem t9_takeAway_b105 (hR : Rl wM 3 RX9 cX9_takeAway 6 none ad J P) (N : Nat) {q2 : SS} (hP : P none q2) (bk30 : Int32 → Int32 → SS → Option SS) (hbk30 : ∀ (x2 : Int32) (x3 : Int32) (q : SS), bk30 x2 x3 q = some q2 → J [(0, .ref (ad 0)), (2, .int x2), (3, .int x3)] [] q 30) (x2 : Int32) (x4 : Int32) (s0 : Int32) (q : SS) (h : f9_takeAway_b105 N bk30 x2 x4 s0 q = some q2) : J [(0, .ref (ad 0)), (2, .int x2), (4, .int x4)] [.int s0] q 105 := by
  unfold f9_takeAway_b105 at h
  refine r_istore_n hR (i := 3) (lv' := [(3, .int s0), (0, .ref (ad 0)), (2, .int x2), (4, .int x4)]) dX9_takeAway_105 rfl rfl (by decide) rfl ?_
  refine r_iload_n hR dX9_takeAway_106 rfl 0 rfl ?_
  refine r_if_eq hR (tgt := 154) dX9_takeAway_107 (by decide) (fun c_107 => ?_) (fun c_107 => ?_)
  · replace h := it_t c_107 h
    exact r_sub hR [1, 2, 0] rfl (t9_takeAway_b154 hR N hP bk30 hbk30 _ _ _ h)
  · replace h := it_f c_107 h
    refine r_aload_n hR dX9_takeAway_110 rfl 1 rfl ?_
    refine g_X9_hangsOn hR m_4_157 dX9_takeAway_111 ?_
    refine r_iload hR dX9_takeAway_114 3 rfl ?_
    refine r_aload_n hR dX9_takeAway_116 rfl 1 rfl ?_
    refine r_iload_n hR dX9_takeAway_117 rfl 2 rfl ?_
    refine r_iload hR dX9_takeAway_118 3 rfl ?_
    obtain ⟨r_120, hc, h⟩ := bd_some h
    refine r_callVi hR (c9_holder N hc) (cf_X9_300 (by decide)) ⟨m_6_36, ms_5_14⟩ (As := [.int x2, .int x4]) (q0 := 0) (ci := 7) rfl rfl rfl rfl (rc_X9 ad _) (Nat.le_of_ble_eq_true rfl) rfl dX9_takeAway_120 ?_
    obtain ⟨hin, h⟩ := ck_some h
    obtain ⟨q_123, hq, h⟩ := bn_some h
    refine sv_X9_hangsOn hR dX9_takeAway_123 hin hq ?_
    refine r_aload_n hR dX9_takeAway_124 rfl 1 rfl ?_
    refine g_X9_gone hR m_4_155 dX9_takeAway_125 ?_
    refine r_aload_n hR dX9_takeAway_128 rfl 1 rfl ?_
    refine g_X9_goneMany hR m_4_156 dX9_takeAway_129 ?_
    refine r_iload hR dX9_takeAway_132 3 rfl ?_
    obtain ⟨hin, h⟩ := ck_some h
    obtain ⟨q_134, hq, h⟩ := bn_some h
    refine sv_X9_gone hR dX9_takeAway_134 hin hq ?_
    refine r_aload_n hR dX9_takeAway_135 rfl 1 rfl ?_
    refine r_dup hR dX9_takeAway_136 rfl ?_
    refine g_X9_goneMany hR m_4_156 dX9_takeAway_137 ?_
    refine r_iconst hR dX9_takeAway_140 kc_iconst_1 ?_
    refine r_iadd hR dX9_takeAway_141 ?_
    obtain ⟨q_142, hq, h⟩ := bn_some h
    refine p_X9_goneMany hR m_4_156 dX9_takeAway_142 hq ?_
    refine r_iload_n hR dX9_takeAway_145 rfl 2 rfl ?_
    refine r_iconst hR dX9_takeAway_146 kc_iconst_1 ?_
    refine r_iload hR dX9_takeAway_147 3 rfl ?_
    refine r_ishl hR dX9_takeAway_149 ?_
    refine r_iconst hR dX9_takeAway_150 kc_iconst_m1 ?_
    refine r_ixor hR dX9_takeAway_151 ?_
    refine r_iand hR dX9_takeAway_152 ?_
    obtain ⟨x2_153, hx, h⟩ := bn_some h
    refine r_istore_n hR (i := 2) (lv' := [(2, .int x2_153), (3, .int s0), (0, .ref (ad 0)), (4, .int x4)]) dX9_takeAway_153 hx rfl (by decide) rfl ?_
    exact r_sub hR [2, 0, 1] rfl (t9_takeAway_b154 hR N hP bk30 hbk30 _ _ _ h)
theorem t9_takeAway_b86 (hR : Rl wM 3 RX9 cX9_takeAway 6 none ad J P) (N : Nat) {q2 : SS} (hP : P none q2) (bk30 : Int32 → Int32 → SS → Option SS) (hbk30 : ∀ (x2 : Int32) (x3 : Int32) (q : SS), bk30 x2 x3 q = some q2 → J [(0, .ref (ad 0)), (2, .int x2), (3, .int x3)] [] q 30) (bk45 : Int32 → Int32 → Int32 → SS → Option SS) (hbk45 : ∀ (x2 : Int32) (x4 : Int32) (x5 : Int32) (q : SS), bk45 x2 x4 x5 q = some q2 → J [(0, .ref (ad 0)), (2, .int x2), (4, .int x4), (5, .int x5)] [] q 45) (x2 : Int32) (x5 : Int32) (s0 : Int32) (q : SS) (h : f9_takeAway_b86 N bk30 bk45 x2 x5 s0 q = some q2) : J [(0, .ref (ad 0)), (2, .int x2), (5, .int x5)] [.int s0] q 86 := by
  unfold f9_takeAway_b86 at h
  refine r_istore hR (i := 4) (lv' := [(4, .int s0), (0, .ref (ad 0)), (2, .int x2), (5, .int x5)]) dX9_takeAway_86 rfl (by decide) rfl ?_
  obtain ⟨x5_88, hx, h⟩ := bn_some h
  refine r_iinc hR (i := 5) (lv' := [(5, .int x5_88), (4, .int s0), (0, .ref (ad 0)), (2, .int x2)]) dX9_takeAway_88 3 rfl (inc_ok hx kc_iconst_m1) (by decide) rfl ?_
  refine r_goto hR (tgt := 45) dX9_takeAway_91 (by decide) ?_
  exact r_sub hR [2, 3, 1, 0] rfl (hbk45 _ _ _ _ h)
theorem t9_takeAway_b84 (hR : Rl wM 3 RX9 cX9_takeAway 6 none ad J P) (N : Nat) {q2 : SS} (hP : P none q2) (bk30 : Int32 → Int32 → SS → Option SS) (hbk30 : ∀ (x2 : Int32) (x3 : Int32) (q : SS), bk30 x2 x3 q = some q2 → J [(0, .ref (ad 0)), (2, .int x2), (3, .int x3)] [] q 30) (bk45 : Int32 → Int32 → Int32 → SS → Option SS) (hbk45 : ∀ (x2 : Int32) (x4 : Int32) (x5 : Int32) (q : SS), bk45 x2 x4 x5 q = some q2 → J [(0, .ref (ad 0)), (2, .int x2), (4, .int x4), (5, .int x5)] [] q 45) (x2 : Int32) (x4 : Int32) (x5 : Int32) (q : SS) (h : f9_takeAway_b84 N bk30 bk45 x2 x4 x5 q = some q2) : J [(0, .ref (ad 0)), (2, .int x2), (4, .int x4), (5, .int x5)] [] q 84 := by
  unfold f9_takeAway_b84 at h
  refine r_iload hR dX9_takeAway_84 2 rfl ?_
  exact r_sub hR [0, 1, 3] rfl (t9_takeAway_b86 hR N hP bk30 hbk30 bk45 hbk45 _ _ _ _ h)
theorem t9_takeAway_b79 (hR : Rl wM 3 RX9 cX9_takeAway 6 none ad J P) (N : Nat) {q2 : SS} (hP : P none q2) (bk30 : Int32 → Int32 → SS → Option SS) (hbk30 : ∀ (x2 : Int32) (x3 : Int32) (q : SS), bk30 x2 x3 q = some q2 → J [(0, .ref (ad 0)), (2, .int x2), (3, .int x3)] [] q 30) (bk45 : Int32 → Int32 → Int32 → SS → Option SS) (hbk45 : ∀ (x2 : Int32) (x4 : Int32) (x5 : Int32) (q : SS), bk45 x2 x4 x5 q = some q2 → J [(0, .ref (ad 0)), (2, .int x2), (4, .int x4), (5, .int x5)] [] q 45) (x2 : Int32) (x5 : Int32) (q : SS) (h : f9_takeAway_b79 N bk30 bk45 x2 x5 q = some q2) : J [(0, .ref (ad 0)), (2, .int x2), (5, .int x5)] [] q 79 := by
  unfold f9_takeAway_b79 at h
  refine r_iload hR dX9_takeAway_79 2 rfl ?_
  refine r_goto hR (tgt := 86) dX9_takeAway_81 (by decide) ?_
  exact r_sub hR [0, 1, 2] rfl (t9_takeAway_b86 hR N hP bk30 hbk30 bk45 hbk45 _ _ _ _ h)
theorem t9_takeAway_l45_B (hR : Rl wM 3 RX9 cX9_takeAway 6 none ad J P) (N : Nat) {q2 : SS} (hP : P none q2) (bk30 : Int32 → Int32 → SS → Option SS) (hbk30 : ∀ (x2 : Int32) (x3 : Int32) (q : SS), bk30 x2 x3 q = some q2 → J [(0, .ref (ad 0)), (2, .int x2), (3, .int x3)] [] q 30) (bk45 : Int32 → Int32 → Int32 → SS → Option SS) (hbk45 : ∀ (x2 : Int32) (x4 : Int32) (x5 : Int32) (q : SS), bk45 x2 x4 x5 q = some q2 → J [(0, .ref (ad 0)), (2, .int x2), (4, .int x4), (5, .int x5)] [] q 45) (x2 : Int32) (x4 : Int32) (x5 : Int32) (q : SS) (h : f9_takeAway_l45_B N bk30 bk45 x2 x4 x5 q = some q2) : J [(0, .ref (ad 0)), (2, .int x2), (4, .int x4), (5, .int x5)] [] q 45 := by
  unfold f9_takeAway_l45_B at h
  refine r_iload hR dX9_takeAway_45 3 rfl ?_
  refine r_if_lt hR (tgt := 94) dX9_takeAway_47 (by decide) (fun c_47 => ?_) (fun c_47 => ?_)
  · replace h := it_t c_47 h
    refine r_iload hR dX9_takeAway_94 2 rfl ?_
    refine r_iconst hR dX9_takeAway_96 kc_iconst_m1 ?_
    refine r_icmp_eq hR (tgt := 104) dX9_takeAway_97 (by decide) (fun c_97 => ?_) (fun c_97 => ?_)
    · replace h := it_t c_97 h
      refine r_iconst hR dX9_takeAway_104 kc_iconst_0 ?_
      exact r_sub hR [0, 1, 2] rfl (t9_takeAway_b105 hR N hP bk30 hbk30 _ _ _ _ h)
    · replace h := it_f c_97 h
      refine r_iconst hR dX9_takeAway_100 kc_iconst_1 ?_
      refine r_goto hR (tgt := 105) dX9_takeAway_101 (by decide) ?_
      exact r_sub hR [0, 1, 2] rfl (t9_takeAway_b105 hR N hP bk30 hbk30 _ _ _ _ h)
  · replace h := it_f c_47 h
    refine r_iload_n hR dX9_takeAway_50 rfl 1 rfl ?_
    refine r_iload hR dX9_takeAway_51 3 rfl ?_
    refine r_ishr hR dX9_takeAway_53 ?_
    refine r_iconst hR dX9_takeAway_54 kc_iconst_1 ?_
    refine r_iand hR dX9_takeAway_55 ?_
    refine r_iconst hR dX9_takeAway_56 kc_iconst_1 ?_
    refine r_icmp_ne hR (tgt := 84) dX9_takeAway_57 (by decide) (fun c_57 => ?_) (fun c_57 => ?_)
    · replace h := it_f c_57 h
      exact r_sub hR [0, 1, 2, 3] rfl (t9_takeAway_b84 hR N hP bk30 hbk30 bk45 hbk45 _ _ _ _ h)
    · replace h := it_t c_57 h
      refine r_iload_n hR dX9_takeAway_60 rfl 1 rfl ?_
      refine r_iconst hR dX9_takeAway_61 kc_iconst_1 ?_
      refine r_iload hR dX9_takeAway_62 3 rfl ?_
      refine r_ishl hR dX9_takeAway_64 ?_
      refine r_icmp_eq hR (tgt := 79) dX9_takeAway_65 (by decide) (fun c_65 => ?_) (fun c_65 => ?_)
      · replace h := it_t c_65 h
        exact r_sub hR [0, 1, 3] rfl (t9_takeAway_b79 hR N hP bk30 hbk30 bk45 hbk45 _ _ _ h)
      · replace h := it_f c_65 h
        refine r_aload_n hR dX9_takeAway_68 rfl 0 rfl ?_
        refine r_iload_n hR dX9_takeAway_69 rfl 1 rfl ?_
        refine r_iload hR dX9_takeAway_70 3 rfl ?_
        obtain ⟨r_72, hc, h⟩ := bd_some h
        refine r_callVi hR (c9_holder N hc) (cf_X9_300 (by decide)) ⟨m_6_36, ms_5_14⟩ (As := [.int x2, .int x5]) (q0 := 0) (ci := 7) rfl rfl rfl rfl (rc_X9 ad _) (Nat.le_of_ble_eq_true rfl) rfl dX9_takeAway_72 ?_
        refine r_iconst hR dX9_takeAway_75 kc_iconst_m1 ?_
        refine r_icmp_eq hR (tgt := 84) dX9_takeAway_76 (by decide) (fun c_76 => ?_) (fun c_76 => ?_)
        · replace h := it_t c_76 h
          exact r_sub hR [0, 1, 2, 3] rfl (t9_takeAway_b84 hR N hP bk30 hbk30 bk45 hbk45 _ _ _ _ h)
        · replace h := it_f c_76 h
          exact r_sub hR [0, 1, 3] rfl (t9_takeAway_b79 hR N hP bk30 hbk30 bk45 hbk45 _ _ _ h)
theorem t9_takeAway_l45 (hR : Rl wM 3 RX9 cX9_takeAway 6 none ad J P) (N : Nat) {q2 : SS} (hP : P none q2) (bk30 : Int32 → Int32 → SS → Option SS) (hbk30 : ∀ (x2 : Int32) (x3 : Int32) (q : SS), bk30 x2 x3 q = some q2 → J [(0, .ref (ad 0)), (2, .int x2), (3, .int x3)] [] q 30) : ∀ (n : Nat) (x2 : Int32) (x4 : Int32) (x5 : Int32) (q : SS), f9_takeAway_l45 N bk30 n x2 x4 x5 q = some q2 → J [(0, .ref (ad 0)), (2, .int x2), (4, .int x4), (5, .int x5)] [] q 45 := by
  intro n
  induction n with
  | zero => intro x2 x4 x5 q h; exact mu_noneF h
  | succ n ih => intro x2 x4 x5 q h; exact t9_takeAway_l45_B hR N hP bk30 hbk30 _ ih x2 x4 x5 q h
theorem t9_takeAway_l30_B (hR : Rl wM 3 RX9 cX9_takeAway 6 none ad J P) (N : Nat) {q2 : SS} (hP : P none q2) (bk30 : Int32 → Int32 → SS → Option SS) (hbk30 : ∀ (x2 : Int32) (x3 : Int32) (q : SS), bk30 x2 x3 q = some q2 → J [(0, .ref (ad 0)), (2, .int x2), (3, .int x3)] [] q 30) (x2 : Int32) (x3 : Int32) (q : SS) (h : f9_takeAway_l30_B N bk30 x2 x3 q = some q2) : J [(0, .ref (ad 0)), (2, .int x2), (3, .int x3)] [] q 30 := by
  unfold f9_takeAway_l30_B at h
  refine r_iload_n hR dX9_takeAway_30 rfl 2 rfl ?_
  refine r_if_eq hR (tgt := 157) dX9_takeAway_31 (by decide) (fun c_31 => ?_) (fun c_31 => ?_)
  · replace h := it_t c_31 h
    exact r_vret hR dX9_takeAway_157 rfl (rtv hP h)
  · replace h := it_f c_31 h
    refine r_iconst hR dX9_takeAway_34 kc_iconst_m1 ?_
    refine r_istore hR (i := 4) (lv' := [(4, .int (-1 : Int32)), (0, .ref (ad 0)), (2, .int x2), (3, .int x3)]) dX9_takeAway_35 rfl (by decide) rfl ?_
    refine r_aload_n hR dX9_takeAway_37 rfl 1 rfl ?_
    refine g_X9_tables hR m_4_119 dX9_takeAway_38 ?_
    refine r_iconst hR dX9_takeAway_41 kc_iconst_1 ?_
    refine r_isub hR dX9_takeAway_42 ?_
    obtain ⟨x5_43, hx, h⟩ := bn_some h
    refine r_istore hR (i := 5) (lv' := [(5, .int x5_43), (4, .int (-1 : Int32)), (0, .ref (ad 0)), (2, .int x2), (3, .int x3)]) dX9_takeAway_43 hx (by decide) rfl ?_
    exact r_sub hR [2, 3, 1, 0] rfl (t9_takeAway_l45 hR N hP bk30 hbk30 N _ _ _ _ h)
theorem t9_takeAway_l30 (hR : Rl wM 3 RX9 cX9_takeAway 6 none ad J P) (N : Nat) {q2 : SS} (hP : P none q2) : ∀ (n : Nat) (x2 : Int32) (x3 : Int32) (q : SS), f9_takeAway_l30 N n x2 x3 q = some q2 → J [(0, .ref (ad 0)), (2, .int x2), (3, .int x3)] [] q 30 := by
  intro n
  induction n with
  | zero => intro x2 x3 q h; exact mu_noneF h
  | succ n ih => intro x2 x3 q h; exact t9_takeAway_l30_B hR N hP _ ih x2 x3 q h
theorem t9_takeAway_l9_B (hR : Rl wM 3 RX9 cX9_takeAway 6 none ad J P) (N : Nat) {q2 : SS} (hP : P none q2) (bk9 : Int32 → Int32 → SS → Option SS) (hbk9 : ∀ (x2 : Int32) (x3 : Int32) (q : SS), bk9 x2 x3 q = some q2 → J [(0, .ref (ad 0)), (2, .int x2), (3, .int x3)] [] q 9) (x2 : Int32) (x3 : Int32) (q : SS) (h : f9_takeAway_l9_B N bk9 x2 x3 q = some q2) : J [(0, .ref (ad 0)), (2, .int x2), (3, .int x3)] [] q 9 := by
  unfold f9_takeAway_l9_B at h
  refine r_iload_n hR dX9_takeAway_9 rfl 2 rfl ?_
  refine r_bipush hR dX9_takeAway_10 kc_bipush_6 ?_
  refine r_icmp_ge hR (tgt := 28) dX9_takeAway_12 (by decide) (fun c_12 => ?_) (fun c_12 => ?_)
  · replace h := it_t c_12 h
    refine r_iconst hR dX9_takeAway_28 kc_iconst_1 ?_
    refine r_istore_n hR (i := 3) (lv' := [(3, .int (1 : Int32)), (0, .ref (ad 0)), (2, .int x2)]) dX9_takeAway_29 rfl rfl (by decide) rfl ?_
    exact r_sub hR [1, 2, 0] rfl (t9_takeAway_l30 hR N hP N _ _ _ h)
  · replace h := it_f c_12 h
    refine r_aload_n hR dX9_takeAway_15 rfl 0 rfl ?_
    refine g_X9_hangsOn hR m_4_157 dX9_takeAway_16 ?_
    refine r_iload_n hR dX9_takeAway_19 rfl 2 rfl ?_
    refine r_iconst hR dX9_takeAway_20 kc_iconst_m1 ?_
    obtain ⟨hin, h⟩ := ck_some h
    obtain ⟨q_21, hq, h⟩ := bn_some h
    refine sv_X9_hangsOn hR dX9_takeAway_21 hin hq ?_
    obtain ⟨x3_22, hx, h⟩ := bn_some h
    refine r_iinc hR (i := 3) (lv' := [(3, .int x3_22), (0, .ref (ad 0)), (2, .int x2)]) dX9_takeAway_22 2 rfl (inc_ok hx kc_iconst_1) (by decide) rfl ?_
    refine r_goto hR (tgt := 9) dX9_takeAway_25 (by decide) ?_
    exact r_sub hR [1, 2, 0] rfl (hbk9 _ _ _ h)
theorem t9_takeAway_l9 (hR : Rl wM 3 RX9 cX9_takeAway 6 none ad J P) (N : Nat) {q2 : SS} (hP : P none q2) : ∀ (n : Nat) (x2 : Int32) (x3 : Int32) (q : SS), f9_takeAway_l9 N n x2 x3 q = some q2 → J [(0, .ref (ad 0)), (2, .int x2), (3, .int x3)] [] q 9 := by
  intro n
  induction n with
  | zero => intro x2 x3 q h; exact mu_noneF h
  | succ n ih => intro x2 x3 q h; exact t9_takeAway_l9_B hR N hP _ ih x2 x3 q h
theorem t9_takeAway (hR : Rl wM 3 RX9 cX9_takeAway 6 none ad J P) (N : Nat) {q2 : SS} (hP : P none q2) (x1 : Int32) (q : SS) (h : f9_takeAway N x1 q = some q2) : J [(0, .ref (ad 0)), (1, .int x1)] [] q 0 := by
  unfold f9_takeAway at h
  refine r_iload_n hR dX9_takeAway_0 rfl 1 rfl ?_
  refine r_istore_n hR (i := 2) (lv' := [(2, .int x1), (0, .ref (ad 0)), (1, .int x1)]) dX9_takeAway_1 rfl rfl (by decide) rfl ?_
  refine r_aload_n hR dX9_takeAway_2 rfl 1 rfl ?_
  refine r_iconst hR dX9_takeAway_3 kc_iconst_0 ?_
  obtain ⟨q_4, hq, h⟩ := bn_some h
  refine p_X9_goneMany hR m_4_156 dX9_takeAway_4 hq ?_
  refine r_iconst hR dX9_takeAway_7 kc_iconst_0 ?_
  refine r_istore_n hR (i := 3) (lv' := [(3, .int (0 : Int32)), (2, .int x1), (0, .ref (ad 0)), (1, .int x1)]) dX9_takeAway_8 rfl rfl (by decide) rfl ?_
  exact r_sub hR [2, 1, 0] rfl (t9_takeAway_l9 hR N hP N _ _ _ h)
theorem c9_takeAway (N : Nat) {x1 : Int32} {q : SS} {q2 : SS} (h : f9_takeAway N x1 q = some q2) : Ct wM 3 yX9_takeAway cX9_takeAway 6 none (fun ad => [.ref (ad 0), .int x1]) q (fun _ => none) q2 :=
  ct_of (by decide) (fun _ => Nat.le_of_ble_eq_true rfl) (fun ad J hR => t9_takeAway hR N ⟨rfl, rfl⟩ x1 q h)
theorem t9_doesHang (hR : Rl wM 4 RX9 cX9_doesHang 2 (some .boolean) ad J P) (N : Nat) {r : Int32} {q2 : SS} (hP : P (some (.int r)) q2) (x1 : Int32) (q : SS) (h : f9_doesHang N x1 q = some (r, q2)) : J [(0, .ref (ad 0)), (1, .int x1)] [] q 0 := by
  unfold f9_doesHang at h
  refine r_aload_n hR dX9_doesHang_0 rfl 0 rfl ?_
  refine r_iload_n hR dX9_doesHang_1 rfl 1 rfl ?_
  obtain ⟨q_2, hc, h⟩ := bd_some h
  refine r_callVv hR (c9_takeAway N hc) (cf_X9_303 (by decide)) ⟨m_6_32, ms_5_13⟩ (As := [.int x1]) (q0 := 0) (ci := 7) rfl rfl rfl rfl (rc_X9 ad _) (Nat.le_of_ble_eq_true rfl) rfl dX9_doesHang_2 ?_
  refine r_aload_n hR dX9_doesHang_5 rfl 0 rfl ?_
  refine g_X9_goneMany hR m_4_156 dX9_doesHang_6 ?_
  refine r_iload_n hR dX9_doesHang_9 rfl 1 rfl ?_
  obtain ⟨r_10, hc, h⟩ := bd_some h
  refine r_callSi hR (c9_bitsOf N hc) (cf_X9_98 (by decide)) m_5_9 (As := [.int x1]) rfl rfl (Nat.le_of_ble_eq_true rfl) rfl dX9_doesHang_10 ?_
  refine r_icmp_ne hR (tgt := 20) dX9_doesHang_13 (by decide) (fun c_13 => ?_) (fun c_13 => ?_)
  · replace h := it_f c_13 h
    refine r_iconst hR dX9_doesHang_20 kc_iconst_0 ?_
    exact r_zret hR dX9_doesHang_21 rfl (Or.inl rfl) (rt2 hP h)
  · replace h := it_t c_13 h
    refine r_iconst hR dX9_doesHang_16 kc_iconst_1 ?_
    refine r_goto hR (tgt := 21) dX9_doesHang_17 (by decide) ?_
    exact r_zret hR dX9_doesHang_21 rfl (Or.inr rfl) (rt2 hP h)
theorem c9_doesHang (N : Nat) {x1 : Int32} {q : SS} {r : Int32} {q2 : SS} (h : f9_doesHang N x1 q = some (r, q2)) : Ct wM 4 yX9_doesHang cX9_doesHang 2 (some .boolean) (fun ad => [.ref (ad 0), .int x1]) q (fun _ => some (.int r)) q2 :=
  ct_of (by decide) (fun _ => Nat.le_of_ble_eq_true rfl) (fun ad J hR => t9_doesHang hR N ⟨rfl, rfl⟩ x1 q h)
theorem t9_hangs (hR : Rl wM 5 RX9 cX9_hangs 2 (some .int) ad J P) (N : Nat) {r : Int32} {q2 : SS} (hP : P (some (.int r)) q2) (x1 : Int32) (q : SS) (h : f9_hangs N x1 q = some (r, q2)) : J [(0, .ref (ad 0)), (1, .int x1)] [] q 0 := by
  unfold f9_hangs at h
  refine r_aload_n hR dX9_hangs_0 rfl 0 rfl ?_
  refine r_iload_n hR dX9_hangs_1 rfl 1 rfl ?_
  obtain ⟨r_2, hc, h⟩ := bd_some h
  refine r_callVi hR (c9_isSet hc) (cf_X9_186 (by decide)) ⟨m_5_94, ms_3_14⟩ (As := [.int x1]) (q0 := 0) (ci := 7) rfl rfl rfl rfl (rc_X9 ad _) (Nat.le_of_ble_eq_true rfl) rfl dX9_hangs_2 ?_
  refine r_if_ne hR (tgt := 11) dX9_hangs_5 (by decide) (fun c_5 => ?_) (fun c_5 => ?_)
  · replace h := it_f c_5 h
    refine r_aload_n hR dX9_hangs_11 rfl 0 rfl ?_
    refine r_iload_n hR dX9_hangs_12 rfl 1 rfl ?_
    obtain ⟨r_13, q_13, hc, h⟩ := bd2_some h
    refine r_callVi hR (c9_doesHang N hc) (cf_X9_306 (by decide)) ⟨m_6_28, ms_5_12⟩ (As := [.int x1]) (q0 := 0) (ci := 7) rfl rfl rfl rfl (rc_X9 ad _) (Nat.le_of_ble_eq_true rfl) rfl dX9_hangs_13 ?_
    refine r_if_eq hR (tgt := 23) dX9_hangs_16 (by decide) (fun c_16 => ?_) (fun c_16 => ?_)
    · replace h := it_t c_16 h
      refine r_iconst hR dX9_hangs_23 kc_iconst_0 ?_
      exact r_iret hR dX9_hangs_24 rfl (rt2 hP h)
    · replace h := it_f c_16 h
      refine r_iconst hR dX9_hangs_19 kc_iconst_1 ?_
      refine r_goto hR (tgt := 24) dX9_hangs_20 (by decide) ?_
      exact r_iret hR dX9_hangs_24 rfl (rt2 hP h)
  · replace h := it_t c_5 h
    refine r_bipush hR dX9_hangs_8 kc_bipush_m102 ?_
    exact r_iret hR dX9_hangs_10 rfl (rt2 hP h)
theorem c9_hangs (N : Nat) {x1 : Int32} {q : SS} {r : Int32} {q2 : SS} (h : f9_hangs N x1 q = some (r, q2)) : Ct wM 5 yX9_hangs cX9_hangs 2 (some .int) (fun ad => [.ref (ad 0), .int x1]) q (fun _ => some (.int r)) q2 :=
  ct_of (by decide) (fun _ => Nat.le_of_ble_eq_true rfl) (fun ad J hR => t9_hangs hR N ⟨rfl, rfl⟩ x1 q h)
theorem t9_goes (hR : Rl wM 4 RX9 cX9_goes 3 (some .int) ad J P) (N : Nat) {r : Int32} {q2 : SS} (hP : P (some (.int r)) q2) (x1 : Int32) (x2 : Int32) (q : SS) (h : f9_goes N x1 x2 q = some (r, q2)) : J [(0, .ref (ad 0)), (1, .int x1), (2, .int x2)] [] q 0 := by
  unfold f9_goes at h
  refine r_aload_n hR dX9_goes_0 rfl 0 rfl ?_
  refine r_iload_n hR dX9_goes_1 rfl 1 rfl ?_
  obtain ⟨r_2, hc, h⟩ := bd_some h
  refine r_callVi hR (c9_isSet hc) (cf_X9_186 (by decide)) ⟨m_5_94, ms_3_14⟩ (As := [.int x1]) (q0 := 0) (ci := 7) rfl rfl rfl rfl (rc_X9 ad _) (Nat.le_of_ble_eq_true rfl) rfl dX9_goes_2 ?_
  refine r_if_ne hR (tgt := 11) dX9_goes_5 (by decide) (fun c_5 => ?_) (fun c_5 => ?_)
  · replace h := it_f c_5 h
    refine r_aload_n hR dX9_goes_11 rfl 0 rfl ?_
    refine r_iload_n hR dX9_goes_12 rfl 1 rfl ?_
    obtain ⟨q_13, hc, h⟩ := bd_some h
    refine r_callVv hR (c9_takeAway N hc) (cf_X9_303 (by decide)) ⟨m_6_32, ms_5_13⟩ (As := [.int x1]) (q0 := 0) (ci := 7) rfl rfl rfl rfl (rc_X9 ad _) (Nat.le_of_ble_eq_true rfl) rfl dX9_goes_13 ?_
    refine r_iload_n hR dX9_goes_16 rfl 2 rfl ?_
    refine r_i2l hR dX9_goes_17 ?_
    refine r_lconst hR dX9_goes_18 kc_lconst_0 ?_
    refine r_aload_n hR dX9_goes_19 rfl 0 rfl ?_
    refine g_X9_goneMany hR m_4_156 dX9_goes_20 ?_
    refine r_iconst hR dX9_goes_23 kc_iconst_1 ?_
    refine r_isub hR dX9_goes_24 ?_
    refine r_i2l hR dX9_goes_25 ?_
    obtain ⟨r_26, hc, h⟩ := bd_some h
    refine r_callSi hR (c9_in hc) (cf_X9_92 (by decide)) m_5_6 (As := [.long (Int32.toInt64 x2), .long (0 : Int64), .long (Int32.toInt64 ((fi q_13 15) - (1 : Int32)))]) rfl rfl (Nat.le_of_ble_eq_true rfl) rfl dX9_goes_26 ?_
    refine r_if_eq hR (tgt := 41) dX9_goes_29 (by decide) (fun c_29 => ?_) (fun c_29 => ?_)
    · replace h := it_t c_29 h
      refine r_iconst hR dX9_goes_41 kc_iconst_m1 ?_
      exact r_iret hR dX9_goes_42 rfl (rt2 hP h)
    · replace h := it_f c_29 h
      refine r_aload_n hR dX9_goes_32 rfl 0 rfl ?_
      refine g_X9_gone hR m_4_155 dX9_goes_33 ?_
      refine r_iload_n hR dX9_goes_36 rfl 2 rfl ?_
      obtain ⟨hin, h⟩ := ck_some h
      refine ld_X9_gone hR dX9_goes_37 hin ?_
      refine r_goto hR (tgt := 42) dX9_goes_38 (by decide) ?_
      exact r_iret hR dX9_goes_42 rfl (rt2 hP h)
  · replace h := it_t c_5 h
    refine r_bipush hR dX9_goes_8 kc_bipush_m102 ?_
    exact r_iret hR dX9_goes_10 rfl (rt2 hP h)
theorem c9_goes (N : Nat) {x1 : Int32} {x2 : Int32} {q : SS} {r : Int32} {q2 : SS} (h : f9_goes N x1 x2 q = some (r, q2)) : Ct wM 4 yX9_goes cX9_goes 3 (some .int) (fun ad => [.ref (ad 0), .int x1, .int x2]) q (fun _ => some (.int r)) q2 :=
  ct_of (by decide) (fun _ => Nat.le_of_ble_eq_true rfl) (fun ad J hR => t9_goes hR N ⟨rfl, rfl⟩ x1 x2 q h)
theorem t9_on (hR : Rl wM 4 RX9 cX9_on 3 (some .int) ad J P) (N : Nat) {r : Int32} {q2 : SS} (hP : P (some (.int r)) q2) (x1 : Int32) (x2 : Int32) (q : SS) (h : f9_on N x1 x2 q = some (r, q2)) : J [(0, .ref (ad 0)), (1, .int x1), (2, .int x2)] [] q 0 := by
  unfold f9_on at h
  refine r_aload_n hR dX9_on_0 rfl 0 rfl ?_
  refine r_iload_n hR dX9_on_1 rfl 1 rfl ?_
  obtain ⟨r_2, hc, h⟩ := bd_some h
  refine r_callVi hR (c9_isSet hc) (cf_X9_186 (by decide)) ⟨m_5_94, ms_3_14⟩ (As := [.int x1]) (q0 := 0) (ci := 7) rfl rfl rfl rfl (rc_X9 ad _) (Nat.le_of_ble_eq_true rfl) rfl dX9_on_2 ?_
  refine r_if_ne hR (tgt := 11) dX9_on_5 (by decide) (fun c_5 => ?_) (fun c_5 => ?_)
  · replace h := it_f c_5 h
    refine r_aload_n hR dX9_on_11 rfl 0 rfl ?_
    refine r_iload_n hR dX9_on_12 rfl 1 rfl ?_
    refine r_iload_n hR dX9_on_13 rfl 2 rfl ?_
    obtain ⟨r_14, hc, h⟩ := bd_some h
    refine r_callVi hR (c9_isIn hc) (cf_X9_195 (by decide)) ⟨m_5_146, ms_4_9⟩ (As := [.int x1, .int x2]) (q0 := 0) (ci := 7) rfl rfl rfl rfl (rc_X9 ad _) (Nat.le_of_ble_eq_true rfl) rfl dX9_on_14 ?_
    refine r_if_ne hR (tgt := 23) dX9_on_17 (by decide) (fun c_17 => ?_) (fun c_17 => ?_)
    · replace h := it_f c_17 h
      refine r_aload_n hR dX9_on_23 rfl 0 rfl ?_
      refine r_iload_n hR dX9_on_24 rfl 1 rfl ?_
      obtain ⟨q_25, hc, h⟩ := bd_some h
      refine r_callVv hR (c9_takeAway N hc) (cf_X9_303 (by decide)) ⟨m_6_32, ms_5_13⟩ (As := [.int x1]) (q0 := 0) (ci := 7) rfl rfl rfl rfl (rc_X9 ad _) (Nat.le_of_ble_eq_true rfl) rfl dX9_on_25 ?_
      refine r_aload_n hR dX9_on_28 rfl 0 rfl ?_
      refine g_X9_hangsOn hR m_4_157 dX9_on_29 ?_
      refine r_iload_n hR dX9_on_32 rfl 2 rfl ?_
      obtain ⟨hin, h⟩ := ck_some h
      refine ld_X9_hangsOn hR dX9_on_33 hin ?_
      exact r_iret hR dX9_on_34 rfl (rt2 hP h)
    · replace h := it_t c_17 h
      refine r_bipush hR dX9_on_20 kc_bipush_m101 ?_
      exact r_iret hR dX9_on_22 rfl (rt2 hP h)
  · replace h := it_t c_5 h
    refine r_bipush hR dX9_on_8 kc_bipush_m102 ?_
    exact r_iret hR dX9_on_10 rfl (rt2 hP h)
theorem c9_on (N : Nat) {x1 : Int32} {x2 : Int32} {q : SS} {r : Int32} {q2 : SS} (h : f9_on N x1 x2 q = some (r, q2)) : Ct wM 4 yX9_on cX9_on 3 (some .int) (fun ad => [.ref (ad 0), .int x1, .int x2]) q (fun _ => some (.int r)) q2 :=
  ct_of (by decide) (fun _ => Nat.le_of_ble_eq_true rfl) (fun ad J hR => t9_on hR N ⟨rfl, rfl⟩ x1 x2 q h)
theorem t9_cut_b95 (hR : Rl wM 2 RX9 cX9_cut 6 none ad J P) (N : Nat) {q2 : SS} (hP : P none q2) (bk2 : Int32 → Int32 → Int32 → SS → Option SS) (hbk2 : ∀ (x1 : Int32) (x2 : Int32) (x3 : Int32) (q : SS), bk2 x1 x2 x3 q = some q2 → J [(0, .ref (ad 0)), (1, .int x1), (2, .int x2), (3, .int x3)] [] q 2) (x1 : Int32) (x2 : Int32) (x3 : Int32) (s0 : Int32) (s1 : Int32) (s2 : Int32) (q : SS) (h : f9_cut_b95 N bk2 x1 x2 x3 s0 s1 s2 q = some q2) : J [(0, .ref (ad 0)), (1, .int x1), (2, .int x2), (3, .int x3)] [.int s0, .int s1, .int s2, .ref (ad 24)] q 95 := by
  unfold f9_cut_b95 at h
  refine r_iand hR dX9_cut_95 ?_
  obtain ⟨hin, h⟩ := ck_some h
  obtain ⟨q_96, hq, h⟩ := bn_some h
  refine sv_X9_leftRows hR dX9_cut_96 hin hq ?_
  obtain ⟨x3_97, hx, h⟩ := bn_some h
  refine r_iinc hR (i := 3) (lv' := [(3, .int x3_97), (0, .ref (ad 0)), (1, .int x1), (2, .int x2)]) dX9_cut_97 3 rfl (inc_ok hx kc_iconst_1) (by decide) rfl ?_
  refine r_goto hR (tgt := 2) dX9_cut_100 (by decide) ?_
  exact r_sub hR [1, 2, 3, 0] rfl (hbk2 _ _ _ _ h)
theorem t9_cut_b66 (hR : Rl wM 2 RX9 cX9_cut 6 none ad J P) (N : Nat) {q2 : SS} (hP : P none q2) (bk2 : Int32 → Int32 → Int32 → SS → Option SS) (hbk2 : ∀ (x1 : Int32) (x2 : Int32) (x3 : Int32) (q : SS), bk2 x1 x2 x3 q = some q2 → J [(0, .ref (ad 0)), (1, .int x1), (2, .int x2), (3, .int x3)] [] q 2) (bk18 : Int32 → Int32 → Int32 → Int32 → Int32 → SS → Option SS) (hbk18 : ∀ (x1 : Int32) (x2 : Int32) (x3 : Int32) (x4 : Int32) (x5 : Int32) (q : SS), bk18 x1 x2 x3 x4 x5 q = some q2 → J [(0, .ref (ad 0)), (1, .int x1), (2, .int x2), (3, .int x3), (4, .int x4), (5, .int x5)] [] q 18) (x1 : Int32) (x2 : Int32) (x3 : Int32) (x5 : Int32) (s0 : Int32) (q : SS) (h : f9_cut_b66 N bk2 bk18 x1 x2 x3 x5 s0 q = some q2) : J [(0, .ref (ad 0)), (1, .int x1), (2, .int x2), (3, .int x3), (5, .int x5)] [.int s0] q 66 := by
  unfold f9_cut_b66 at h
  refine r_istore hR (i := 4) (lv' := [(4, .int s0), (0, .ref (ad 0)), (1, .int x1), (2, .int x2), (3, .int x3), (5, .int x5)]) dX9_cut_66 rfl (by decide) rfl ?_
  obtain ⟨x5_68, hx, h⟩ := bn_some h
  refine r_iinc hR (i := 5) (lv' := [(5, .int x5_68), (4, .int s0), (0, .ref (ad 0)), (1, .int x1), (2, .int x2), (3, .int x3)]) dX9_cut_68 5 rfl (inc_ok hx kc_iconst_1) (by decide) rfl ?_
  refine r_goto hR (tgt := 18) dX9_cut_71 (by decide) ?_
  exact r_sub hR [2, 3, 4, 5, 1, 0] rfl (hbk18 _ _ _ _ _ _ h)
theorem t9_cut_b61 (hR : Rl wM 2 RX9 cX9_cut 6 none ad J P) (N : Nat) {q2 : SS} (hP : P none q2) (bk2 : Int32 → Int32 → Int32 → SS → Option SS) (hbk2 : ∀ (x1 : Int32) (x2 : Int32) (x3 : Int32) (q : SS), bk2 x1 x2 x3 q = some q2 → J [(0, .ref (ad 0)), (1, .int x1), (2, .int x2), (3, .int x3)] [] q 2) (bk18 : Int32 → Int32 → Int32 → Int32 → Int32 → SS → Option SS) (hbk18 : ∀ (x1 : Int32) (x2 : Int32) (x3 : Int32) (x4 : Int32) (x5 : Int32) (q : SS), bk18 x1 x2 x3 x4 x5 q = some q2 → J [(0, .ref (ad 0)), (1, .int x1), (2, .int x2), (3, .int x3), (4, .int x4), (5, .int x5)] [] q 18) (x1 : Int32) (x2 : Int32) (x3 : Int32) (x5 : Int32) (q : SS) (h : f9_cut_b61 N bk2 bk18 x1 x2 x3 x5 q = some q2) : J [(0, .ref (ad 0)), (1, .int x1), (2, .int x2), (3, .int x3), (5, .int x5)] [] q 61 := by
  unfold f9_cut_b61 at h
  refine r_iconst hR dX9_cut_61 kc_iconst_1 ?_
  refine r_goto hR (tgt := 66) dX9_cut_62 (by decide) ?_
  exact r_sub hR [0, 1, 2, 3, 4] rfl (t9_cut_b66 hR N hP bk2 hbk2 bk18 hbk18 _ _ _ _ _ _ h)
theorem t9_cut_b65 (hR : Rl wM 2 RX9 cX9_cut 6 none ad J P) (N : Nat) {q2 : SS} (hP : P none q2) (bk2 : Int32 → Int32 → Int32 → SS → Option SS) (hbk2 : ∀ (x1 : Int32) (x2 : Int32) (x3 : Int32) (q : SS), bk2 x1 x2 x3 q = some q2 → J [(0, .ref (ad 0)), (1, .int x1), (2, .int x2), (3, .int x3)] [] q 2) (bk18 : Int32 → Int32 → Int32 → Int32 → Int32 → SS → Option SS) (hbk18 : ∀ (x1 : Int32) (x2 : Int32) (x3 : Int32) (x4 : Int32) (x5 : Int32) (q : SS), bk18 x1 x2 x3 x4 x5 q = some q2 → J [(0, .ref (ad 0)), (1, .int x1), (2, .int x2), (3, .int x3), (4, .int x4), (5, .int x5)] [] q 18) (x1 : Int32) (x2 : Int32) (x3 : Int32) (x5 : Int32) (q : SS) (h : f9_cut_b65 N bk2 bk18 x1 x2 x3 x5 q = some q2) : J [(0, .ref (ad 0)), (1, .int x1), (2, .int x2), (3, .int x3), (5, .int x5)] [] q 65 := by
  unfold f9_cut_b65 at h
  refine r_iconst hR dX9_cut_65 kc_iconst_0 ?_
  exact r_sub hR [0, 1, 2, 3, 4] rfl (t9_cut_b66 hR N hP bk2 hbk2 bk18 hbk18 _ _ _ _ _ _ h)
theorem t9_cut_l18_B (hR : Rl wM 2 RX9 cX9_cut 6 none ad J P) (N : Nat) {q2 : SS} (hP : P none q2) (bk2 : Int32 → Int32 → Int32 → SS → Option SS) (hbk2 : ∀ (x1 : Int32) (x2 : Int32) (x3 : Int32) (q : SS), bk2 x1 x2 x3 q = some q2 → J [(0, .ref (ad 0)), (1, .int x1), (2, .int x2), (3, .int x3)] [] q 2) (bk18 : Int32 → Int32 → Int32 → Int32 → Int32 → SS → Option SS) (hbk18 : ∀ (x1 : Int32) (x2 : Int32) (x3 : Int32) (x4 : Int32) (x5 : Int32) (q : SS), bk18 x1 x2 x3 x4 x5 q = some q2 → J [(0, .ref (ad 0)), (1, .int x1), (2, .int x2), (3, .int x3), (4, .int x4), (5, .int x5)] [] q 18) (x1 : Int32) (x2 : Int32) (x3 : Int32) (x4 : Int32) (x5 : Int32) (q : SS) (h : f9_cut_l18_B N bk2 bk18 x1 x2 x3 x4 x5 q = some q2) : J [(0, .ref (ad 0)), (1, .int x1), (2, .int x2), (3, .int x3), (4, .int x4), (5, .int x5)] [] q 18 := by
  unfold f9_cut_l18_B at h
  refine r_iload hR dX9_cut_18 5 rfl ?_
  refine r_aload_n hR dX9_cut_20 rfl 0 rfl ?_
  refine g_X9_rows hR m_4_122 dX9_cut_21 ?_
  refine r_iload_n hR dX9_cut_24 rfl 2 rfl ?_
  obtain ⟨hin, h⟩ := ck_some h
  refine ld_X9_rows hR dX9_cut_25 hin ?_
  refine r_icmp_ge hR (tgt := 74) dX9_cut_26 (by decide) (fun c_26 => ?_) (fun c_26 => ?_)
  · replace h := it_t c_26 h
    refine r_aload_n hR dX9_cut_74 rfl 0 rfl ?_
    refine g_X9_leftRows hR m_4_158 dX9_cut_75 ?_
    refine r_iload_n hR dX9_cut_78 rfl 1 rfl ?_
    refine r_dup2 hR dX9_cut_79 rfl rfl ?_
    obtain ⟨hin, h⟩ := ck_some h
    refine ld_X9_leftRows hR dX9_cut_80 hin ?_
    refine r_iload hR dX9_cut_81 4 rfl ?_
    refine r_if_eq hR (tgt := 90) dX9_cut_83 (by decide) (fun c_83 => ?_) (fun c_83 => ?_)
    · replace h := it_t c_83 h
      refine r_iconst hR dX9_cut_90 kc_iconst_1 ?_
      refine r_iload_n hR dX9_cut_91 rfl 3 rfl ?_
      refine r_ishl hR dX9_cut_92 ?_
      refine r_iconst hR dX9_cut_93 kc_iconst_m1 ?_
      refine r_ixor hR dX9_cut_94 ?_
      exact r_sub hR [0, 1, 2, 3] rfl (t9_cut_b95 hR N hP bk2 hbk2 _ _ _ _ _ _ _ h)
    · replace h := it_f c_83 h
      refine r_iconst hR dX9_cut_86 kc_iconst_m1 ?_
      refine r_goto hR (tgt := 95) dX9_cut_87 (by decide) ?_
      exact r_sub hR [0, 1, 2, 3] rfl (t9_cut_b95 hR N hP bk2 hbk2 _ _ _ _ _ _ _ h)
  · replace h := it_f c_26 h
    refine r_iload hR dX9_cut_29 4 rfl ?_
    refine r_if_ne hR (tgt := 61) dX9_cut_31 (by decide) (fun c_31 => ?_) (fun c_31 => ?_)
    · replace h := it_f c_31 h
      exact r_sub hR [0, 1, 2, 3, 5] rfl (t9_cut_b61 hR N hP bk2 hbk2 bk18 hbk18 _ _ _ _ _ h)
    · replace h := it_t c_31 h
      refine r_aload_n hR dX9_cut_34 rfl 0 rfl ?_
      refine g_X9_leftRows hR m_4_158 dX9_cut_35 ?_
      refine r_iload_n hR dX9_cut_38 rfl 2 rfl ?_
      obtain ⟨hin, h⟩ := ck_some h
      refine ld_X9_leftRows hR dX9_cut_39 hin ?_
      refine r_iload hR dX9_cut_40 5 rfl ?_
      refine r_ishr hR dX9_cut_42 ?_
      refine r_iconst hR dX9_cut_43 kc_iconst_1 ?_
      refine r_iand hR dX9_cut_44 ?_
      refine r_iconst hR dX9_cut_45 kc_iconst_1 ?_
      refine r_icmp_ne hR (tgt := 65) dX9_cut_46 (by decide) (fun c_46 => ?_) (fun c_46 => ?_)
      · replace h := it_f c_46 h
        exact r_sub hR [0, 1, 2, 3, 5] rfl (t9_cut_b65 hR N hP bk2 hbk2 bk18 hbk18 _ _ _ _ _ h)
      · replace h := it_t c_46 h
        refine r_aload_n hR dX9_cut_49 rfl 0 rfl ?_
        refine r_iload_n hR dX9_cut_50 rfl 1 rfl ?_
        refine r_iload_n hR dX9_cut_51 rfl 3 rfl ?_
        refine r_iload_n hR dX9_cut_52 rfl 2 rfl ?_
        refine r_iload hR dX9_cut_53 5 rfl ?_
        obtain ⟨r_55, hc, h⟩ := bd_some h
        refine r_callVi hR (c9_fit N hc) (cf_X9_160 (by decide)) ⟨m_5_126, ms_4_6⟩ (As := [.int x1, .int x3, .int x2, .int x5]) (q0 := 0) (ci := 7) rfl rfl rfl rfl (rc_X9 ad _) (Nat.le_of_ble_eq_true rfl) rfl dX9_cut_55 ?_
        refine r_if_eq hR (tgt := 65) dX9_cut_58 (by decide) (fun c_58 => ?_) (fun c_58 => ?_)
        · replace h := it_t c_58 h
          exact r_sub hR [0, 1, 2, 3, 5] rfl (t9_cut_b65 hR N hP bk2 hbk2 bk18 hbk18 _ _ _ _ _ h)
        · replace h := it_f c_58 h
          exact r_sub hR [0, 1, 2, 3, 5] rfl (t9_cut_b61 hR N hP bk2 hbk2 bk18 hbk18 _ _ _ _ _ h)
theorem t9_cut_l18 (hR : Rl wM 2 RX9 cX9_cut 6 none ad J P) (N : Nat) {q2 : SS} (hP : P none q2) (bk2 : Int32 → Int32 → Int32 → SS → Option SS) (hbk2 : ∀ (x1 : Int32) (x2 : Int32) (x3 : Int32) (q : SS), bk2 x1 x2 x3 q = some q2 → J [(0, .ref (ad 0)), (1, .int x1), (2, .int x2), (3, .int x3)] [] q 2) : ∀ (n : Nat) (x1 : Int32) (x2 : Int32) (x3 : Int32) (x4 : Int32) (x5 : Int32) (q : SS), f9_cut_l18 N bk2 n x1 x2 x3 x4 x5 q = some q2 → J [(0, .ref (ad 0)), (1, .int x1), (2, .int x2), (3, .int x3), (4, .int x4), (5, .int x5)] [] q 18 := by
  intro n
  induction n with
  | zero => intro x1 x2 x3 x4 x5 q h; exact mu_noneF h
  | succ n ih => intro x1 x2 x3 x4 x5 q h; exact t9_cut_l18_B hR N hP bk2 hbk2 _ ih x1 x2 x3 x4 x5 q h
theorem t9_cut_l2_B (hR : Rl wM 2 RX9 cX9_cut 6 none ad J P) (N : Nat) {q2 : SS} (hP : P none q2) (bk2 : Int32 → Int32 → Int32 → SS → Option SS) (hbk2 : ∀ (x1 : Int32) (x2 : Int32) (x3 : Int32) (q : SS), bk2 x1 x2 x3 q = some q2 → J [(0, .ref (ad 0)), (1, .int x1), (2, .int x2), (3, .int x3)] [] q 2) (x1 : Int32) (x2 : Int32) (x3 : Int32) (q : SS) (h : f9_cut_l2_B N bk2 x1 x2 x3 q = some q2) : J [(0, .ref (ad 0)), (1, .int x1), (2, .int x2), (3, .int x3)] [] q 2 := by
  unfold f9_cut_l2_B at h
  refine r_iload_n hR dX9_cut_2 rfl 3 rfl ?_
  refine r_aload_n hR dX9_cut_3 rfl 0 rfl ?_
  refine g_X9_rows hR m_4_122 dX9_cut_4 ?_
  refine r_iload_n hR dX9_cut_7 rfl 1 rfl ?_
  obtain ⟨hin, h⟩ := ck_some h
  refine ld_X9_rows hR dX9_cut_8 hin ?_
  refine r_icmp_ge hR (tgt := 103) dX9_cut_9 (by decide) (fun c_9 => ?_) (fun c_9 => ?_)
  · replace h := it_t c_9 h
    exact r_vret hR dX9_cut_103 rfl (rtv hP h)
  · replace h := it_f c_9 h
    refine r_iconst hR dX9_cut_12 kc_iconst_0 ?_
    refine r_istore hR (i := 4) (lv' := [(4, .int (0 : Int32)), (0, .ref (ad 0)), (1, .int x1), (2, .int x2), (3, .int x3)]) dX9_cut_13 rfl (by decide) rfl ?_
    refine r_iconst hR dX9_cut_15 kc_iconst_0 ?_
    refine r_istore hR (i := 5) (lv' := [(5, .int (0 : Int32)), (4, .int (0 : Int32)), (0, .ref (ad 0)), (1, .int x1), (2, .int x2), (3, .int x3)]) dX9_cut_16 rfl (by decide) rfl ?_
    exact r_sub hR [2, 3, 4, 5, 1, 0] rfl (t9_cut_l18 hR N hP bk2 hbk2 N _ _ _ _ _ _ h)
theorem t9_cut_l2 (hR : Rl wM 2 RX9 cX9_cut 6 none ad J P) (N : Nat) {q2 : SS} (hP : P none q2) : ∀ (n : Nat) (x1 : Int32) (x2 : Int32) (x3 : Int32) (q : SS), f9_cut_l2 N n x1 x2 x3 q = some q2 → J [(0, .ref (ad 0)), (1, .int x1), (2, .int x2), (3, .int x3)] [] q 2 := by
  intro n
  induction n with
  | zero => intro x1 x2 x3 q h; exact mu_noneF h
  | succ n ih => intro x1 x2 x3 q h; exact t9_cut_l2_B hR N hP _ ih x1 x2 x3 q h
theorem t9_cut (hR : Rl wM 2 RX9 cX9_cut 6 none ad J P) (N : Nat) {q2 : SS} (hP : P none q2) (x1 : Int32) (x2 : Int32) (q : SS) (h : f9_cut N x1 x2 q = some q2) : J [(0, .ref (ad 0)), (1, .int x1), (2, .int x2)] [] q 0 := by
  unfold f9_cut at h
  refine r_iconst hR dX9_cut_0 kc_iconst_0 ?_
  refine r_istore_n hR (i := 3) (lv' := [(3, .int (0 : Int32)), (0, .ref (ad 0)), (1, .int x1), (2, .int x2)]) dX9_cut_1 rfl rfl (by decide) rfl ?_
  exact r_sub hR [1, 2, 3, 0] rfl (t9_cut_l2 hR N hP N _ _ _ _ h)
theorem c9_cut (N : Nat) {x1 : Int32} {x2 : Int32} {q : SS} {q2 : SS} (h : f9_cut N x1 x2 q = some q2) : Ct wM 2 yX9_cut cX9_cut 6 none (fun ad => [.ref (ad 0), .int x1, .int x2]) q (fun _ => none) q2 :=
  ct_of (by decide) (fun _ => Nat.le_of_ble_eq_true rfl) (fun ad J hR => t9_cut hR N ⟨rfl, rfl⟩ x1 x2 q h)
theorem t9_cutAll_l78_B (hR : Rl wM 3 RX9 cX9_cutAll 2 none ad J P) (N : Nat) {q2 : SS} (hP : P none q2) (bk78 : Int32 → SS → Option SS) (hbk78 : ∀ (x1 : Int32) (q : SS), bk78 x1 q = some q2 → J [(0, .ref (ad 0)), (1, .int x1)] [] q 78) (x1 : Int32) (q : SS) (h : f9_cutAll_l78_B N bk78 x1 q = some q2) : J [(0, .ref (ad 0)), (1, .int x1)] [] q 78 := by
  unfold f9_cutAll_l78_B at h
  refine r_iload_n hR dX9_cutAll_78 rfl 1 rfl ?_
  refine r_if_lt hR (tgt := 109) dX9_cutAll_79 (by decide) (fun c_79 => ?_) (fun c_79 => ?_)
  · replace h := it_t c_79 h
    exact r_vret hR dX9_cutAll_109 rfl (rtv hP h)
  · replace h := it_f c_79 h
    refine r_aload_n hR dX9_cutAll_82 rfl 0 rfl ?_
    refine r_aload_n hR dX9_cutAll_83 rfl 0 rfl ?_
    refine g_X9_gone hR m_4_155 dX9_cutAll_84 ?_
    refine r_iload_n hR dX9_cutAll_87 rfl 1 rfl ?_
    obtain ⟨hin, h⟩ := ck_some h
    refine ld_X9_gone hR dX9_cutAll_88 hin ?_
    refine r_aload_n hR dX9_cutAll_89 rfl 0 rfl ?_
    refine g_X9_hangsOn hR m_4_157 dX9_cutAll_90 ?_
    refine r_aload_n hR dX9_cutAll_93 rfl 0 rfl ?_
    refine g_X9_gone hR m_4_155 dX9_cutAll_94 ?_
    refine r_iload_n hR dX9_cutAll_97 rfl 1 rfl ?_
    obtain ⟨hin, h⟩ := ck_some h
    refine ld_X9_gone hR dX9_cutAll_98 hin ?_
    obtain ⟨hin, h⟩ := ck_some h
    refine ld_X9_hangsOn hR dX9_cutAll_99 hin ?_
    obtain ⟨q_100, hc, h⟩ := bd_some h
    refine r_callVv hR (c9_cut N hc) (cf_X9_309 (by decide)) ⟨m_6_56, ms_6_0⟩ (As := [.int (ar q 22 (ix x1)), .int (ar q 23 (ix (ar q 22 (ix x1))))]) (q0 := 0) (ci := 7) rfl rfl rfl rfl (rc_X9 ad _) (Nat.le_of_ble_eq_true rfl) rfl dX9_cutAll_100 ?_
    obtain ⟨x1_103, hx, h⟩ := bn_some h
    refine r_iinc hR (i := 1) (lv' := [(1, .int x1_103), (0, .ref (ad 0))]) dX9_cutAll_103 1 rfl (inc_ok hx kc_iconst_m1) (by decide) rfl ?_
    refine r_goto hR (tgt := 78) dX9_cutAll_106 (by decide) ?_
    exact r_sub hR [1, 0] rfl (hbk78 _ _ h)
theorem t9_cutAll_l78 (hR : Rl wM 3 RX9 cX9_cutAll 2 none ad J P) (N : Nat) {q2 : SS} (hP : P none q2) : ∀ (n : Nat) (x1 : Int32) (q : SS), f9_cutAll_l78 N n x1 q = some q2 → J [(0, .ref (ad 0)), (1, .int x1)] [] q 78 := by
  intro n
  induction n with
  | zero => intro x1 q h; exact mu_noneF h
  | succ n ih => intro x1 q h; exact t9_cutAll_l78_B hR N hP _ ih x1 q h
theorem t9_cutAll_l34_B (hR : Rl wM 3 RX9 cX9_cutAll 2 none ad J P) (N : Nat) {q2 : SS} (hP : P none q2) (bk34 : Int32 → SS → Option SS) (hbk34 : ∀ (x1 : Int32) (q : SS), bk34 x1 q = some q2 → J [(0, .ref (ad 0)), (1, .int x1)] [] q 34) (x1 : Int32) (q : SS) (h : f9_cutAll_l34_B N bk34 x1 q = some q2) : J [(0, .ref (ad 0)), (1, .int x1)] [] q 34 := by
  unfold f9_cutAll_l34_B at h
  refine r_iload_n hR dX9_cutAll_34 rfl 1 rfl ?_
  refine r_aload_n hR dX9_cutAll_35 rfl 0 rfl ?_
  refine g_X9_goneMany hR m_4_156 dX9_cutAll_36 ?_
  refine r_iconst hR dX9_cutAll_39 kc_iconst_1 ?_
  refine r_isub hR dX9_cutAll_40 ?_
  refine r_icmp_ge hR (tgt := 71) dX9_cutAll_41 (by decide) (fun c_41 => ?_) (fun c_41 => ?_)
  · replace h := it_t c_41 h
    refine r_aload_n hR dX9_cutAll_71 rfl 0 rfl ?_
    refine g_X9_goneMany hR m_4_156 dX9_cutAll_72 ?_
    refine r_iconst hR dX9_cutAll_75 kc_iconst_2 ?_
    refine r_isub hR dX9_cutAll_76 ?_
    obtain ⟨x1_77, hx, h⟩ := bn_some h
    refine r_istore_n hR (i := 1) (lv' := [(1, .int x1_77), (0, .ref (ad 0))]) dX9_cutAll_77 hx rfl (by decide) rfl ?_
    exact r_sub hR [1, 0] rfl (t9_cutAll_l78 hR N hP N _ _ h)
  · replace h := it_f c_41 h
    refine r_aload_n hR dX9_cutAll_44 rfl 0 rfl ?_
    refine r_aload_n hR dX9_cutAll_45 rfl 0 rfl ?_
    refine g_X9_hangsOn hR m_4_157 dX9_cutAll_46 ?_
    refine r_aload_n hR dX9_cutAll_49 rfl 0 rfl ?_
    refine g_X9_gone hR m_4_155 dX9_cutAll_50 ?_
    refine r_iload_n hR dX9_cutAll_53 rfl 1 rfl ?_
    obtain ⟨hin, h⟩ := ck_some h
    refine ld_X9_gone hR dX9_cutAll_54 hin ?_
    obtain ⟨hin, h⟩ := ck_some h
    refine ld_X9_hangsOn hR dX9_cutAll_55 hin ?_
    refine r_aload_n hR dX9_cutAll_56 rfl 0 rfl ?_
    refine g_X9_gone hR m_4_155 dX9_cutAll_57 ?_
    refine r_iload_n hR dX9_cutAll_60 rfl 1 rfl ?_
    obtain ⟨hin, h⟩ := ck_some h
    refine ld_X9_gone hR dX9_cutAll_61 hin ?_
    obtain ⟨q_62, hc, h⟩ := bd_some h
    refine r_callVv hR (c9_cut N hc) (cf_X9_309 (by decide)) ⟨m_6_56, ms_6_0⟩ (As := [.int (ar q 23 (ix (ar q 22 (ix x1)))), .int (ar q 22 (ix x1))]) (q0 := 0) (ci := 7) rfl rfl rfl rfl (rc_X9 ad _) (Nat.le_of_ble_eq_true rfl) rfl dX9_cutAll_62 ?_
    obtain ⟨x1_65, hx, h⟩ := bn_some h
    refine r_iinc hR (i := 1) (lv' := [(1, .int x1_65), (0, .ref (ad 0))]) dX9_cutAll_65 1 rfl (inc_ok hx kc_iconst_1) (by decide) rfl ?_
    refine r_goto hR (tgt := 34) dX9_cutAll_68 (by decide) ?_
    exact r_sub hR [1, 0] rfl (hbk34 _ _ h)
theorem t9_cutAll_l34 (hR : Rl wM 3 RX9 cX9_cutAll 2 none ad J P) (N : Nat) {q2 : SS} (hP : P none q2) : ∀ (n : Nat) (x1 : Int32) (q : SS), f9_cutAll_l34 N n x1 q = some q2 → J [(0, .ref (ad 0)), (1, .int x1)] [] q 34 := by
  intro n
  induction n with
  | zero => intro x1 q h; exact mu_noneF h
  | succ n ih => intro x1 q h; exact t9_cutAll_l34_B hR N hP _ ih x1 q h
theorem t9_cutAll_l2_B (hR : Rl wM 3 RX9 cX9_cutAll 2 none ad J P) (N : Nat) {q2 : SS} (hP : P none q2) (bk2 : Int32 → SS → Option SS) (hbk2 : ∀ (x1 : Int32) (q : SS), bk2 x1 q = some q2 → J [(0, .ref (ad 0)), (1, .int x1)] [] q 2) (x1 : Int32) (q : SS) (h : f9_cutAll_l2_B N bk2 x1 q = some q2) : J [(0, .ref (ad 0)), (1, .int x1)] [] q 2 := by
  unfold f9_cutAll_l2_B at h
  refine r_iload_n hR dX9_cutAll_2 rfl 1 rfl ?_
  refine r_aload_n hR dX9_cutAll_3 rfl 0 rfl ?_
  refine g_X9_tables hR m_4_119 dX9_cutAll_4 ?_
  refine r_icmp_ge hR (tgt := 32) dX9_cutAll_7 (by decide) (fun c_7 => ?_) (fun c_7 => ?_)
  · replace h := it_t c_7 h
    refine r_iconst hR dX9_cutAll_32 kc_iconst_0 ?_
    refine r_istore_n hR (i := 1) (lv' := [(1, .int (0 : Int32)), (0, .ref (ad 0))]) dX9_cutAll_33 rfl rfl (by decide) rfl ?_
    exact r_sub hR [1, 0] rfl (t9_cutAll_l34 hR N hP N _ _ h)
  · replace h := it_f c_7 h
    refine r_aload_n hR dX9_cutAll_10 rfl 0 rfl ?_
    refine g_X9_leftRows hR m_4_158 dX9_cutAll_11 ?_
    refine r_iload_n hR dX9_cutAll_14 rfl 1 rfl ?_
    refine r_iconst hR dX9_cutAll_15 kc_iconst_1 ?_
    refine r_aload_n hR dX9_cutAll_16 rfl 0 rfl ?_
    refine g_X9_rows hR m_4_122 dX9_cutAll_17 ?_
    refine r_iload_n hR dX9_cutAll_20 rfl 1 rfl ?_
    obtain ⟨hin, h⟩ := ck_some h
    refine ld_X9_rows hR dX9_cutAll_21 hin ?_
    refine r_ishl hR dX9_cutAll_22 ?_
    refine r_iconst hR dX9_cutAll_23 kc_iconst_1 ?_
    refine r_isub hR dX9_cutAll_24 ?_
    obtain ⟨hin, h⟩ := ck_some h
    obtain ⟨q_25, hq, h⟩ := bn_some h
    refine sv_X9_leftRows hR dX9_cutAll_25 hin hq ?_
    obtain ⟨x1_26, hx, h⟩ := bn_some h
    refine r_iinc hR (i := 1) (lv' := [(1, .int x1_26), (0, .ref (ad 0))]) dX9_cutAll_26 1 rfl (inc_ok hx kc_iconst_1) (by decide) rfl ?_
    refine r_goto hR (tgt := 2) dX9_cutAll_29 (by decide) ?_
    exact r_sub hR [1, 0] rfl (hbk2 _ _ h)
theorem t9_cutAll_l2 (hR : Rl wM 3 RX9 cX9_cutAll 2 none ad J P) (N : Nat) {q2 : SS} (hP : P none q2) : ∀ (n : Nat) (x1 : Int32) (q : SS), f9_cutAll_l2 N n x1 q = some q2 → J [(0, .ref (ad 0)), (1, .int x1)] [] q 2 := by
  intro n
  induction n with
  | zero => intro x1 q h; exact mu_noneF h
  | succ n ih => intro x1 q h; exact t9_cutAll_l2_B hR N hP _ ih x1 q h
theorem t9_cutAll (hR : Rl wM 3 RX9 cX9_cutAll 2 none ad J P) (N : Nat) {q2 : SS} (hP : P none q2) (q : SS) (h : f9_cutAll N q = some q2) : J [(0, .ref (ad 0))] [] q 0 := by
  unfold f9_cutAll at h
  refine r_iconst hR dX9_cutAll_0 kc_iconst_0 ?_
  refine r_istore_n hR (i := 1) (lv' := [(1, .int (0 : Int32)), (0, .ref (ad 0))]) dX9_cutAll_1 rfl rfl (by decide) rfl ?_
  exact r_sub hR [1, 0] rfl (t9_cutAll_l2 hR N hP N _ _ h)
theorem c9_cutAll (N : Nat) {q : SS} {q2 : SS} (h : f9_cutAll N q = some q2) : Ct wM 3 yX9_cutAll cX9_cutAll 2 none (fun ad => [.ref (ad 0)]) q (fun _ => none) q2 :=
  ct_of (by decide) (fun _ => Nat.le_of_ble_eq_true rfl) (fun ad J hR => t9_cutAll hR N ⟨rfl, rfl⟩ q h)
theorem t9_left (hR : Rl wM 5 RX9 cX9_left 3 (some .int) ad J P) (N : Nat) {r : Int32} {q2 : SS} (hP : P (some (.int r)) q2) (x1 : Int32) (x2 : Int32) (q : SS) (h : f9_left N x1 x2 q = some (r, q2)) : J [(0, .ref (ad 0)), (1, .int x1), (2, .int x2)] [] q 0 := by
  unfold f9_left at h
  refine r_aload_n hR dX9_left_0 rfl 0 rfl ?_
  refine r_iload_n hR dX9_left_1 rfl 1 rfl ?_
  obtain ⟨r_2, hc, h⟩ := bd_some h
  refine r_callVi hR (c9_isSet hc) (cf_X9_186 (by decide)) ⟨m_5_94, ms_3_14⟩ (As := [.int x1]) (q0 := 0) (ci := 7) rfl rfl rfl rfl (rc_X9 ad _) (Nat.le_of_ble_eq_true rfl) rfl dX9_left_2 ?_
  refine r_if_ne hR (tgt := 11) dX9_left_5 (by decide) (fun c_5 => ?_) (fun c_5 => ?_)
  · replace h := it_f c_5 h
    refine r_aload_n hR dX9_left_11 rfl 0 rfl ?_
    refine r_iload_n hR dX9_left_12 rfl 1 rfl ?_
    refine r_iload_n hR dX9_left_13 rfl 2 rfl ?_
    obtain ⟨r_14, hc, h⟩ := bd_some h
    refine r_callVi hR (c9_isIn hc) (cf_X9_195 (by decide)) ⟨m_5_146, ms_4_9⟩ (As := [.int x1, .int x2]) (q0 := 0) (ci := 7) rfl rfl rfl rfl (rc_X9 ad _) (Nat.le_of_ble_eq_true rfl) rfl dX9_left_14 ?_
    refine r_if_ne hR (tgt := 23) dX9_left_17 (by decide) (fun c_17 => ?_) (fun c_17 => ?_)
    · replace h := it_f c_17 h
      refine r_aload_n hR dX9_left_23 rfl 0 rfl ?_
      refine r_iload_n hR dX9_left_24 rfl 1 rfl ?_
      obtain ⟨r_25, q_25, hc, h⟩ := bd2_some h
      refine r_callVi hR (c9_doesHang N hc) (cf_X9_306 (by decide)) ⟨m_6_28, ms_5_12⟩ (As := [.int x1]) (q0 := 0) (ci := 7) rfl rfl rfl rfl (rc_X9 ad _) (Nat.le_of_ble_eq_true rfl) rfl dX9_left_25 ?_
      refine r_if_ne hR (tgt := 34) dX9_left_28 (by decide) (fun c_28 => ?_) (fun c_28 => ?_)
      · replace h := it_f c_28 h
        refine r_aload_n hR dX9_left_34 rfl 0 rfl ?_
        obtain ⟨q_35, hc, h⟩ := bd_some h
        refine r_callVv hR (c9_cutAll N hc) (cf_X9_312 (by decide)) ⟨m_6_52, ms_5_15⟩ (As := []) (q0 := 0) (ci := 7) rfl rfl rfl rfl (rc_X9 ad _) (Nat.le_of_ble_eq_true rfl) rfl dX9_left_35 ?_
        refine r_aload_n hR dX9_left_38 rfl 0 rfl ?_
        refine g_X9_leftRows hR m_4_158 dX9_left_39 ?_
        refine r_iload_n hR dX9_left_42 rfl 2 rfl ?_
        obtain ⟨hin, h⟩ := ck_some h
        refine ld_X9_leftRows hR dX9_left_43 hin ?_
        exact r_iret hR dX9_left_44 rfl (rt2 hP h)
      · replace h := it_t c_28 h
        refine r_bipush hR dX9_left_31 kc_bipush_m103 ?_
        exact r_iret hR dX9_left_33 rfl (rt2 hP h)
    · replace h := it_t c_17 h
      refine r_bipush hR dX9_left_20 kc_bipush_m101 ?_
      exact r_iret hR dX9_left_22 rfl (rt2 hP h)
  · replace h := it_t c_5 h
    refine r_bipush hR dX9_left_8 kc_bipush_m102 ?_
    exact r_iret hR dX9_left_10 rfl (rt2 hP h)
theorem c9_left (N : Nat) {x1 : Int32} {x2 : Int32} {q : SS} {r : Int32} {q2 : SS} (h : f9_left N x1 x2 q = some (r, q2)) : Ct wM 5 yX9_left cX9_left 3 (some .int) (fun ad => [.ref (ad 0), .int x1, .int x2]) q (fun _ => some (.int r)) q2 :=
  ct_of (by decide) (fun _ => Nat.le_of_ble_eq_true rfl) (fun ad J hR => t9_left hR N ⟨rfl, rfl⟩ x1 x2 q h)
theorem t9_steps_b68 (hR : Rl wM 5 RX9 cX9_steps 4 (some .int) ad J P) (N : Nat) {r : Int32} {q2 : SS} (hP : P (some (.int r)) q2) (bk30 : Int32 → Int32 → Int32 → SS → Option (Int32 × SS)) (hbk30 : ∀ (x1 : Int32) (x2 : Int32) (x3 : Int32) (q : SS), bk30 x1 x2 x3 q = some (r, q2) → J [(0, .ref (ad 0)), (1, .int x1), (2, .int x2), (3, .int x3)] [] q 30) (x1 : Int32) (x3 : Int32) (s0 : Int32) (s1 : Int32) (q : SS) (h : f9_steps_b68 N bk30 x1 x3 s0 s1 q = some (r, q2)) : J [(0, .ref (ad 0)), (1, .int x1), (3, .int x3)] [.int s0, .int s1] q 68 := by
  unfold f9_steps_b68 at h
  refine r_iadd hR dX9_steps_68 ?_
  obtain ⟨x2_69, hx, h⟩ := bn_some h
  refine r_istore_n hR (i := 2) (lv' := [(2, .int x2_69), (0, .ref (ad 0)), (1, .int x1), (3, .int x3)]) dX9_steps_69 hx rfl (by decide) rfl ?_
  obtain ⟨x3_70, hx, h⟩ := bn_some h
  refine r_iinc hR (i := 3) (lv' := [(3, .int x3_70), (2, .int x2_69), (0, .ref (ad 0)), (1, .int x1)]) dX9_steps_70 3 rfl (inc_ok hx kc_iconst_1) (by decide) rfl ?_
  refine r_goto hR (tgt := 30) dX9_steps_73 (by decide) ?_
  exact r_sub hR [2, 3, 1, 0] rfl (hbk30 _ _ _ _ h)
theorem t9_steps_l30_B (hR : Rl wM 5 RX9 cX9_steps 4 (some .int) ad J P) (N : Nat) {r : Int32} {q2 : SS} (hP : P (some (.int r)) q2) (bk30 : Int32 → Int32 → Int32 → SS → Option (Int32 × SS)) (hbk30 : ∀ (x1 : Int32) (x2 : Int32) (x3 : Int32) (q : SS), bk30 x1 x2 x3 q = some (r, q2) → J [(0, .ref (ad 0)), (1, .int x1), (2, .int x2), (3, .int x3)] [] q 30) (x1 : Int32) (x2 : Int32) (x3 : Int32) (q : SS) (h : f9_steps_l30_B N bk30 x1 x2 x3 q = some (r, q2)) : J [(0, .ref (ad 0)), (1, .int x1), (2, .int x2), (3, .int x3)] [] q 30 := by
  unfold f9_steps_l30_B at h
  refine r_iload_n hR dX9_steps_30 rfl 3 rfl ?_
  refine r_aload_n hR dX9_steps_31 rfl 0 rfl ?_
  refine g_X9_tables hR m_4_119 dX9_steps_32 ?_
  refine r_icmp_ge hR (tgt := 76) dX9_steps_35 (by decide) (fun c_35 => ?_) (fun c_35 => ?_)
  · replace h := it_t c_35 h
    refine r_iload_n hR dX9_steps_76 rfl 2 rfl ?_
    exact r_iret hR dX9_steps_77 rfl (rt2 hP h)
  · replace h := it_f c_35 h
    refine r_iload_n hR dX9_steps_38 rfl 2 rfl ?_
    refine r_iload_n hR dX9_steps_39 rfl 1 rfl ?_
    refine r_iload_n hR dX9_steps_40 rfl 3 rfl ?_
    refine r_ishr hR dX9_steps_41 ?_
    refine r_iconst hR dX9_steps_42 kc_iconst_1 ?_
    refine r_iand hR dX9_steps_43 ?_
    refine r_iconst hR dX9_steps_44 kc_iconst_1 ?_
    refine r_icmp_ne hR (tgt := 67) dX9_steps_45 (by decide) (fun c_45 => ?_) (fun c_45 => ?_)
    · replace h := it_f c_45 h
      refine r_iconst hR dX9_steps_67 kc_iconst_0 ?_
      exact r_sub hR [0, 1, 3] rfl (t9_steps_b68 hR N hP bk30 hbk30 _ _ _ _ _ h)
    · replace h := it_t c_45 h
      refine r_aload_n hR dX9_steps_48 rfl 0 rfl ?_
      refine g_X9_rows hR m_4_122 dX9_steps_49 ?_
      refine r_iload_n hR dX9_steps_52 rfl 3 rfl ?_
      obtain ⟨hin, h⟩ := ck_some h
      refine ld_X9_rows hR dX9_steps_53 hin ?_
      refine r_aload_n hR dX9_steps_54 rfl 0 rfl ?_
      refine g_X9_leftRows hR m_4_158 dX9_steps_55 ?_
      refine r_iload_n hR dX9_steps_58 rfl 3 rfl ?_
      obtain ⟨hin, h⟩ := ck_some h
      refine ld_X9_leftRows hR dX9_steps_59 hin ?_
      obtain ⟨r_60, hc, h⟩ := bd_some h
      refine r_callSi hR (c9_bitsOf N hc) (cf_X9_98 (by decide)) m_5_9 (As := [.int (ar q 24 (ix x3))]) rfl rfl (Nat.le_of_ble_eq_true rfl) rfl dX9_steps_60 ?_
      refine r_isub hR dX9_steps_63 ?_
      refine r_goto hR (tgt := 68) dX9_steps_64 (by decide) ?_
      exact r_sub hR [0, 1, 3] rfl (t9_steps_b68 hR N hP bk30 hbk30 _ _ _ _ _ h)
theorem t9_steps_l30 (hR : Rl wM 5 RX9 cX9_steps 4 (some .int) ad J P) (N : Nat) {r : Int32} {q2 : SS} (hP : P (some (.int r)) q2) : ∀ (n : Nat) (x1 : Int32) (x2 : Int32) (x3 : Int32) (q : SS), f9_steps_l30 N n x1 x2 x3 q = some (r, q2) → J [(0, .ref (ad 0)), (1, .int x1), (2, .int x2), (3, .int x3)] [] q 30 := by
  intro n
  induction n with
  | zero => intro x1 x2 x3 q h; exact mu_noneF h
  | succ n ih => intro x1 x2 x3 q h; exact t9_steps_l30_B hR N hP _ ih x1 x2 x3 q h
theorem t9_steps (hR : Rl wM 5 RX9 cX9_steps 4 (some .int) ad J P) (N : Nat) {r : Int32} {q2 : SS} (hP : P (some (.int r)) q2) (x1 : Int32) (q : SS) (h : f9_steps N x1 q = some (r, q2)) : J [(0, .ref (ad 0)), (1, .int x1)] [] q 0 := by
  unfold f9_steps at h
  refine r_aload_n hR dX9_steps_0 rfl 0 rfl ?_
  refine r_iload_n hR dX9_steps_1 rfl 1 rfl ?_
  obtain ⟨r_2, hc, h⟩ := bd_some h
  refine r_callVi hR (c9_isSet hc) (cf_X9_186 (by decide)) ⟨m_5_94, ms_3_14⟩ (As := [.int x1]) (q0 := 0) (ci := 7) rfl rfl rfl rfl (rc_X9 ad _) (Nat.le_of_ble_eq_true rfl) rfl dX9_steps_2 ?_
  refine r_if_ne hR (tgt := 11) dX9_steps_5 (by decide) (fun c_5 => ?_) (fun c_5 => ?_)
  · replace h := it_f c_5 h
    refine r_aload_n hR dX9_steps_11 rfl 0 rfl ?_
    refine r_iload_n hR dX9_steps_12 rfl 1 rfl ?_
    obtain ⟨r_13, q_13, hc, h⟩ := bd2_some h
    refine r_callVi hR (c9_doesHang N hc) (cf_X9_306 (by decide)) ⟨m_6_28, ms_5_12⟩ (As := [.int x1]) (q0 := 0) (ci := 7) rfl rfl rfl rfl (rc_X9 ad _) (Nat.le_of_ble_eq_true rfl) rfl dX9_steps_13 ?_
    refine r_if_ne hR (tgt := 22) dX9_steps_16 (by decide) (fun c_16 => ?_) (fun c_16 => ?_)
    · replace h := it_f c_16 h
      refine r_aload_n hR dX9_steps_22 rfl 0 rfl ?_
      obtain ⟨q_23, hc, h⟩ := bd_some h
      refine r_callVv hR (c9_cutAll N hc) (cf_X9_312 (by decide)) ⟨m_6_52, ms_5_15⟩ (As := []) (q0 := 0) (ci := 7) rfl rfl rfl rfl (rc_X9 ad _) (Nat.le_of_ble_eq_true rfl) rfl dX9_steps_23 ?_
      refine r_iconst hR dX9_steps_26 kc_iconst_0 ?_
      refine r_istore_n hR (i := 2) (lv' := [(2, .int (0 : Int32)), (0, .ref (ad 0)), (1, .int x1)]) dX9_steps_27 rfl rfl (by decide) rfl ?_
      refine r_iconst hR dX9_steps_28 kc_iconst_0 ?_
      refine r_istore_n hR (i := 3) (lv' := [(3, .int (0 : Int32)), (2, .int (0 : Int32)), (0, .ref (ad 0)), (1, .int x1)]) dX9_steps_29 rfl rfl (by decide) rfl ?_
      exact r_sub hR [2, 3, 1, 0] rfl (t9_steps_l30 hR N hP N _ _ _ _ h)
    · replace h := it_t c_16 h
      refine r_bipush hR dX9_steps_19 kc_bipush_m103 ?_
      exact r_iret hR dX9_steps_21 rfl (rt2 hP h)
  · replace h := it_t c_5 h
    refine r_bipush hR dX9_steps_8 kc_bipush_m102 ?_
    exact r_iret hR dX9_steps_10 rfl (rt2 hP h)
theorem c9_steps (N : Nat) {x1 : Int32} {q : SS} {r : Int32} {q2 : SS} (h : f9_steps N x1 q = some (r, q2)) : Ct wM 5 yX9_steps cX9_steps 4 (some .int) (fun ad => [.ref (ad 0), .int x1]) q (fun _ => some (.int r)) q2 :=
  ct_of (by decide) (fun _ => Nat.le_of_ble_eq_true rfl) (fun ad J hR => t9_steps hR N ⟨rfl, rfl⟩ x1 q h)
theorem t9_coverOf_b85 (hR : Rl wM 2 RX9 cX9_coverOf 6 (some .int) ad J P) (N : Nat) (q : SS) {r : Int32} (hP : P (some (.int r)) q) (bk4 : Int32 → Int32 → Int32 → Option Int32) (hbk4 : ∀ (x1 : Int32) (x2 : Int32) (x3 : Int32), bk4 x1 x2 x3 = some r → J [(0, .ref (ad 0)), (1, .int x1), (2, .int x2), (3, .int x3)] [] q 4) (x1 : Int32) (x3 : Int32) (s0 : Int32) (h : f9_coverOf_b85 N q bk4 x1 x3 s0 = some r) : J [(0, .ref (ad 0)), (1, .int x1), (3, .int x3)] [.int s0] q 85 := by
  unfold f9_coverOf_b85 at h
  refine r_istore_n hR (i := 2) (lv' := [(2, .int s0), (0, .ref (ad 0)), (1, .int x1), (3, .int x3)]) dX9_coverOf_85 rfl rfl (by decide) rfl ?_
  obtain ⟨x3_86, hx, h⟩ := bn_some h
  refine r_iinc hR (i := 3) (lv' := [(3, .int x3_86), (2, .int s0), (0, .ref (ad 0)), (1, .int x1)]) dX9_coverOf_86 3 rfl (inc_ok hx kc_iconst_1) (by decide) rfl ?_
  refine r_goto hR (tgt := 4) dX9_coverOf_89 (by decide) ?_
  exact r_sub hR [2, 3, 1, 0] rfl (hbk4 _ _ _ h)
theorem t9_coverOf_b84 (hR : Rl wM 2 RX9 cX9_coverOf 6 (some .int) ad J P) (N : Nat) (q : SS) {r : Int32} (hP : P (some (.int r)) q) (bk4 : Int32 → Int32 → Int32 → Option Int32) (hbk4 : ∀ (x1 : Int32) (x2 : Int32) (x3 : Int32), bk4 x1 x2 x3 = some r → J [(0, .ref (ad 0)), (1, .int x1), (2, .int x2), (3, .int x3)] [] q 4) (x1 : Int32) (x2 : Int32) (x3 : Int32) (h : f9_coverOf_b84 N q bk4 x1 x2 x3 = some r) : J [(0, .ref (ad 0)), (1, .int x1), (2, .int x2), (3, .int x3)] [] q 84 := by
  unfold f9_coverOf_b84 at h
  refine r_iload_n hR dX9_coverOf_84 rfl 2 rfl ?_
  exact r_sub hR [0, 1, 3] rfl (t9_coverOf_b85 hR N q hP bk4 hbk4 _ _ _ h)
theorem t9_coverOf_b68 (hR : Rl wM 2 RX9 cX9_coverOf 6 (some .int) ad J P) (N : Nat) (q : SS) {r : Int32} (hP : P (some (.int r)) q) (bk4 : Int32 → Int32 → Int32 → Option Int32) (hbk4 : ∀ (x1 : Int32) (x2 : Int32) (x3 : Int32), bk4 x1 x2 x3 = some r → J [(0, .ref (ad 0)), (1, .int x1), (2, .int x2), (3, .int x3)] [] q 4) (x1 : Int32) (x2 : Int32) (x3 : Int32) (x4 : Int32) (s0 : Int32) (h : f9_coverOf_b68 N q bk4 x1 x2 x3 x4 s0 = some r) : J [(0, .ref (ad 0)), (1, .int x1), (2, .int x2), (3, .int x3), (4, .int x4)] [.int s0] q 68 := by
  unfold f9_coverOf_b68 at h
  refine r_istore hR (i := 5) (lv' := [(5, .int s0), (0, .ref (ad 0)), (1, .int x1), (2, .int x2), (3, .int x3), (4, .int x4)]) dX9_coverOf_68 rfl (by decide) rfl ?_
  refine r_iload hR dX9_coverOf_70 5 rfl ?_
  refine r_if_eq hR (tgt := 84) dX9_coverOf_72 (by decide) (fun c_72 => ?_) (fun c_72 => ?_)
  · replace h := it_t c_72 h
    exact r_sub hR [1, 2, 3, 4] rfl (t9_coverOf_b84 hR N q hP bk4 hbk4 _ _ _ h)
  · replace h := it_f c_72 h
    refine r_iload hR dX9_coverOf_75 0 rfl ?_
    refine r_if_eq hR (tgt := 84) dX9_coverOf_77 (by decide) (fun c_77 => ?_) (fun c_77 => ?_)
    · replace h := it_t c_77 h
      exact r_sub hR [1, 2, 3, 4] rfl (t9_coverOf_b84 hR N q hP bk4 hbk4 _ _ _ h)
    · replace h := it_f c_77 h
      refine r_iload_n hR dX9_coverOf_80 rfl 4 rfl ?_
      refine r_goto hR (tgt := 85) dX9_coverOf_81 (by decide) ?_
      exact r_sub hR [1, 2, 4] rfl (t9_coverOf_b85 hR N q hP bk4 hbk4 _ _ _ h)
theorem t9_coverOf_b63 (hR : Rl wM 2 RX9 cX9_coverOf 6 (some .int) ad J P) (N : Nat) (q : SS) {r : Int32} (hP : P (some (.int r)) q) (bk4 : Int32 → Int32 → Int32 → Option Int32) (hbk4 : ∀ (x1 : Int32) (x2 : Int32) (x3 : Int32), bk4 x1 x2 x3 = some r → J [(0, .ref (ad 0)), (1, .int x1), (2, .int x2), (3, .int x3)] [] q 4) (x1 : Int32) (x2 : Int32) (x3 : Int32) (x4 : Int32) (h : f9_coverOf_b63 N q bk4 x1 x2 x3 x4 = some r) : J [(0, .ref (ad 0)), (1, .int x1), (2, .int x2), (3, .int x3), (4, .int x4)] [] q 63 := by
  unfold f9_coverOf_b63 at h
  refine r_iconst hR dX9_coverOf_63 kc_iconst_1 ?_
  refine r_goto hR (tgt := 68) dX9_coverOf_64 (by decide) ?_
  exact r_sub hR [0, 1, 2, 3, 4] rfl (t9_coverOf_b68 hR N q hP bk4 hbk4 _ _ _ _ _ h)
theorem t9_coverOf_b67 (hR : Rl wM 2 RX9 cX9_coverOf 6 (some .int) ad J P) (N : Nat) (q : SS) {r : Int32} (hP : P (some (.int r)) q) (bk4 : Int32 → Int32 → Int32 → Option Int32) (hbk4 : ∀ (x1 : Int32) (x2 : Int32) (x3 : Int32), bk4 x1 x2 x3 = some r → J [(0, .ref (ad 0)), (1, .int x1), (2, .int x2), (3, .int x3)] [] q 4) (x1 : Int32) (x2 : Int32) (x3 : Int32) (x4 : Int32) (h : f9_coverOf_b67 N q bk4 x1 x2 x3 x4 = some r) : J [(0, .ref (ad 0)), (1, .int x1), (2, .int x2), (3, .int x3), (4, .int x4)] [] q 67 := by
  unfold f9_coverOf_b67 at h
  refine r_iconst hR dX9_coverOf_67 kc_iconst_0 ?_
  exact r_sub hR [0, 1, 2, 3, 4] rfl (t9_coverOf_b68 hR N q hP bk4 hbk4 _ _ _ _ _ h)
theorem t9_coverOf_b34 (hR : Rl wM 2 RX9 cX9_coverOf 6 (some .int) ad J P) (N : Nat) (q : SS) {r : Int32} (hP : P (some (.int r)) q) (bk4 : Int32 → Int32 → Int32 → Option Int32) (hbk4 : ∀ (x1 : Int32) (x2 : Int32) (x3 : Int32), bk4 x1 x2 x3 = some r → J [(0, .ref (ad 0)), (1, .int x1), (2, .int x2), (3, .int x3)] [] q 4) (x1 : Int32) (x2 : Int32) (x3 : Int32) (s0 : Int32) (h : f9_coverOf_b34 N q bk4 x1 x2 x3 s0 = some r) : J [(0, .ref (ad 0)), (1, .int x1), (2, .int x2), (3, .int x3)] [.int s0] q 34 := by
  unfold f9_coverOf_b34 at h
  refine r_istore hR (i := 4) (lv' := [(4, .int s0), (0, .ref (ad 0)), (1, .int x1), (2, .int x2), (3, .int x3)]) dX9_coverOf_34 rfl (by decide) rfl ?_
  refine r_iload_n hR dX9_coverOf_36 rfl 4 rfl ?_
  obtain ⟨r_37, hc, h⟩ := bd_some h
  refine r_callSi hR (c9_bitsOf N hc) (cf_X9_98 (by decide)) m_5_9 (As := [.int x3]) rfl rfl (Nat.le_of_ble_eq_true rfl) rfl dX9_coverOf_37 ?_
  refine r_iload_n hR dX9_coverOf_40 rfl 3 rfl ?_
  obtain ⟨r_41, hc, h⟩ := bd_some h
  refine r_callSi hR (c9_bitsOf N hc) (cf_X9_98 (by decide)) m_5_9 (As := [.int x2]) rfl rfl (Nat.le_of_ble_eq_true rfl) rfl dX9_coverOf_41 ?_
  refine r_icmp_lt hR (tgt := 63) dX9_coverOf_44 (by decide) (fun c_44 => ?_) (fun c_44 => ?_)
  · replace h := it_t c_44 h
    exact r_sub hR [1, 2, 3, 4, 0] rfl (t9_coverOf_b63 hR N q hP bk4 hbk4 _ _ _ _ h)
  · replace h := it_f c_44 h
    refine r_iload_n hR dX9_coverOf_47 rfl 4 rfl ?_
    obtain ⟨r_48, hc, h⟩ := bd_some h
    refine r_callSi hR (c9_bitsOf N hc) (cf_X9_98 (by decide)) m_5_9 (As := [.int x3]) rfl rfl (Nat.le_of_ble_eq_true rfl) rfl dX9_coverOf_48 ?_
    refine r_iload_n hR dX9_coverOf_51 rfl 3 rfl ?_
    obtain ⟨r_52, hc, h⟩ := bd_some h
    refine r_callSi hR (c9_bitsOf N hc) (cf_X9_98 (by decide)) m_5_9 (As := [.int x2]) rfl rfl (Nat.le_of_ble_eq_true rfl) rfl dX9_coverOf_52 ?_
    refine r_icmp_ne hR (tgt := 67) dX9_coverOf_55 (by decide) (fun c_55 => ?_) (fun c_55 => ?_)
    · replace h := it_f c_55 h
      exact r_sub hR [1, 2, 3, 4, 0] rfl (t9_coverOf_b67 hR N q hP bk4 hbk4 _ _ _ _ h)
    · replace h := it_t c_55 h
      refine r_iload_n hR dX9_coverOf_58 rfl 4 rfl ?_
      refine r_iload_n hR dX9_coverOf_59 rfl 3 rfl ?_
      refine r_icmp_ge hR (tgt := 67) dX9_coverOf_60 (by decide) (fun c_60 => ?_) (fun c_60 => ?_)
      · replace h := it_t c_60 h
        exact r_sub hR [1, 2, 3, 4, 0] rfl (t9_coverOf_b67 hR N q hP bk4 hbk4 _ _ _ _ h)
      · replace h := it_f c_60 h
        exact r_sub hR [1, 2, 3, 4, 0] rfl (t9_coverOf_b63 hR N q hP bk4 hbk4 _ _ _ _ h)
theorem t9_coverOf_b33 (hR : Rl wM 2 RX9 cX9_coverOf 6 (some .int) ad J P) (N : Nat) (q : SS) {r : Int32} (hP : P (some (.int r)) q) (bk4 : Int32 → Int32 → Int32 → Option Int32) (hbk4 : ∀ (x1 : Int32) (x2 : Int32) (x3 : Int32), bk4 x1 x2 x3 = some r → J [(0, .ref (ad 0)), (1, .int x1), (2, .int x2), (3, .int x3)] [] q 4) (x1 : Int32) (x2 : Int32) (x3 : Int32) (h : f9_coverOf_b33 N q bk4 x1 x2 x3 = some r) : J [(0, .ref (ad 0)), (1, .int x1), (2, .int x2), (3, .int x3)] [] q 33 := by
  unfold f9_coverOf_b33 at h
  refine r_iconst hR dX9_coverOf_33 kc_iconst_0 ?_
  exact r_sub hR [0, 1, 2, 3] rfl (t9_coverOf_b34 hR N q hP bk4 hbk4 _ _ _ _ h)
theorem t9_coverOf_l4_B (hR : Rl wM 2 RX9 cX9_coverOf 6 (some .int) ad J P) (N : Nat) (q : SS) {r : Int32} (hP : P (some (.int r)) q) (bk4 : Int32 → Int32 → Int32 → Option Int32) (hbk4 : ∀ (x1 : Int32) (x2 : Int32) (x3 : Int32), bk4 x1 x2 x3 = some r → J [(0, .ref (ad 0)), (1, .int x1), (2, .int x2), (3, .int x3)] [] q 4) (x1 : Int32) (x2 : Int32) (x3 : Int32) (h : f9_coverOf_l4_B N q bk4 x1 x2 x3 = some r) : J [(0, .ref (ad 0)), (1, .int x1), (2, .int x2), (3, .int x3)] [] q 4 := by
  unfold f9_coverOf_l4_B at h
  refine r_iload_n hR dX9_coverOf_4 rfl 3 rfl ?_
  refine r_iload_n hR dX9_coverOf_5 rfl 1 rfl ?_
  refine r_icmp_ge hR (tgt := 92) dX9_coverOf_6 (by decide) (fun c_6 => ?_) (fun c_6 => ?_)
  · replace h := it_t c_6 h
    refine r_iload_n hR dX9_coverOf_92 rfl 2 rfl ?_
    exact r_iret hR dX9_coverOf_93 rfl (rt1 hP h)
  · replace h := it_f c_6 h
    refine r_iload_n hR dX9_coverOf_9 rfl 3 rfl ?_
    refine r_iload_n hR dX9_coverOf_10 rfl 1 rfl ?_
    refine r_iand hR dX9_coverOf_11 ?_
    refine r_iload_n hR dX9_coverOf_12 rfl 3 rfl ?_
    refine r_icmp_ne hR (tgt := 33) dX9_coverOf_13 (by decide) (fun c_13 => ?_) (fun c_13 => ?_)
    · replace h := it_f c_13 h
      exact r_sub hR [0, 1, 2, 3] rfl (t9_coverOf_b33 hR N q hP bk4 hbk4 _ _ _ h)
    · replace h := it_t c_13 h
      refine r_aload_n hR dX9_coverOf_16 rfl 0 rfl ?_
      refine r_iload_n hR dX9_coverOf_17 rfl 3 rfl ?_
      obtain ⟨r_18, hc, h⟩ := bd_some h
      refine r_callVi hR (c9_lettersIn N hc) (cf_X9_230 (by decide)) ⟨m_5_208, ms_5_2⟩ (As := [.int x3]) (q0 := 0) (ci := 7) rfl rfl rfl rfl (rc_X9 ad _) (Nat.le_of_ble_eq_true rfl) rfl dX9_coverOf_18 ?_
      refine r_aload_n hR dX9_coverOf_21 rfl 0 rfl ?_
      refine r_iload_n hR dX9_coverOf_22 rfl 1 rfl ?_
      obtain ⟨r_23, hc, h⟩ := bd_some h
      refine r_callVi hR (c9_lettersIn N hc) (cf_X9_230 (by decide)) ⟨m_5_208, ms_5_2⟩ (As := [.int x1]) (q0 := 0) (ci := 7) rfl rfl rfl rfl (rc_X9 ad _) (Nat.le_of_ble_eq_true rfl) rfl dX9_coverOf_23 ?_
      refine r_icmp_ne hR (tgt := 33) dX9_coverOf_26 (by decide) (fun c_26 => ?_) (fun c_26 => ?_)
      · replace h := it_f c_26 h
        exact r_sub hR [0, 1, 2, 3] rfl (t9_coverOf_b33 hR N q hP bk4 hbk4 _ _ _ h)
      · replace h := it_t c_26 h
        refine r_iconst hR dX9_coverOf_29 kc_iconst_1 ?_
        refine r_goto hR (tgt := 34) dX9_coverOf_30 (by decide) ?_
        exact r_sub hR [0, 1, 2, 3] rfl (t9_coverOf_b34 hR N q hP bk4 hbk4 _ _ _ _ h)
theorem t9_coverOf_l4 (hR : Rl wM 2 RX9 cX9_coverOf 6 (some .int) ad J P) (N : Nat) (q : SS) {r : Int32} (hP : P (some (.int r)) q) : ∀ (n : Nat) (x1 : Int32) (x2 : Int32) (x3 : Int32), f9_coverOf_l4 N q n x1 x2 x3 = some r → J [(0, .ref (ad 0)), (1, .int x1), (2, .int x2), (3, .int x3)] [] q 4 := by
  intro n
  induction n with
  | zero => intro x1 x2 x3 h; exact mu_noneF h
  | succ n ih => intro x1 x2 x3 h; exact t9_coverOf_l4_B hR N q hP _ ih x1 x2 x3 h
theorem t9_coverOf (hR : Rl wM 2 RX9 cX9_coverOf 6 (some .int) ad J P) (N : Nat) (q : SS) {r : Int32} (hP : P (some (.int r)) q) (x1 : Int32) (h : f9_coverOf N q x1 = some r) : J [(0, .ref (ad 0)), (1, .int x1)] [] q 0 := by
  unfold f9_coverOf at h
  refine r_iload_n hR dX9_coverOf_0 rfl 1 rfl ?_
  refine r_istore_n hR (i := 2) (lv' := [(2, .int x1), (0, .ref (ad 0)), (1, .int x1)]) dX9_coverOf_1 rfl rfl (by decide) rfl ?_
  refine r_iconst hR dX9_coverOf_2 kc_iconst_1 ?_
  refine r_istore_n hR (i := 3) (lv' := [(3, .int (1 : Int32)), (2, .int x1), (0, .ref (ad 0)), (1, .int x1)]) dX9_coverOf_3 rfl rfl (by decide) rfl ?_
  exact r_sub hR [2, 3, 1, 0] rfl (t9_coverOf_l4 hR N q hP N _ _ _ h)
theorem c9_coverOf (N : Nat) {x1 : Int32} {q : SS} {r : Int32} (h : f9_coverOf N q x1 = some r) : Ct wM 2 yX9_coverOf cX9_coverOf 6 (some .int) (fun ad => [.ref (ad 0), .int x1]) q (fun _ => some (.int r)) q :=
  ct_of (by decide) (fun _ => Nat.le_of_ble_eq_true rfl) (fun ad J hR => t9_coverOf hR N q ⟨rfl, rfl⟩ x1 h)
theorem t9_cover (hR : Rl wM 3 RX9 cX9_cover 2 (some .int) ad J P) (N : Nat) (q : SS) {r : Int32} (hP : P (some (.int r)) q) (x1 : Int32) (h : f9_cover N q x1 = some r) : J [(0, .ref (ad 0)), (1, .int x1)] [] q 0 := by
  unfold f9_cover at h
  refine r_aload_n hR dX9_cover_0 rfl 0 rfl ?_
  refine r_iload_n hR dX9_cover_1 rfl 1 rfl ?_
  obtain ⟨r_2, hc, h⟩ := bd_some h
  refine r_callVi hR (c9_isSet hc) (cf_X9_186 (by decide)) ⟨m_5_94, ms_3_14⟩ (As := [.int x1]) (q0 := 0) (ci := 7) rfl rfl rfl rfl (rc_X9 ad _) (Nat.le_of_ble_eq_true rfl) rfl dX9_cover_2 ?_
  refine r_if_eq hR (tgt := 16) dX9_cover_5 (by decide) (fun c_5 => ?_) (fun c_5 => ?_)
  · replace h := it_t c_5 h
    refine r_bipush hR dX9_cover_16 kc_bipush_m102 ?_
    exact r_iret hR dX9_cover_18 rfl (rt1 hP h)
  · replace h := it_f c_5 h
    refine r_aload_n hR dX9_cover_8 rfl 0 rfl ?_
    refine r_iload_n hR dX9_cover_9 rfl 1 rfl ?_
    obtain ⟨r_10, hc, h⟩ := bd_some h
    refine r_callVi hR (c9_coverOf N hc) (cf_X9_315 (by decide)) ⟨m_6_68, ms_6_1⟩ (As := [.int x1]) (q0 := 0) (ci := 7) rfl rfl rfl rfl (rc_X9 ad _) (Nat.le_of_ble_eq_true rfl) rfl dX9_cover_10 ?_
    refine r_goto hR (tgt := 18) dX9_cover_13 (by decide) ?_
    exact r_iret hR dX9_cover_18 rfl (rt1 hP h)
theorem c9_cover (N : Nat) {x1 : Int32} {q : SS} {r : Int32} (h : f9_cover N q x1 = some r) : Ct wM 3 yX9_cover cX9_cover 2 (some .int) (fun ad => [.ref (ad 0), .int x1]) q (fun _ => some (.int r)) q :=
  ct_of (by decide) (fun _ => Nat.le_of_ble_eq_true rfl) (fun ad J hR => t9_cover hR N q ⟨rfl, rfl⟩ x1 h)
theorem t9_countOf_l43_B (hR : Rl wM 2 RX9 cX9_countOf 4 (some .int) ad J P) (N : Nat) (q : SS) {r : Int32} (hP : P (some (.int r)) q) (bk43 : Int32 → Int32 → Option Int32) (hbk43 : ∀ (x2 : Int32) (x3 : Int32), bk43 x2 x3 = some r → J [(0, .ref (ad 0)), (2, .int x2), (3, .int x3)] [] q 43) (x2 : Int32) (x3 : Int32) (h : f9_countOf_l43_B N q bk43 x2 x3 = some r) : J [(0, .ref (ad 0)), (2, .int x2), (3, .int x3)] [] q 43 := by
  unfold f9_countOf_l43_B at h
  refine r_iload_n hR dX9_countOf_43 rfl 2 rfl ?_
  refine r_aload_n hR dX9_countOf_44 rfl 0 rfl ?_
  refine g_X9_tables hR m_4_119 dX9_countOf_45 ?_
  refine r_icmp_ge hR (tgt := 66) dX9_countOf_48 (by decide) (fun c_48 => ?_) (fun c_48 => ?_)
  · replace h := it_t c_48 h
    refine r_iload_n hR dX9_countOf_66 rfl 1 rfl ?_
    exact r_iret hR dX9_countOf_67 rfl (rt1 hP h)
  · replace h := it_f c_48 h
    refine r_iload_n hR dX9_countOf_51 rfl 1 rfl ?_
    refine r_aload_n hR dX9_countOf_52 rfl 0 rfl ?_
    refine g_X9_rows hR m_4_122 dX9_countOf_53 ?_
    refine r_iload_n hR dX9_countOf_56 rfl 2 rfl ?_
    obtain ⟨hin, h⟩ := ck_some h
    refine ld_X9_rows hR dX9_countOf_57 hin ?_
    refine r_iadd hR dX9_countOf_58 ?_
    obtain ⟨x2_59, hx, h⟩ := bn_some h
    refine r_istore_n hR (i := 2) (lv' := [(2, .int x2_59), (0, .ref (ad 0)), (3, .int x3)]) dX9_countOf_59 hx rfl (by decide) rfl ?_
    obtain ⟨x3_60, hx, h⟩ := bn_some h
    refine r_iinc hR (i := 3) (lv' := [(3, .int x3_60), (2, .int x2_59), (0, .ref (ad 0))]) dX9_countOf_60 2 rfl (inc_ok hx kc_iconst_1) (by decide) rfl ?_
    refine r_goto hR (tgt := 43) dX9_countOf_63 (by decide) ?_
    exact r_sub hR [2, 1, 0] rfl (hbk43 _ _ h)
theorem t9_countOf_l43 (hR : Rl wM 2 RX9 cX9_countOf 4 (some .int) ad J P) (N : Nat) (q : SS) {r : Int32} (hP : P (some (.int r)) q) : ∀ (n : Nat) (x2 : Int32) (x3 : Int32), f9_countOf_l43 N q n x2 x3 = some r → J [(0, .ref (ad 0)), (2, .int x2), (3, .int x3)] [] q 43 := by
  intro n
  induction n with
  | zero => intro x2 x3 h; exact mu_noneF h
  | succ n ih => intro x2 x3 h; exact t9_countOf_l43_B hR N q hP _ ih x2 x3 h
theorem t9_countOf (hR : Rl wM 2 RX9 cX9_countOf 4 (some .int) ad J P) (N : Nat) (q : SS) {r : Int32} (hP : P (some (.int r)) q) (x1 : Int32) (h : f9_countOf N q x1 = some r) : J [(0, .ref (ad 0)), (1, .int x1)] [] q 0 := by
  unfold f9_countOf at h
  refine r_iconst hR dX9_countOf_0 kc_iconst_0 ?_
  refine r_istore_n hR (i := 2) (lv' := [(2, .int (0 : Int32)), (0, .ref (ad 0)), (1, .int x1)]) dX9_countOf_1 rfl rfl (by decide) rfl ?_
  refine r_iload_n hR dX9_countOf_2 rfl 2 rfl ?_
  by_cases c_3_0 : x1 = (0 : Int32)
  · replace h := it_t c_3_0 h
    refine r_tableIn hR (off := 33) (tgt := 36) dX9_countOf_3 (by rw [c_3_0]; decide) (by rw [c_3_0]; decide) (by rw [c_3_0]; decide) (by decide) ?_
    refine r_aload_n hR dX9_countOf_36 rfl 1 rfl ?_
    refine g_X9_tables hR m_4_119 dX9_countOf_37 ?_
    exact r_iret hR dX9_countOf_40 rfl (rt1 hP h)
  · replace h := it_f c_3_0 h
    by_cases c_3_1 : x1 = (1 : Int32)
    · replace h := it_t c_3_1 h
      refine r_tableIn hR (off := 38) (tgt := 41) dX9_countOf_3 (by rw [c_3_1]; decide) (by rw [c_3_1]; decide) (by rw [c_3_1]; decide) (by decide) ?_
      refine r_iconst hR dX9_countOf_41 kc_iconst_0 ?_
      refine r_istore_n hR (i := 3) (lv' := [(3, .int (0 : Int32)), (2, .int (0 : Int32)), (0, .ref (ad 0)), (1, .int x1)]) dX9_countOf_42 rfl rfl (by decide) rfl ?_
      exact r_sub hR [2, 1, 0] rfl (t9_countOf_l43 hR N q hP N _ _ h)
    · replace h := it_f c_3_1 h
      by_cases c_3_2 : x1 = (2 : Int32)
      · replace h := it_t c_3_2 h
        refine r_tableIn hR (off := 65) (tgt := 68) dX9_countOf_3 (by rw [c_3_2]; decide) (by rw [c_3_2]; decide) (by rw [c_3_2]; decide) (by decide) ?_
        refine r_aload_n hR dX9_countOf_68 rfl 1 rfl ?_
        refine g_X9_pageMany hR m_4_135 dX9_countOf_69 ?_
        exact r_iret hR dX9_countOf_72 rfl (rt1 hP h)
      · replace h := it_f c_3_2 h
        by_cases c_3_3 : x1 = (3 : Int32)
        · replace h := it_t c_3_3 h
          refine r_tableIn hR (off := 70) (tgt := 73) dX9_countOf_3 (by rw [c_3_3]; decide) (by rw [c_3_3]; decide) (by rw [c_3_3]; decide) (by decide) ?_
          refine r_aload_n hR dX9_countOf_73 rfl 1 rfl ?_
          refine r_iconst hR dX9_countOf_74 kc_iconst_1 ?_
          refine r_aload_n hR dX9_countOf_75 rfl 1 rfl ?_
          refine g_X9_tables hR m_4_119 dX9_countOf_76 ?_
          refine r_ishl hR dX9_countOf_79 ?_
          refine r_iconst hR dX9_countOf_80 kc_iconst_1 ?_
          refine r_isub hR dX9_countOf_81 ?_
          obtain ⟨r_82, hc, h⟩ := bd_some h
          refine r_callVi hR (c9_lettersIn N hc) (cf_X9_230 (by decide)) ⟨m_5_208, ms_5_2⟩ (As := [.int ((jshl (1 : Int32) (fi q 0)) - (1 : Int32))]) (q0 := 0) (ci := 7) rfl rfl rfl rfl (rc_X9 ad _) (Nat.le_of_ble_eq_true rfl) rfl dX9_countOf_82 ?_
          obtain ⟨r_85, hc, h⟩ := bd_some h
          refine r_callSi hR (c9_bitsOf N hc) (cf_X9_98 (by decide)) m_5_9 (As := [.int r_82]) rfl rfl (Nat.le_of_ble_eq_true rfl) rfl dX9_countOf_85 ?_
          exact r_iret hR dX9_countOf_88 rfl (rt1 hP h)
        · replace h := it_f c_3_3 h
          by_cases c_3_4 : x1 = (4 : Int32)
          · replace h := it_t c_3_4 h
            refine r_tableIn hR (off := 86) (tgt := 89) dX9_countOf_3 (by rw [c_3_4]; decide) (by rw [c_3_4]; decide) (by rw [c_3_4]; decide) (by decide) ?_
            refine r_aload_n hR dX9_countOf_89 rfl 1 rfl ?_
            refine g_X9_doneMany hR m_4_148 dX9_countOf_90 ?_
            exact r_iret hR dX9_countOf_93 rfl (rt1 hP h)
          · replace h := it_f c_3_4 h
            have n_0 : ¬ (x1).toInt = 0 := lv_neT c_3_0 (by decide)
            have n_1 : ¬ (x1).toInt = 1 := lv_neT c_3_1 (by decide)
            have n_2 : ¬ (x1).toInt = 2 := lv_neT c_3_2 (by decide)
            have n_3 : ¬ (x1).toInt = 3 := lv_neT c_3_3 (by decide)
            have n_4 : ¬ (x1).toInt = 4 := lv_neT c_3_4 (by decide)
            refine r_tableOut hR (tgt := 94) dX9_countOf_3 (by omega) (by decide) ?_
            refine r_bipush hR dX9_countOf_94 kc_bipush_m102 ?_
            exact r_iret hR dX9_countOf_96 rfl (rt1 hP h)
theorem c9_countOf (N : Nat) {x1 : Int32} {q : SS} {r : Int32} (h : f9_countOf N q x1 = some r) : Ct wM 2 yX9_countOf cX9_countOf 4 (some .int) (fun ad => [.ref (ad 0), .int x1]) q (fun _ => some (.int r)) q :=
  ct_of (by decide) (fun _ => Nat.le_of_ble_eq_true rfl) (fun ad J hR => t9_countOf hR N q ⟨rfl, rfl⟩ x1 h)
theorem t9_count (hR : Rl wM 3 RX9 cX9_count 2 (some .int) ad J P) (N : Nat) (q : SS) {r : Int32} (hP : P (some (.int r)) q) (x1 : Int32) (h : f9_count N q x1 = some r) : J [(0, .ref (ad 0)), (1, .int x1)] [] q 0 := by
  unfold f9_count at h
  refine r_aload_n hR dX9_count_0 rfl 0 rfl ?_
  refine r_iload_n hR dX9_count_1 rfl 1 rfl ?_
  obtain ⟨r_2, hc, h⟩ := bd_some h
  refine r_callVi hR (c9_countOf N hc) (cf_X9_318 (by decide)) ⟨m_6_76, ms_6_2⟩ (As := [.int x1]) (q0 := 0) (ci := 7) rfl rfl rfl rfl (rc_X9 ad _) (Nat.le_of_ble_eq_true rfl) rfl dX9_count_2 ?_
  exact r_iret hR dX9_count_5 rfl (rt1 hP h)
theorem c9_count (N : Nat) {x1 : Int32} {q : SS} {r : Int32} (h : f9_count N q x1 = some r) : Ct wM 3 yX9_count cX9_count 2 (some .int) (fun ad => [.ref (ad 0), .int x1]) q (fun _ => some (.int r)) q :=
  ct_of (by decide) (fun _ => Nat.le_of_ble_eq_true rfl) (fun ad J hR => t9_count hR N q ⟨rfl, rfl⟩ x1 h)
theorem t9_digest_l258_B (hR : Rl wM 7 RX9 cX9_digest 6 (some .long) ad J P) (N : Nat) {r : Int64} {q2 : SS} (hP : P (some (.long r)) q2) (bk258 : Int64 → Int32 → SS → Option (Int64 × SS)) (hbk258 : ∀ (x1 : Int64) (x3 : Int32) (q : SS), bk258 x1 x3 q = some (r, q2) → J [(0, .ref (ad 0)), (1, .long x1), (3, .int x3)] [] q 258) (x1 : Int64) (x3 : Int32) (q : SS) (h : f9_digest_l258_B N bk258 x1 x3 q = some (r, q2)) : J [(0, .ref (ad 0)), (1, .long x1), (3, .int x3)] [] q 258 := by
  unfold f9_digest_l258_B at h
  refine r_iload_n hR dX9_digest_258 rfl 2 rfl ?_
  refine r_iconst hR dX9_digest_259 kc_iconst_5 ?_
  refine r_icmp_ge hR (tgt := 282) dX9_digest_260 (by decide) (fun c_260 => ?_) (fun c_260 => ?_)
  · replace h := it_t c_260 h
    refine r_lload_n hR dX9_digest_282 rfl 1 rfl ?_
    exact r_lret hR dX9_digest_283 rfl (rt2l hP h)
  · replace h := it_f c_260 h
    refine r_ldc2 hR dX9_digest_263 m_6_83 ?_
    refine r_lload_n hR dX9_digest_266 rfl 1 rfl ?_
    refine r_lmul hR dX9_digest_267 ?_
    refine r_aload_n hR dX9_digest_268 rfl 0 rfl ?_
    refine r_iload_n hR dX9_digest_269 rfl 2 rfl ?_
    obtain ⟨r_270, hc, h⟩ := bd_some h
    refine r_callVi hR (c9_countOf N hc) (cf_X9_318 (by decide)) ⟨m_6_76, ms_6_2⟩ (As := [.int x3]) (q0 := 0) (ci := 7) rfl rfl rfl rfl (rc_X9 ad _) (Nat.le_of_ble_eq_true rfl) rfl dX9_digest_270 ?_
    refine r_i2l hR dX9_digest_273 ?_
    refine r_ladd hR dX9_digest_274 ?_
    obtain ⟨x1_275, hx, h⟩ := bn_some h
    refine r_lstore_n hR (i := 1) (lv' := [(1, .long x1_275), (0, .ref (ad 0)), (3, .int x3)]) dX9_digest_275 hx rfl (by decide) rfl ?_
    obtain ⟨x3_276, hx, h⟩ := bn_some h
    refine r_iinc hR (i := 3) (lv' := [(3, .int x3_276), (1, .long x1_275), (0, .ref (ad 0))]) dX9_digest_276 2 rfl (inc_ok hx kc_iconst_1) (by decide) rfl ?_
    refine r_goto hR (tgt := 258) dX9_digest_279 (by decide) ?_
    exact r_sub hR [2, 1, 0] rfl (hbk258 _ _ _ h)
theorem t9_digest_l258 (hR : Rl wM 7 RX9 cX9_digest 6 (some .long) ad J P) (N : Nat) {r : Int64} {q2 : SS} (hP : P (some (.long r)) q2) : ∀ (n : Nat) (x1 : Int64) (x3 : Int32) (q : SS), f9_digest_l258 N n x1 x3 q = some (r, q2) → J [(0, .ref (ad 0)), (1, .long x1), (3, .int x3)] [] q 258 := by
  intro n
  induction n with
  | zero => intro x1 x3 q h; exact mu_noneF h
  | succ n ih => intro x1 x3 q h; exact t9_digest_l258_B hR N hP _ ih x1 x3 q h
theorem t9_digest_l228_B (hR : Rl wM 7 RX9 cX9_digest 6 (some .long) ad J P) (N : Nat) {r : Int64} {q2 : SS} (hP : P (some (.long r)) q2) (bk228 : Int64 → Int32 → SS → Option (Int64 × SS)) (hbk228 : ∀ (x1 : Int64) (x3 : Int32) (q : SS), bk228 x1 x3 q = some (r, q2) → J [(0, .ref (ad 0)), (1, .long x1), (3, .int x3)] [] q 228) (x1 : Int64) (x3 : Int32) (q : SS) (h : f9_digest_l228_B N bk228 x1 x3 q = some (r, q2)) : J [(0, .ref (ad 0)), (1, .long x1), (3, .int x3)] [] q 228 := by
  unfold f9_digest_l228_B at h
  refine r_iload_n hR dX9_digest_228 rfl 2 rfl ?_
  refine r_aload_n hR dX9_digest_229 rfl 0 rfl ?_
  refine g_X9_pageMany hR m_4_135 dX9_digest_230 ?_
  refine r_icmp_ge hR (tgt := 256) dX9_digest_233 (by decide) (fun c_233 => ?_) (fun c_233 => ?_)
  · replace h := it_t c_233 h
    refine r_iconst hR dX9_digest_256 kc_iconst_0 ?_
    refine r_istore_n hR (i := 3) (lv' := [(3, .int (0 : Int32)), (0, .ref (ad 0)), (1, .long x1)]) dX9_digest_257 rfl rfl (by decide) rfl ?_
    exact r_sub hR [1, 2, 0] rfl (t9_digest_l258 hR N hP N _ _ _ h)
  · replace h := it_f c_233 h
    refine r_ldc2 hR dX9_digest_236 m_6_83 ?_
    refine r_lload_n hR dX9_digest_239 rfl 1 rfl ?_
    refine r_lmul hR dX9_digest_240 ?_
    refine r_aload_n hR dX9_digest_241 rfl 0 rfl ?_
    refine g_X9_page hR m_4_134 dX9_digest_242 ?_
    refine r_iload_n hR dX9_digest_245 rfl 2 rfl ?_
    obtain ⟨hin, h⟩ := ck_some h
    refine ld_X9_page hR dX9_digest_246 hin ?_
    refine r_i2l hR dX9_digest_247 ?_
    refine r_ladd hR dX9_digest_248 ?_
    obtain ⟨x1_249, hx, h⟩ := bn_some h
    refine r_lstore_n hR (i := 1) (lv' := [(1, .long x1_249), (0, .ref (ad 0)), (3, .int x3)]) dX9_digest_249 hx rfl (by decide) rfl ?_
    obtain ⟨x3_250, hx, h⟩ := bn_some h
    refine r_iinc hR (i := 3) (lv' := [(3, .int x3_250), (1, .long x1_249), (0, .ref (ad 0))]) dX9_digest_250 2 rfl (inc_ok hx kc_iconst_1) (by decide) rfl ?_
    refine r_goto hR (tgt := 228) dX9_digest_253 (by decide) ?_
    exact r_sub hR [2, 1, 0] rfl (hbk228 _ _ _ h)
theorem t9_digest_l228 (hR : Rl wM 7 RX9 cX9_digest 6 (some .long) ad J P) (N : Nat) {r : Int64} {q2 : SS} (hP : P (some (.long r)) q2) : ∀ (n : Nat) (x1 : Int64) (x3 : Int32) (q : SS), f9_digest_l228 N n x1 x3 q = some (r, q2) → J [(0, .ref (ad 0)), (1, .long x1), (3, .int x3)] [] q 228 := by
  intro n
  induction n with
  | zero => intro x1 x3 q h; exact mu_noneF h
  | succ n ih => intro x1 x3 q h; exact t9_digest_l228_B hR N hP _ ih x1 x3 q h
theorem t9_digest_b226 (hR : Rl wM 7 RX9 cX9_digest 6 (some .long) ad J P) (N : Nat) {r : Int64} {q2 : SS} (hP : P (some (.long r)) q2) (x1 : Int64) (q : SS) (h : f9_digest_b226 N x1 q = some (r, q2)) : J [(0, .ref (ad 0)), (1, .long x1)] [] q 226 := by
  unfold f9_digest_b226 at h
  refine r_iconst hR dX9_digest_226 kc_iconst_0 ?_
  refine r_istore_n hR (i := 3) (lv' := [(3, .int (0 : Int32)), (0, .ref (ad 0)), (1, .long x1)]) dX9_digest_227 rfl rfl (by decide) rfl ?_
  exact r_sub hR [1, 2, 0] rfl (t9_digest_l228 hR N hP N _ _ _ h)
theorem t9_digest_b210 (hR : Rl wM 7 RX9 cX9_digest 6 (some .long) ad J P) (N : Nat) {r : Int64} {q2 : SS} (hP : P (some (.long r)) q2) (x3 : Int32) (s0 : Int32) (s1 : Int64) (q : SS) (h : f9_digest_b210 N x3 s0 s1 q = some (r, q2)) : J [(0, .ref (ad 0)), (3, .int x3)] [.int s0, .long s1] q 210 := by
  unfold f9_digest_b210 at h
  refine r_i2l hR dX9_digest_210 ?_
  refine r_ladd hR dX9_digest_211 ?_
  obtain ⟨x1_212, hx, h⟩ := bn_some h
  refine r_lstore_n hR (i := 1) (lv' := [(1, .long x1_212), (0, .ref (ad 0)), (3, .int x3)]) dX9_digest_212 hx rfl (by decide) rfl ?_
  refine r_ldc2 hR dX9_digest_213 m_6_83 ?_
  refine r_lload_n hR dX9_digest_216 rfl 0 rfl ?_
  refine r_lmul hR dX9_digest_217 ?_
  refine r_aload_n hR dX9_digest_218 rfl 1 rfl ?_
  refine r_iload_n hR dX9_digest_219 rfl 2 rfl ?_
  obtain ⟨r_220, hc, h⟩ := bd_some h
  refine r_callVi hR (c9_coverOf N hc) (cf_X9_315 (by decide)) ⟨m_6_68, ms_6_1⟩ (As := [.int x3]) (q0 := 0) (ci := 7) rfl rfl rfl rfl (rc_X9 ad _) (Nat.le_of_ble_eq_true rfl) rfl dX9_digest_220 ?_
  refine r_i2l hR dX9_digest_223 ?_
  refine r_ladd hR dX9_digest_224 ?_
  obtain ⟨x1_225, hx, h⟩ := bn_some h
  refine r_lstore_n hR (i := 1) (lv' := [(1, .long x1_225), (0, .ref (ad 0)), (3, .int x3)]) dX9_digest_225 hx rfl (by decide) rfl ?_
  exact r_sub hR [1, 0] rfl (t9_digest_b226 hR N hP _ _ h)
theorem t9_digest_b107 (hR : Rl wM 7 RX9 cX9_digest 6 (some .long) ad J P) (N : Nat) {r : Int64} {q2 : SS} (hP : P (some (.long r)) q2) (bk6 : Int64 → Int32 → SS → Option (Int64 × SS)) (hbk6 : ∀ (x1 : Int64) (x3 : Int32) (q : SS), bk6 x1 x3 q = some (r, q2) → J [(0, .ref (ad 0)), (1, .long x1), (3, .int x3)] [] q 6) (bk47 : Int64 → Int32 → Int32 → SS → Option (Int64 × SS)) (hbk47 : ∀ (x1 : Int64) (x3 : Int32) (x4 : Int32) (q : SS), bk47 x1 x3 x4 q = some (r, q2) → J [(0, .ref (ad 0)), (1, .long x1), (3, .int x3), (4, .int x4)] [] q 47) (bk61 : Int64 → Int32 → Int32 → Int32 → SS → Option (Int64 × SS)) (hbk61 : ∀ (x1 : Int64) (x3 : Int32) (x4 : Int32) (x5 : Int32) (q : SS), bk61 x1 x3 x4 x5 q = some (r, q2) → J [(0, .ref (ad 0)), (1, .long x1), (3, .int x3), (4, .int x4), (5, .int x5)] [] q 61) (x3 : Int32) (x4 : Int32) (x5 : Int32) (s0 : Int64) (q : SS) (h : f9_digest_b107 N bk6 bk47 bk61 x3 x4 x5 s0 q = some (r, q2)) : J [(0, .ref (ad 0)), (3, .int x3), (4, .int x4), (5, .int x5)] [.long s0] q 107 := by
  unfold f9_digest_b107 at h
  refine r_lstore_n hR (i := 1) (lv' := [(1, .long s0), (0, .ref (ad 0)), (3, .int x3), (4, .int x4), (5, .int x5)]) dX9_digest_107 rfl rfl (by decide) rfl ?_
  obtain ⟨x5_108, hx, h⟩ := bn_some h
  refine r_iinc hR (i := 5) (lv' := [(5, .int x5_108), (1, .long s0), (0, .ref (ad 0)), (3, .int x3), (4, .int x4)]) dX9_digest_108 4 rfl (inc_ok hx kc_iconst_1) (by decide) rfl ?_
  refine r_goto hR (tgt := 61) dX9_digest_111 (by decide) ?_
  exact r_sub hR [2, 1, 3, 4, 0] rfl (hbk61 _ _ _ _ _ h)
theorem t9_digest_l61_B (hR : Rl wM 7 RX9 cX9_digest 6 (some .long) ad J P) (N : Nat) {r : Int64} {q2 : SS} (hP : P (some (.long r)) q2) (bk6 : Int64 → Int32 → SS → Option (Int64 × SS)) (hbk6 : ∀ (x1 : Int64) (x3 : Int32) (q : SS), bk6 x1 x3 q = some (r, q2) → J [(0, .ref (ad 0)), (1, .long x1), (3, .int x3)] [] q 6) (bk47 : Int64 → Int32 → Int32 → SS → Option (Int64 × SS)) (hbk47 : ∀ (x1 : Int64) (x3 : Int32) (x4 : Int32) (q : SS), bk47 x1 x3 x4 q = some (r, q2) → J [(0, .ref (ad 0)), (1, .long x1), (3, .int x3), (4, .int x4)] [] q 47) (bk61 : Int64 → Int32 → Int32 → Int32 → SS → Option (Int64 × SS)) (hbk61 : ∀ (x1 : Int64) (x3 : Int32) (x4 : Int32) (x5 : Int32) (q : SS), bk61 x1 x3 x4 x5 q = some (r, q2) → J [(0, .ref (ad 0)), (1, .long x1), (3, .int x3), (4, .int x4), (5, .int x5)] [] q 61) (x1 : Int64) (x3 : Int32) (x4 : Int32) (x5 : Int32) (q : SS) (h : f9_digest_l61_B N bk6 bk47 bk61 x1 x3 x4 x5 q = some (r, q2)) : J [(0, .ref (ad 0)), (1, .long x1), (3, .int x3), (4, .int x4), (5, .int x5)] [] q 61 := by
  unfold f9_digest_l61_B at h
  refine r_iload hR dX9_digest_61 4 rfl ?_
  refine r_bipush hR dX9_digest_63 kc_bipush_8 ?_
  refine r_icmp_ge hR (tgt := 114) dX9_digest_65 (by decide) (fun c_65 => ?_) (fun c_65 => ?_)
  · replace h := it_t c_65 h
    obtain ⟨x4_114, hx, h⟩ := bn_some h
    refine r_iinc hR (i := 4) (lv' := [(4, .int x4_114), (0, .ref (ad 0)), (1, .long x1), (3, .int x3), (5, .int x5)]) dX9_digest_114 3 rfl (inc_ok hx kc_iconst_1) (by decide) rfl ?_
    refine r_goto hR (tgt := 47) dX9_digest_117 (by decide) ?_
    exact r_sub hR [1, 2, 3, 0] rfl (hbk47 _ _ _ _ h)
  · replace h := it_f c_65 h
    refine r_aload_n hR dX9_digest_68 rfl 0 rfl ?_
    refine r_iload_n hR dX9_digest_69 rfl 2 rfl ?_
    refine r_iload hR dX9_digest_70 4 rfl ?_
    obtain ⟨r_72, hc, h⟩ := bd_some h
    refine r_callVi hR (c9_has hc) (cf_X9_108 (by decide)) ⟨m_5_31, ms_3_9⟩ (As := [.int x3, .int x5]) (q0 := 0) (ci := 7) rfl rfl rfl rfl (rc_X9 ad _) (Nat.le_of_ble_eq_true rfl) rfl dX9_digest_72 ?_
    refine r_if_eq hR (tgt := 106) dX9_digest_75 (by decide) (fun c_75 => ?_) (fun c_75 => ?_)
    · replace h := it_t c_75 h
      refine r_lload_n hR dX9_digest_106 rfl 1 rfl ?_
      exact r_sub hR [0, 2, 3, 4] rfl (t9_digest_b107 hR N hP bk6 hbk6 bk47 hbk47 bk61 hbk61 _ _ _ _ _ h)
    · replace h := it_f c_75 h
      refine r_ldc2 hR dX9_digest_78 m_6_83 ?_
      refine r_lload_n hR dX9_digest_81 rfl 1 rfl ?_
      refine r_lmul hR dX9_digest_82 ?_
      refine r_aload_n hR dX9_digest_83 rfl 0 rfl ?_
      refine g_X9_numbers hR m_4_123 dX9_digest_84 ?_
      refine r_bipush hR dX9_digest_87 kc_bipush_64 ?_
      refine r_iload_n hR dX9_digest_89 rfl 2 rfl ?_
      refine r_imul hR dX9_digest_90 ?_
      refine r_bipush hR dX9_digest_91 kc_bipush_8 ?_
      refine r_iload hR dX9_digest_93 3 rfl ?_
      refine r_imul hR dX9_digest_95 ?_
      refine r_iadd hR dX9_digest_96 ?_
      refine r_iload hR dX9_digest_97 4 rfl ?_
      refine r_iadd hR dX9_digest_99 ?_
      obtain ⟨hin, h⟩ := ck_some h
      refine ld_X9_numbers hR dX9_digest_100 hin ?_
      refine r_i2l hR dX9_digest_101 ?_
      refine r_ladd hR dX9_digest_102 ?_
      refine r_goto hR (tgt := 107) dX9_digest_103 (by decide) ?_
      exact r_sub hR [0, 2, 3, 4] rfl (t9_digest_b107 hR N hP bk6 hbk6 bk47 hbk47 bk61 hbk61 _ _ _ _ _ h)
theorem t9_digest_l61 (hR : Rl wM 7 RX9 cX9_digest 6 (some .long) ad J P) (N : Nat) {r : Int64} {q2 : SS} (hP : P (some (.long r)) q2) (bk6 : Int64 → Int32 → SS → Option (Int64 × SS)) (hbk6 : ∀ (x1 : Int64) (x3 : Int32) (q : SS), bk6 x1 x3 q = some (r, q2) → J [(0, .ref (ad 0)), (1, .long x1), (3, .int x3)] [] q 6) (bk47 : Int64 → Int32 → Int32 → SS → Option (Int64 × SS)) (hbk47 : ∀ (x1 : Int64) (x3 : Int32) (x4 : Int32) (q : SS), bk47 x1 x3 x4 q = some (r, q2) → J [(0, .ref (ad 0)), (1, .long x1), (3, .int x3), (4, .int x4)] [] q 47) : ∀ (n : Nat) (x1 : Int64) (x3 : Int32) (x4 : Int32) (x5 : Int32) (q : SS), f9_digest_l61 N bk6 bk47 n x1 x3 x4 x5 q = some (r, q2) → J [(0, .ref (ad 0)), (1, .long x1), (3, .int x3), (4, .int x4), (5, .int x5)] [] q 61 := by
  intro n
  induction n with
  | zero => intro x1 x3 x4 x5 q h; exact mu_noneF h
  | succ n ih => intro x1 x3 x4 x5 q h; exact t9_digest_l61_B hR N hP bk6 hbk6 bk47 hbk47 _ ih x1 x3 x4 x5 q h
theorem t9_digest_l47_B (hR : Rl wM 7 RX9 cX9_digest 6 (some .long) ad J P) (N : Nat) {r : Int64} {q2 : SS} (hP : P (some (.long r)) q2) (bk6 : Int64 → Int32 → SS → Option (Int64 × SS)) (hbk6 : ∀ (x1 : Int64) (x3 : Int32) (q : SS), bk6 x1 x3 q = some (r, q2) → J [(0, .ref (ad 0)), (1, .long x1), (3, .int x3)] [] q 6) (bk47 : Int64 → Int32 → Int32 → SS → Option (Int64 × SS)) (hbk47 : ∀ (x1 : Int64) (x3 : Int32) (x4 : Int32) (q : SS), bk47 x1 x3 x4 q = some (r, q2) → J [(0, .ref (ad 0)), (1, .long x1), (3, .int x3), (4, .int x4)] [] q 47) (x1 : Int64) (x3 : Int32) (x4 : Int32) (q : SS) (h : f9_digest_l47_B N bk6 bk47 x1 x3 x4 q = some (r, q2)) : J [(0, .ref (ad 0)), (1, .long x1), (3, .int x3), (4, .int x4)] [] q 47 := by
  unfold f9_digest_l47_B at h
  refine r_iload hR dX9_digest_47 3 rfl ?_
  refine r_aload_n hR dX9_digest_49 rfl 0 rfl ?_
  refine g_X9_rows hR m_4_122 dX9_digest_50 ?_
  refine r_iload_n hR dX9_digest_53 rfl 2 rfl ?_
  obtain ⟨hin, h⟩ := ck_some h
  refine ld_X9_rows hR dX9_digest_54 hin ?_
  refine r_icmp_ge hR (tgt := 120) dX9_digest_55 (by decide) (fun c_55 => ?_) (fun c_55 => ?_)
  · replace h := it_t c_55 h
    obtain ⟨x3_120, hx, h⟩ := bn_some h
    refine r_iinc hR (i := 3) (lv' := [(3, .int x3_120), (0, .ref (ad 0)), (1, .long x1), (4, .int x4)]) dX9_digest_120 2 rfl (inc_ok hx kc_iconst_1) (by decide) rfl ?_
    refine r_goto hR (tgt := 6) dX9_digest_123 (by decide) ?_
    exact r_sub hR [1, 2, 0] rfl (hbk6 _ _ _ h)
  · replace h := it_f c_55 h
    refine r_iconst hR dX9_digest_58 kc_iconst_0 ?_
    refine r_istore hR (i := 5) (lv' := [(5, .int (0 : Int32)), (0, .ref (ad 0)), (1, .long x1), (3, .int x3), (4, .int x4)]) dX9_digest_59 rfl (by decide) rfl ?_
    exact r_sub hR [1, 2, 3, 4, 0] rfl (t9_digest_l61 hR N hP bk6 hbk6 bk47 hbk47 N _ _ _ _ _ h)
theorem t9_digest_l47 (hR : Rl wM 7 RX9 cX9_digest 6 (some .long) ad J P) (N : Nat) {r : Int64} {q2 : SS} (hP : P (some (.long r)) q2) (bk6 : Int64 → Int32 → SS → Option (Int64 × SS)) (hbk6 : ∀ (x1 : Int64) (x3 : Int32) (q : SS), bk6 x1 x3 q = some (r, q2) → J [(0, .ref (ad 0)), (1, .long x1), (3, .int x3)] [] q 6) : ∀ (n : Nat) (x1 : Int64) (x3 : Int32) (x4 : Int32) (q : SS), f9_digest_l47 N bk6 n x1 x3 x4 q = some (r, q2) → J [(0, .ref (ad 0)), (1, .long x1), (3, .int x3), (4, .int x4)] [] q 47 := by
  intro n
  induction n with
  | zero => intro x1 x3 x4 q h; exact mu_noneF h
  | succ n ih => intro x1 x3 x4 q h; exact t9_digest_l47_B hR N hP bk6 hbk6 _ ih x1 x3 x4 q h
theorem t9_digest_l17_B (hR : Rl wM 7 RX9 cX9_digest 6 (some .long) ad J P) (N : Nat) {r : Int64} {q2 : SS} (hP : P (some (.long r)) q2) (bk6 : Int64 → Int32 → SS → Option (Int64 × SS)) (hbk6 : ∀ (x1 : Int64) (x3 : Int32) (q : SS), bk6 x1 x3 q = some (r, q2) → J [(0, .ref (ad 0)), (1, .long x1), (3, .int x3)] [] q 6) (bk17 : Int64 → Int32 → Int32 → SS → Option (Int64 × SS)) (hbk17 : ∀ (x1 : Int64) (x3 : Int32) (x4 : Int32) (q : SS), bk17 x1 x3 x4 q = some (r, q2) → J [(0, .ref (ad 0)), (1, .long x1), (3, .int x3), (4, .int x4)] [] q 17) (x1 : Int64) (x3 : Int32) (x4 : Int32) (q : SS) (h : f9_digest_l17_B N bk6 bk17 x1 x3 x4 q = some (r, q2)) : J [(0, .ref (ad 0)), (1, .long x1), (3, .int x3), (4, .int x4)] [] q 17 := by
  unfold f9_digest_l17_B at h
  refine r_iload hR dX9_digest_17 3 rfl ?_
  refine r_iconst hR dX9_digest_19 kc_iconst_5 ?_
  refine r_icmp_ge hR (tgt := 44) dX9_digest_20 (by decide) (fun c_20 => ?_) (fun c_20 => ?_)
  · replace h := it_t c_20 h
    refine r_iconst hR dX9_digest_44 kc_iconst_0 ?_
    refine r_istore hR (i := 4) (lv' := [(4, .int (0 : Int32)), (0, .ref (ad 0)), (1, .long x1), (3, .int x3)]) dX9_digest_45 rfl (by decide) rfl ?_
    exact r_sub hR [1, 2, 3, 0] rfl (t9_digest_l47 hR N hP bk6 hbk6 N _ _ _ _ h)
  · replace h := it_f c_20 h
    refine r_ldc2 hR dX9_digest_23 m_6_83 ?_
    refine r_lload_n hR dX9_digest_26 rfl 1 rfl ?_
    refine r_lmul hR dX9_digest_27 ?_
    refine r_aload_n hR dX9_digest_28 rfl 0 rfl ?_
    refine r_iload_n hR dX9_digest_29 rfl 2 rfl ?_
    refine r_iload hR dX9_digest_30 3 rfl ?_
    obtain ⟨r_32, hc, h⟩ := bd_some h
    refine r_callVi hR (c9_aboutOf N hc) (cf_X9_149 (by decide)) ⟨m_5_66, ms_3_11⟩ (As := [.int x3, .int x4]) (q0 := 0) (ci := 7) rfl rfl rfl rfl (rc_X9 ad _) (Nat.le_of_ble_eq_true rfl) rfl dX9_digest_32 ?_
    refine r_i2l hR dX9_digest_35 ?_
    refine r_ladd hR dX9_digest_36 ?_
    obtain ⟨x1_37, hx, h⟩ := bn_some h
    refine r_lstore_n hR (i := 1) (lv' := [(1, .long x1_37), (0, .ref (ad 0)), (3, .int x3), (4, .int x4)]) dX9_digest_37 hx rfl (by decide) rfl ?_
    obtain ⟨x4_38, hx, h⟩ := bn_some h
    refine r_iinc hR (i := 4) (lv' := [(4, .int x4_38), (1, .long x1_37), (0, .ref (ad 0)), (3, .int x3)]) dX9_digest_38 3 rfl (inc_ok hx kc_iconst_1) (by decide) rfl ?_
    refine r_goto hR (tgt := 17) dX9_digest_41 (by decide) ?_
    exact r_sub hR [2, 1, 3, 0] rfl (hbk17 _ _ _ _ h)
theorem t9_digest_l17 (hR : Rl wM 7 RX9 cX9_digest 6 (some .long) ad J P) (N : Nat) {r : Int64} {q2 : SS} (hP : P (some (.long r)) q2) (bk6 : Int64 → Int32 → SS → Option (Int64 × SS)) (hbk6 : ∀ (x1 : Int64) (x3 : Int32) (q : SS), bk6 x1 x3 q = some (r, q2) → J [(0, .ref (ad 0)), (1, .long x1), (3, .int x3)] [] q 6) : ∀ (n : Nat) (x1 : Int64) (x3 : Int32) (x4 : Int32) (q : SS), f9_digest_l17 N bk6 n x1 x3 x4 q = some (r, q2) → J [(0, .ref (ad 0)), (1, .long x1), (3, .int x3), (4, .int x4)] [] q 17 := by
  intro n
  induction n with
  | zero => intro x1 x3 x4 q h; exact mu_noneF h
  | succ n ih => intro x1 x3 x4 q h; exact t9_digest_l17_B hR N hP bk6 hbk6 _ ih x1 x3 x4 q h
theorem t9_digest_l6_B (hR : Rl wM 7 RX9 cX9_digest 6 (some .long) ad J P) (N : Nat) {r : Int64} {q2 : SS} (hP : P (some (.long r)) q2) (bk6 : Int64 → Int32 → SS → Option (Int64 × SS)) (hbk6 : ∀ (x1 : Int64) (x3 : Int32) (q : SS), bk6 x1 x3 q = some (r, q2) → J [(0, .ref (ad 0)), (1, .long x1), (3, .int x3)] [] q 6) (x1 : Int64) (x3 : Int32) (q : SS) (h : f9_digest_l6_B N bk6 x1 x3 q = some (r, q2)) : J [(0, .ref (ad 0)), (1, .long x1), (3, .int x3)] [] q 6 := by
  unfold f9_digest_l6_B at h
  refine r_iload_n hR dX9_digest_6 rfl 2 rfl ?_
  refine r_aload_n hR dX9_digest_7 rfl 0 rfl ?_
  refine g_X9_tables hR m_4_119 dX9_digest_8 ?_
  refine r_icmp_ge hR (tgt := 126) dX9_digest_11 (by decide) (fun c_11 => ?_) (fun c_11 => ?_)
  · replace h := it_t c_11 h
    refine r_ldc2 hR dX9_digest_126 m_6_83 ?_
    refine r_lload_n hR dX9_digest_129 rfl 1 rfl ?_
    refine r_lmul hR dX9_digest_130 ?_
    refine r_aload_n hR dX9_digest_131 rfl 0 rfl ?_
    refine g_X9_wide hR m_4_124 dX9_digest_132 ?_
    refine r_i2l hR dX9_digest_135 ?_
    refine r_ladd hR dX9_digest_136 ?_
    obtain ⟨x1_137, hx, h⟩ := bn_some h
    refine r_lstore_n hR (i := 1) (lv' := [(1, .long x1_137), (0, .ref (ad 0)), (3, .int x3)]) dX9_digest_137 hx rfl (by decide) rfl ?_
    refine r_ldc2 hR dX9_digest_138 m_6_83 ?_
    refine r_lload_n hR dX9_digest_141 rfl 0 rfl ?_
    refine r_lmul hR dX9_digest_142 ?_
    refine r_aload_n hR dX9_digest_143 rfl 1 rfl ?_
    refine g_X9_memory hR m_4_125 dX9_digest_144 ?_
    refine r_i2l hR dX9_digest_147 ?_
    refine r_ladd hR dX9_digest_148 ?_
    obtain ⟨x1_149, hx, h⟩ := bn_some h
    refine r_lstore_n hR (i := 1) (lv' := [(1, .long x1_149), (0, .ref (ad 0)), (3, .int x3)]) dX9_digest_149 hx rfl (by decide) rfl ?_
    refine r_aload_n hR dX9_digest_150 rfl 1 rfl ?_
    refine g_X9_tables hR m_4_119 dX9_digest_151 ?_
    refine r_if_le hR (tgt := 226) dX9_digest_154 (by decide) (fun c_154 => ?_) (fun c_154 => ?_)
    · replace h := it_t c_154 h
      exact r_sub hR [1, 0] rfl (t9_digest_b226 hR N hP _ _ h)
    · replace h := it_f c_154 h
      refine r_iconst hR dX9_digest_157 kc_iconst_1 ?_
      refine r_aload_n hR dX9_digest_158 rfl 1 rfl ?_
      refine g_X9_tables hR m_4_119 dX9_digest_159 ?_
      refine r_ishl hR dX9_digest_162 ?_
      refine r_iconst hR dX9_digest_163 kc_iconst_1 ?_
      refine r_isub hR dX9_digest_164 ?_
      obtain ⟨x3_165, hx, h⟩ := bn_some h
      refine r_istore_n hR (i := 3) (lv' := [(3, .int x3_165), (1, .long x1_149), (0, .ref (ad 0))]) dX9_digest_165 hx rfl (by decide) rfl ?_
      refine r_ldc2 hR dX9_digest_166 m_6_83 ?_
      refine r_lload_n hR dX9_digest_169 rfl 1 rfl ?_
      refine r_lmul hR dX9_digest_170 ?_
      refine r_aload_n hR dX9_digest_171 rfl 2 rfl ?_
      refine r_iload_n hR dX9_digest_172 rfl 0 rfl ?_
      obtain ⟨r_173, q_173, hc, h⟩ := bd2_some h
      refine r_callVi hR (c9_trueSize N hc) (cf_X9_180 (by decide)) ⟨m_5_102, ms_4_0⟩ (As := [.int x3_165]) (q0 := 0) (ci := 7) rfl rfl rfl rfl (rc_X9 ad _) (Nat.le_of_ble_eq_true rfl) rfl dX9_digest_173 ?_
      refine r_i2l hR dX9_digest_176 ?_
      refine r_ladd hR dX9_digest_177 ?_
      obtain ⟨x1_178, hx, h⟩ := bn_some h
      refine r_lstore_n hR (i := 1) (lv' := [(1, .long x1_178), (3, .int x3_165), (0, .ref (ad 0))]) dX9_digest_178 hx rfl (by decide) rfl ?_
      refine r_ldc2 hR dX9_digest_179 m_6_83 ?_
      refine r_lload_n hR dX9_digest_182 rfl 0 rfl ?_
      refine r_lmul hR dX9_digest_183 ?_
      refine r_aload_n hR dX9_digest_184 rfl 2 rfl ?_
      refine r_iload_n hR dX9_digest_185 rfl 1 rfl ?_
      obtain ⟨r_186, hc, h⟩ := bd_some h
      refine r_callVi hR (c9_foretoldSize N hc) (cf_X9_183 (by decide)) ⟨m_5_130, ms_4_7⟩ (As := [.int x3_165]) (q0 := 0) (ci := 7) rfl rfl rfl rfl (rc_X9 ad _) (Nat.le_of_ble_eq_true rfl) rfl dX9_digest_186 ?_
      refine r_i2l hR dX9_digest_189 ?_
      refine r_ladd hR dX9_digest_190 ?_
      obtain ⟨x1_191, hx, h⟩ := bn_some h
      refine r_lstore_n hR (i := 1) (lv' := [(1, .long x1_191), (3, .int x3_165), (0, .ref (ad 0))]) dX9_digest_191 hx rfl (by decide) rfl ?_
      refine r_ldc2 hR dX9_digest_192 m_6_83 ?_
      refine r_lload_n hR dX9_digest_195 rfl 0 rfl ?_
      refine r_lmul hR dX9_digest_196 ?_
      refine r_aload_n hR dX9_digest_197 rfl 2 rfl ?_
      refine r_iload_n hR dX9_digest_198 rfl 1 rfl ?_
      obtain ⟨r_199, q_199, hc, h⟩ := bd2_some h
      refine r_callVi hR (c9_doesHang N hc) (cf_X9_306 (by decide)) ⟨m_6_28, ms_5_12⟩ (As := [.int x3_165]) (q0 := 0) (ci := 7) rfl rfl rfl rfl (rc_X9 ad _) (Nat.le_of_ble_eq_true rfl) rfl dX9_digest_199 ?_
      refine r_if_eq hR (tgt := 209) dX9_digest_202 (by decide) (fun c_202 => ?_) (fun c_202 => ?_)
      · replace h := it_t c_202 h
        refine r_iconst hR dX9_digest_209 kc_iconst_0 ?_
        exact r_sub hR [2, 1] rfl (t9_digest_b210 hR N hP _ _ _ _ h)
      · replace h := it_f c_202 h
        refine r_iconst hR dX9_digest_205 kc_iconst_1 ?_
        refine r_goto hR (tgt := 210) dX9_digest_206 (by decide) ?_
        exact r_sub hR [2, 1] rfl (t9_digest_b210 hR N hP _ _ _ _ h)
  · replace h := it_f c_11 h
    refine r_iconst hR dX9_digest_14 kc_iconst_0 ?_
    refine r_istore hR (i := 4) (lv' := [(4, .int (0 : Int32)), (0, .ref (ad 0)), (1, .long x1), (3, .int x3)]) dX9_digest_15 rfl (by decide) rfl ?_
    exact r_sub hR [1, 2, 3, 0] rfl (t9_digest_l17 hR N hP bk6 hbk6 N _ _ _ _ h)
theorem t9_digest_l6 (hR : Rl wM 7 RX9 cX9_digest 6 (some .long) ad J P) (N : Nat) {r : Int64} {q2 : SS} (hP : P (some (.long r)) q2) : ∀ (n : Nat) (x1 : Int64) (x3 : Int32) (q : SS), f9_digest_l6 N n x1 x3 q = some (r, q2) → J [(0, .ref (ad 0)), (1, .long x1), (3, .int x3)] [] q 6 := by
  intro n
  induction n with
  | zero => intro x1 x3 q h; exact mu_noneF h
  | succ n ih => intro x1 x3 q h; exact t9_digest_l6_B hR N hP _ ih x1 x3 q h
theorem t9_digest (hR : Rl wM 7 RX9 cX9_digest 6 (some .long) ad J P) (N : Nat) {r : Int64} {q2 : SS} (hP : P (some (.long r)) q2) (q : SS) (h : f9_digest N q = some (r, q2)) : J [(0, .ref (ad 0))] [] q 0 := by
  unfold f9_digest at h
  refine r_ldc2 hR dX9_digest_0 m_6_82 ?_
  refine r_lstore_n hR (i := 1) (lv' := [(1, .long (269 : Int64)), (0, .ref (ad 0))]) dX9_digest_3 rfl rfl (by decide) rfl ?_
  refine r_iconst hR dX9_digest_4 kc_iconst_0 ?_
  refine r_istore_n hR (i := 3) (lv' := [(3, .int (0 : Int32)), (1, .long (269 : Int64)), (0, .ref (ad 0))]) dX9_digest_5 rfl rfl (by decide) rfl ?_
  exact r_sub hR [2, 1, 0] rfl (t9_digest_l6 hR N hP N _ _ _ h)
theorem c9_digest (N : Nat) {q : SS} {r : Int64} {q2 : SS} (h : f9_digest N q = some (r, q2)) : Ct wM 7 yX9_digest cX9_digest 6 (some .long) (fun ad => [.ref (ad 0)]) q (fun _ => some (.long r)) q2 :=
  ct_of (by decide) (fun _ => Nat.le_of_ble_eq_true rfl) (fun ad J hR => t9_digest hR N ⟨rfl, rfl⟩ q h)
end
