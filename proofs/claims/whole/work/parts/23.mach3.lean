section
variable {ad : Nat → Nat} {J : JT} {P : PT} {ld : Nat}
theorem t6_takesTable (hR : Rl wC 1 RX6 cX6_takesTable 3 (some .boolean) ad J P) {r : Int32} {q2 : SS} (hP : P (some (.int r)) q2) (x1 : Int32) (x2 : Int32) (q : SS) (h : f6_takesTable x1 x2 q = some (r, q2)) : J [(0, .ref (ad 3)), (1, .int x1), (2, .int x2)] [] q 0 := by
  unfold f6_takesTable at h
  refine r_iload_n hR dX6_takesTable_0 rfl 1 rfl ?_
  refine r_if_lt hR (tgt := 21) dX6_takesTable_1 (by decide) (fun c_1 => ?_) (fun c_1 => ?_)
  · replace h := it_t c_1 h
    refine r_iconst hR dX6_takesTable_21 kc_iconst_0 ?_
    exact r_zret hR dX6_takesTable_22 rfl (Or.inl rfl) (rt2 hP h)
  · replace h := it_f c_1 h
    refine r_iload_n hR dX6_takesTable_4 rfl 1 rfl ?_
    refine r_iload_n hR dX6_takesTable_5 rfl 2 rfl ?_
    refine r_icmp_ge hR (tgt := 21) dX6_takesTable_6 (by decide) (fun c_6 => ?_) (fun c_6 => ?_)
    · replace h := it_t c_6 h
      refine r_iconst hR dX6_takesTable_21 kc_iconst_0 ?_
      exact r_zret hR dX6_takesTable_22 rfl (Or.inl rfl) (rt2 hP h)
    · replace h := it_f c_6 h
      refine r_aload_n hR dX6_takesTable_9 rfl 0 rfl ?_
      refine g_X6_told hR m_1_84 dX6_takesTable_10 ?_
      refine r_iload_n hR dX6_takesTable_13 rfl 1 rfl ?_
      refine r_ishr hR dX6_takesTable_14 ?_
      refine r_iconst hR dX6_takesTable_15 kc_iconst_1 ?_
      refine r_iand hR dX6_takesTable_16 ?_
      refine r_iconst hR dX6_takesTable_17 kc_iconst_1 ?_
      refine r_icmp_ne hR (tgt := 23) dX6_takesTable_18 (by decide) (fun c_18 => ?_) (fun c_18 => ?_)
      · replace h := it_f c_18 h
        refine r_aload_n hR dX6_takesTable_23 rfl 0 rfl ?_
        refine r_dup hR dX6_takesTable_24 rfl ?_
        refine g_X6_told hR m_1_84 dX6_takesTable_25 ?_
        refine r_iconst hR dX6_takesTable_28 kc_iconst_1 ?_
        refine r_iload_n hR dX6_takesTable_29 rfl 1 rfl ?_
        refine r_ishl hR dX6_takesTable_30 ?_
        refine r_ior hR dX6_takesTable_31 ?_
        obtain ⟨q_32, hq, h⟩ := bn_some h
        refine p_X6_told hR m_1_84 dX6_takesTable_32 hq ?_
        refine r_aload_n hR dX6_takesTable_35 rfl 0 rfl ?_
        refine r_dup hR dX6_takesTable_36 rfl ?_
        refine g_X6_due hR m_1_85 dX6_takesTable_37 ?_
        refine r_iconst hR dX6_takesTable_40 kc_iconst_1 ?_
        refine r_isub hR dX6_takesTable_41 ?_
        obtain ⟨q_42, hq, h⟩ := bn_some h
        refine p_X6_due hR m_1_85 dX6_takesTable_42 hq ?_
        refine r_aload_n hR dX6_takesTable_45 rfl 0 rfl ?_
        refine r_iconst hR dX6_takesTable_46 kc_iconst_1 ?_
        obtain ⟨q_47, hq, h⟩ := bn_some h
        refine p_X6_ended hR m_1_88 dX6_takesTable_47 (Or.inr rfl) hq ?_
        refine r_iconst hR dX6_takesTable_50 kc_iconst_1 ?_
        exact r_zret hR dX6_takesTable_51 rfl (Or.inr rfl) (rt2 hP h)
      · replace h := it_t c_18 h
        refine r_iconst hR dX6_takesTable_21 kc_iconst_0 ?_
        exact r_zret hR dX6_takesTable_22 rfl (Or.inl rfl) (rt2 hP h)
theorem c6_takesTable {x1 : Int32} {x2 : Int32} {q : SS} {r : Int32} {q2 : SS} (h : f6_takesTable x1 x2 q = some (r, q2)) : Ct wC 1 yX6_takesTable cX6_takesTable 3 (some .boolean) (fun ad => [.ref (ad 3), .int x1, .int x2]) q (fun _ => some (.int r)) q2 :=
  ct_of (by decide) (fun _ => Nat.le_of_ble_eq_true rfl) (fun ad J hR => t6_takesTable hR ⟨rfl, rfl⟩ x1 x2 q h)
theorem t6_takesWay_b20 (hR : Rl wC 1 RX6 cX6_takesWay 2 (some .boolean) ad J P) {r : Int32} {q2 : SS} (hP : P (some (.int r)) q2) (q : SS) (h : f6_takesWay_b20 q = some (r, q2)) : J [(0, .ref (ad 3))] [] q 20 := by
  unfold f6_takesWay_b20 at h
  refine r_aload_n hR dX6_takesWay_20 rfl 0 rfl ?_
  refine r_dup hR dX6_takesWay_21 rfl ?_
  refine g_X6_sides hR m_1_87 dX6_takesWay_22 ?_
  refine r_iconst hR dX6_takesWay_25 kc_iconst_1 ?_
  refine r_ior hR dX6_takesWay_26 ?_
  obtain ⟨q_27, hq, h⟩ := bn_some h
  refine p_X6_sides hR m_1_87 dX6_takesWay_27 hq ?_
  refine r_aload_n hR dX6_takesWay_30 rfl 0 rfl ?_
  refine r_iconst hR dX6_takesWay_31 kc_iconst_0 ?_
  obtain ⟨q_32, hq, h⟩ := bn_some h
  refine p_X6_ended hR m_1_88 dX6_takesWay_32 (Or.inl rfl) hq ?_
  refine r_iconst hR dX6_takesWay_35 kc_iconst_1 ?_
  exact r_zret hR dX6_takesWay_36 rfl (Or.inr rfl) (rt2 hP h)
theorem t6_takesWay (hR : Rl wC 1 RX6 cX6_takesWay 2 (some .boolean) ad J P) {r : Int32} {q2 : SS} (hP : P (some (.int r)) q2) (x1 : Int32) (q : SS) (h : f6_takesWay x1 q = some (r, q2)) : J [(0, .ref (ad 3)), (1, .int x1)] [] q 0 := by
  unfold f6_takesWay at h
  refine r_iload_n hR dX6_takesWay_0 rfl 1 rfl ?_
  refine r_bipush hR dX6_takesWay_1 kc_bipush_108 ?_
  refine r_icmp_eq hR (tgt := 20) dX6_takesWay_3 (by decide) (fun c_3 => ?_) (fun c_3 => ?_)
  · replace h := it_t c_3 h
    exact r_sub hR [0] rfl (t6_takesWay_b20 hR hP _ h)
  · replace h := it_f c_3 h
    refine r_iload_n hR dX6_takesWay_6 rfl 1 rfl ?_
    refine r_bipush hR dX6_takesWay_7 kc_bipush_112 ?_
    refine r_icmp_eq hR (tgt := 20) dX6_takesWay_9 (by decide) (fun c_9 => ?_) (fun c_9 => ?_)
    · replace h := it_t c_9 h
      exact r_sub hR [0] rfl (t6_takesWay_b20 hR hP _ h)
    · replace h := it_f c_9 h
      refine r_iload_n hR dX6_takesWay_12 rfl 1 rfl ?_
      refine r_bipush hR dX6_takesWay_13 kc_bipush_115 ?_
      refine r_icmp_eq hR (tgt := 20) dX6_takesWay_15 (by decide) (fun c_15 => ?_) (fun c_15 => ?_)
      · replace h := it_t c_15 h
        exact r_sub hR [0] rfl (t6_takesWay_b20 hR hP _ h)
      · replace h := it_f c_15 h
        refine r_iconst hR dX6_takesWay_18 kc_iconst_0 ?_
        exact r_zret hR dX6_takesWay_19 rfl (Or.inl rfl) (rt2 hP h)
theorem c6_takesWay {x1 : Int32} {q : SS} {r : Int32} {q2 : SS} (h : f6_takesWay x1 q = some (r, q2)) : Ct wC 1 yX6_takesWay cX6_takesWay 2 (some .boolean) (fun ad => [.ref (ad 3), .int x1]) q (fun _ => some (.int r)) q2 :=
  ct_of (by decide) (fun _ => Nat.le_of_ble_eq_true rfl) (fun ad J hR => t6_takesWay hR ⟨rfl, rfl⟩ x1 q h)
theorem t6_takes (hR : Rl wC 3 RX6 cX6_takes 3 (some .boolean) ad J P) {r : Int32} {q2 : SS} (hP : P (some (.int r)) q2) (x1 : Int32) (x2 : Int32) (q : SS) (h : f6_takes x1 x2 q = some (r, q2)) : J [(0, .ref (ad 3)), (1, .int x1), (2, .int x2)] [] q 0 := by
  unfold f6_takes at h
  refine r_aload_n hR dX6_takes_0 rfl 0 rfl ?_
  refine g_X6_ended hR m_1_88 dX6_takes_1 ?_
  refine r_if_ne hR (tgt := 31) dX6_takes_4 (by decide) (fun c_4 => ?_) (fun c_4 => ?_)
  · replace h := it_f c_4 h
    refine r_aload_n hR dX6_takes_31 rfl 0 rfl ?_
    refine g_X6_open hR m_1_86 dX6_takes_32 ?_
    refine r_if_ne hR (tgt := 40) dX6_takes_35 (by decide) (fun c_35 => ?_) (fun c_35 => ?_)
    · replace h := it_f c_35 h
      refine r_aload_n hR dX6_takes_40 rfl 0 rfl ?_
      obtain ⟨r_41, hc, h⟩ := bd_some h
      refine r_callVi hR (c6_atRightSide hc) (cf_X6_52 (by decide)) ⟨m_3_54, ms_1_14⟩ (As := []) (q0 := 3) (ci := 4) rfl rfl rfl rfl (rc_X6 ad _) (Nat.le_of_ble_eq_true rfl) rfl dX6_takes_41 ?_
      refine r_if_eq hR (tgt := 55) dX6_takes_44 (by decide) (fun c_44 => ?_) (fun c_44 => ?_)
      · replace h := it_t c_44 h
        refine r_aload_n hR dX6_takes_55 rfl 0 rfl ?_
        refine r_iload_n hR dX6_takes_56 rfl 1 rfl ?_
        obtain ⟨r_57, q_57, hc, h⟩ := bd2_some h
        refine r_callVi hR (c6_takesWay hc) (cf_X6_59 (by decide)) ⟨m_3_62, ms_2_0⟩ (As := [.int x1]) (q0 := 3) (ci := 4) rfl rfl rfl rfl (rc_X6 ad _) (Nat.le_of_ble_eq_true rfl) rfl dX6_takes_57 ?_
        obtain ⟨hz, h⟩ := cz_some h
        exact r_zret hR dX6_takes_60 rfl hz (rt2 hP h)
      · replace h := it_f c_44 h
        refine r_aload_n hR dX6_takes_47 rfl 0 rfl ?_
        refine r_iload_n hR dX6_takes_48 rfl 1 rfl ?_
        obtain ⟨r_49, q_49, hc, h⟩ := bd2_some h
        refine r_callVi hR (c6_takesClose hc) (cf_X6_56 (by decide)) ⟨m_3_58, ms_1_15⟩ (As := [.int x1]) (q0 := 3) (ci := 4) rfl rfl rfl rfl (rc_X6 ad _) (Nat.le_of_ble_eq_true rfl) rfl dX6_takes_49 ?_
        refine r_goto hR (tgt := 60) dX6_takes_52 (by decide) ?_
        obtain ⟨hz, h⟩ := cz_some h
        exact r_zret hR dX6_takes_60 rfl hz (rt2 hP h)
    · replace h := it_t c_35 h
      refine r_iconst hR dX6_takes_38 kc_iconst_0 ?_
      exact r_zret hR dX6_takes_39 rfl (Or.inl rfl) (rt2 hP h)
  · replace h := it_t c_4 h
    refine r_iload_n hR dX6_takes_7 rfl 1 rfl ?_
    refine r_bipush hR dX6_takes_8 kc_bipush_40 ?_
    refine r_icmp_ne hR (tgt := 21) dX6_takes_10 (by decide) (fun c_10 => ?_) (fun c_10 => ?_)
    · replace h := it_f c_10 h
      refine r_aload_n hR dX6_takes_21 rfl 0 rfl ?_
      refine r_iload_n hR dX6_takes_22 rfl 1 rfl ?_
      refine r_bipush hR dX6_takes_23 kc_bipush_48 ?_
      refine r_isub hR dX6_takes_25 ?_
      refine r_iload_n hR dX6_takes_26 rfl 2 rfl ?_
      obtain ⟨r_27, q_27, hc, h⟩ := bd2_some h
      refine r_callVi hR (c6_takesTable hc) (cf_X6_49 (by decide)) ⟨m_3_50, ms_1_13⟩ (As := [.int (x1 - (48 : Int32)), .int x2]) (q0 := 3) (ci := 4) rfl rfl rfl rfl (rc_X6 ad _) (Nat.le_of_ble_eq_true rfl) rfl dX6_takes_27 ?_
      obtain ⟨hz, h⟩ := cz_some h
      exact r_zret hR dX6_takes_30 rfl hz (rt2 hP h)
    · replace h := it_t c_10 h
      refine r_aload_n hR dX6_takes_13 rfl 0 rfl ?_
      refine r_iload_n hR dX6_takes_14 rfl 2 rfl ?_
      obtain ⟨r_15, q_15, hc, h⟩ := bd2_some h
      refine r_callVi hR (c6_takesOpen hc) (cf_X6_45 (by decide)) ⟨m_3_45, ms_1_12⟩ (As := [.int x2]) (q0 := 3) (ci := 4) rfl rfl rfl rfl (rc_X6 ad _) (Nat.le_of_ble_eq_true rfl) rfl dX6_takes_15 ?_
      refine r_goto hR (tgt := 30) dX6_takes_18 (by decide) ?_
      obtain ⟨hz, h⟩ := cz_some h
      exact r_zret hR dX6_takes_30 rfl hz (rt2 hP h)
theorem c6_takes {x1 : Int32} {x2 : Int32} {q : SS} {r : Int32} {q2 : SS} (h : f6_takes x1 x2 q = some (r, q2)) : Ct wC 3 yX6_takes cX6_takes 3 (some .boolean) (fun ad => [.ref (ad 3), .int x1, .int x2]) q (fun _ => some (.int r)) q2 :=
  ct_of (by decide) (fun _ => Nat.le_of_ble_eq_true rfl) (fun ad J hR => t6_takes hR ⟨rfl, rfl⟩ x1 x2 q h)
theorem t6_readable_l27_B (hR : Rl wC 4 RX6 cX6_readable 3 (some .int) ad J P) (N : Nat) {r : Int32} {q2 : SS} (hP : P (some (.int r)) q2) (bk27 : Int32 → Int32 → SS → Option (Int32 × SS)) (hbk27 : ∀ (x1 : Int32) (x2 : Int32) (q : SS), bk27 x1 x2 q = some (r, q2) → J [(0, .ref (ad 3)), (1, .int x1), (2, .int x2)] [] q 27) (x1 : Int32) (x2 : Int32) (q : SS) (h : f6_readable_l27_B N bk27 x1 x2 q = some (r, q2)) : J [(0, .ref (ad 3)), (1, .int x1), (2, .int x2)] [] q 27 := by
  unfold f6_readable_l27_B at h
  refine r_iload_n hR dX6_readable_27 rfl 2 rfl ?_
  refine r_aload_n hR dX6_readable_28 rfl 0 rfl ?_
  refine g_X6_length hR m_1_83 dX6_readable_29 ?_
  refine r_icmp_ge hR (tgt := 57) dX6_readable_32 (by decide) (fun c_32 => ?_) (fun c_32 => ?_)
  · replace h := it_t c_32 h
    refine r_aload_n hR dX6_readable_57 rfl 0 rfl ?_
    refine g_X6_length hR m_1_83 dX6_readable_58 ?_
    exact r_iret hR dX6_readable_61 rfl (rt2 hP h)
  · replace h := it_f c_32 h
    refine r_aload_n hR dX6_readable_35 rfl 0 rfl ?_
    refine r_aload_n hR dX6_readable_36 rfl 0 rfl ?_
    refine g_X6_signs hR m_1_82 dX6_readable_37 ?_
    refine r_iload_n hR dX6_readable_40 rfl 2 rfl ?_
    obtain ⟨hin, h⟩ := ck_some h
    refine ld_X6_signs hR dX6_readable_41 hin ?_
    refine r_iload_n hR dX6_readable_42 rfl 1 rfl ?_
    obtain ⟨r_43, q_43, hc, h⟩ := bd2_some h
    refine r_callVi hR (c6_takes hc) (cf_X6_41 (by decide)) ⟨m_3_41, ms_1_11⟩ (As := [.int (ar q 16 (ix x2)), .int x1]) (q0 := 3) (ci := 4) rfl rfl rfl rfl (rc_X6 ad _) (Nat.le_of_ble_eq_true rfl) rfl dX6_readable_43 ?_
    refine r_if_ne hR (tgt := 51) dX6_readable_46 (by decide) (fun c_46 => ?_) (fun c_46 => ?_)
    · replace h := it_f c_46 h
      obtain ⟨x2_51, hx, h⟩ := bn_some h
      refine r_iinc hR (i := 2) (lv' := [(2, .int x2_51), (0, .ref (ad 3)), (1, .int x1)]) dX6_readable_51 2 rfl (inc_ok hx kc_iconst_1) (by decide) rfl ?_
      refine r_goto hR (tgt := 27) dX6_readable_54 (by decide) ?_
      exact r_sub hR [1, 2, 0] rfl (hbk27 _ _ _ h)
    · replace h := it_t c_46 h
      refine r_iload_n hR dX6_readable_49 rfl 2 rfl ?_
      exact r_iret hR dX6_readable_50 rfl (rt2 hP h)
theorem t6_readable_l27 (hR : Rl wC 4 RX6 cX6_readable 3 (some .int) ad J P) (N : Nat) {r : Int32} {q2 : SS} (hP : P (some (.int r)) q2) : ∀ (n : Nat) (x1 : Int32) (x2 : Int32) (q : SS), f6_readable_l27 N n x1 x2 q = some (r, q2) → J [(0, .ref (ad 3)), (1, .int x1), (2, .int x2)] [] q 27 := by
  intro n
  induction n with
  | zero => intro x1 x2 q h; exact mu_noneF h
  | succ n ih => intro x1 x2 q h; exact t6_readable_l27_B hR N hP _ ih x1 x2 q h
theorem t6_readable (hR : Rl wC 4 RX6 cX6_readable 3 (some .int) ad J P) (N : Nat) {r : Int32} {q2 : SS} (hP : P (some (.int r)) q2) (x1 : Int32) (q : SS) (h : f6_readable N x1 q = some (r, q2)) : J [(0, .ref (ad 3)), (1, .int x1)] [] q 0 := by
  unfold f6_readable at h
  refine r_aload_n hR dX6_readable_0 rfl 0 rfl ?_
  refine r_iconst hR dX6_readable_1 kc_iconst_0 ?_
  obtain ⟨q_2, hq, h⟩ := bn_some h
  refine p_X6_told hR m_1_84 dX6_readable_2 hq ?_
  refine r_aload_n hR dX6_readable_5 rfl 0 rfl ?_
  refine r_iconst hR dX6_readable_6 kc_iconst_1 ?_
  obtain ⟨q_7, hq, h⟩ := bn_some h
  refine p_X6_due hR m_1_85 dX6_readable_7 hq ?_
  refine r_aload_n hR dX6_readable_10 rfl 0 rfl ?_
  refine r_iconst hR dX6_readable_11 kc_iconst_0 ?_
  obtain ⟨q_12, hq, h⟩ := bn_some h
  refine p_X6_open hR m_1_86 dX6_readable_12 hq ?_
  refine r_aload_n hR dX6_readable_15 rfl 0 rfl ?_
  refine r_iconst hR dX6_readable_16 kc_iconst_0 ?_
  obtain ⟨q_17, hq, h⟩ := bn_some h
  refine p_X6_sides hR m_1_87 dX6_readable_17 hq ?_
  refine r_aload_n hR dX6_readable_20 rfl 0 rfl ?_
  refine r_iconst hR dX6_readable_21 kc_iconst_0 ?_
  obtain ⟨q_22, hq, h⟩ := bn_some h
  refine p_X6_ended hR m_1_88 dX6_readable_22 (Or.inl rfl) hq ?_
  refine r_iconst hR dX6_readable_25 kc_iconst_0 ?_
  refine r_istore_n hR (i := 2) (lv' := [(2, .int (0 : Int32)), (0, .ref (ad 3)), (1, .int x1)]) dX6_readable_26 rfl rfl (by decide) rfl ?_
  exact r_sub hR [1, 2, 0] rfl (t6_readable_l27 hR N hP N _ _ _ h)
theorem c6_readable (N : Nat) {x1 : Int32} {q : SS} {r : Int32} {q2 : SS} (h : f6_readable N x1 q = some (r, q2)) : Ct wC 4 yX6_readable cX6_readable 3 (some .int) (fun ad => [.ref (ad 3), .int x1]) q (fun _ => some (.int r)) q2 :=
  ct_of (by decide) (fun _ => Nat.le_of_ble_eq_true rfl) (fun ad J hR => t6_readable hR N ⟨rfl, rfl⟩ x1 q h)
theorem t6_isPlan (hR : Rl wC 5 RX6 cX6_isPlan 2 (some .boolean) ad J P) (N : Nat) {r : Int32} {q2 : SS} (hP : P (some (.int r)) q2) (x1 : Int32) (q : SS) (h : f6_isPlan N x1 q = some (r, q2)) : J [(0, .ref (ad 3)), (1, .int x1)] [] q 0 := by
  unfold f6_isPlan at h
  refine r_aload_n hR dX6_isPlan_0 rfl 0 rfl ?_
  refine r_iload_n hR dX6_isPlan_1 rfl 1 rfl ?_
  obtain ⟨r_2, q_2, hc, h⟩ := bd2_some h
  refine r_callVi hR (c6_readable N hc) (cf_X6_21 (by decide)) ⟨m_3_36, m_3_37⟩ (As := [.int x1]) (q0 := 3) (ci := 4) rfl rfl rfl rfl (rc_X6 ad _) (Nat.le_of_ble_eq_true rfl) rfl dX6_isPlan_2 ?_
  refine r_aload_n hR dX6_isPlan_5 rfl 0 rfl ?_
  refine g_X6_length hR m_1_83 dX6_isPlan_6 ?_
  refine r_icmp_ne hR (tgt := 30) dX6_isPlan_9 (by decide) (fun c_9 => ?_) (fun c_9 => ?_)
  · replace h := it_f c_9 h
    refine r_iconst hR dX6_isPlan_30 kc_iconst_0 ?_
    exact r_zret hR dX6_isPlan_31 rfl (Or.inl rfl) (rt2 hP h)
  · replace h := it_t c_9 h
    refine r_aload_n hR dX6_isPlan_12 rfl 0 rfl ?_
    refine g_X6_ended hR m_1_88 dX6_isPlan_13 ?_
    refine r_if_eq hR (tgt := 30) dX6_isPlan_16 (by decide) (fun c_16 => ?_) (fun c_16 => ?_)
    · replace h := it_t c_16 h
      refine r_iconst hR dX6_isPlan_30 kc_iconst_0 ?_
      exact r_zret hR dX6_isPlan_31 rfl (Or.inl rfl) (rt2 hP h)
    · replace h := it_f c_16 h
      refine r_aload_n hR dX6_isPlan_19 rfl 0 rfl ?_
      refine g_X6_open hR m_1_86 dX6_isPlan_20 ?_
      refine r_if_ne hR (tgt := 30) dX6_isPlan_23 (by decide) (fun c_23 => ?_) (fun c_23 => ?_)
      · replace h := it_f c_23 h
        refine r_iconst hR dX6_isPlan_30 kc_iconst_0 ?_
        exact r_zret hR dX6_isPlan_31 rfl (Or.inl rfl) (rt2 hP h)
      · replace h := it_t c_23 h
        refine r_iconst hR dX6_isPlan_26 kc_iconst_1 ?_
        refine r_goto hR (tgt := 31) dX6_isPlan_27 (by decide) ?_
        exact r_zret hR dX6_isPlan_31 rfl (Or.inr rfl) (rt2 hP h)
theorem c6_isPlan (N : Nat) {x1 : Int32} {q : SS} {r : Int32} {q2 : SS} (h : f6_isPlan N x1 q = some (r, q2)) : Ct wC 5 yX6_isPlan cX6_isPlan 2 (some .boolean) (fun ad => [.ref (ad 3), .int x1]) q (fun _ => some (.int r)) q2 :=
  ct_of (by decide) (fun _ => Nat.le_of_ble_eq_true rfl) (fun ad J hR => t6_isPlan hR N ⟨rfl, rfl⟩ x1 q h)
theorem t7_holdsRow (hR : Rl wC 1 RX7 cX7_holdsRow 3 (some .boolean) ad J P) (q : SS) {r : Int32} (hP : P (some (.int r)) q) (x1 : Int32) (x2 : Int32) (h : f7_holdsRow q x1 x2 = some r) : J [(0, .ref (ad 1)), (1, .int x1), (2, .int x2)] [] q 0 := by
  unfold f7_holdsRow at h
  refine r_iload_n hR dX7_holdsRow_0 rfl 1 rfl ?_
  refine r_if_lt hR (tgt := 30) dX7_holdsRow_1 (by decide) (fun c_1 => ?_) (fun c_1 => ?_)
  · replace h := it_t c_1 h
    refine r_iconst hR dX7_holdsRow_30 kc_iconst_0 ?_
    exact r_zret hR dX7_holdsRow_31 rfl (Or.inl rfl) (rt1 hP h)
  · replace h := it_f c_1 h
    refine r_iload_n hR dX7_holdsRow_4 rfl 1 rfl ?_
    refine r_aload_n hR dX7_holdsRow_5 rfl 0 rfl ?_
    refine g_X7_made hR m_1_33 dX7_holdsRow_6 ?_
    refine r_icmp_ge hR (tgt := 30) dX7_holdsRow_9 (by decide) (fun c_9 => ?_) (fun c_9 => ?_)
    · replace h := it_t c_9 h
      refine r_iconst hR dX7_holdsRow_30 kc_iconst_0 ?_
      exact r_zret hR dX7_holdsRow_31 rfl (Or.inl rfl) (rt1 hP h)
    · replace h := it_f c_9 h
      refine r_iload_n hR dX7_holdsRow_12 rfl 2 rfl ?_
      refine r_if_lt hR (tgt := 30) dX7_holdsRow_13 (by decide) (fun c_13 => ?_) (fun c_13 => ?_)
      · replace h := it_t c_13 h
        refine r_iconst hR dX7_holdsRow_30 kc_iconst_0 ?_
        exact r_zret hR dX7_holdsRow_31 rfl (Or.inl rfl) (rt1 hP h)
      · replace h := it_f c_13 h
        refine r_iload_n hR dX7_holdsRow_16 rfl 2 rfl ?_
        refine r_aload_n hR dX7_holdsRow_17 rfl 0 rfl ?_
        refine g_X7_rowCount hR m_1_30 dX7_holdsRow_18 ?_
        refine r_iload_n hR dX7_holdsRow_21 rfl 1 rfl ?_
        obtain ⟨hin, h⟩ := ck_some h
        refine ld_X7_rowCount hR dX7_holdsRow_22 hin ?_
        refine r_icmp_ge hR (tgt := 30) dX7_holdsRow_23 (by decide) (fun c_23 => ?_) (fun c_23 => ?_)
        · replace h := it_t c_23 h
          refine r_iconst hR dX7_holdsRow_30 kc_iconst_0 ?_
          exact r_zret hR dX7_holdsRow_31 rfl (Or.inl rfl) (rt1 hP h)
        · replace h := it_f c_23 h
          refine r_iconst hR dX7_holdsRow_26 kc_iconst_1 ?_
          refine r_goto hR (tgt := 31) dX7_holdsRow_27 (by decide) ?_
          exact r_zret hR dX7_holdsRow_31 rfl (Or.inr rfl) (rt1 hP h)
theorem c7_holdsRow {x1 : Int32} {x2 : Int32} {q : SS} {r : Int32} (h : f7_holdsRow q x1 x2 = some r) : Ct wC 1 yX7_holdsRow cX7_holdsRow 3 (some .boolean) (fun ad => [.ref (ad 1), .int x1, .int x2]) q (fun _ => some (.int r)) q :=
  ct_of (by decide) (fun _ => Nat.le_of_ble_eq_true rfl) (fun ad J hR => t7_holdsRow hR q ⟨rfl, rfl⟩ x1 x2 h)
theorem t7_isSet (hR : Rl wC 1 RX7 cX7_isSet 2 (some .boolean) ad J P) (q : SS) {r : Int32} (hP : P (some (.int r)) q) (x1 : Int32) (h : f7_isSet q x1 = some r) : J [(0, .ref (ad 1)), (1, .int x1)] [] q 0 := by
  unfold f7_isSet at h
  refine r_iload_n hR dX7_isSet_0 rfl 1 rfl ?_
  refine r_iconst hR dX7_isSet_1 kc_iconst_1 ?_
  refine r_icmp_lt hR (tgt := 19) dX7_isSet_2 (by decide) (fun c_2 => ?_) (fun c_2 => ?_)
  · replace h := it_t c_2 h
    refine r_iconst hR dX7_isSet_19 kc_iconst_0 ?_
    exact r_zret hR dX7_isSet_20 rfl (Or.inl rfl) (rt1 hP h)
  · replace h := it_f c_2 h
    refine r_iload_n hR dX7_isSet_5 rfl 1 rfl ?_
    refine r_iconst hR dX7_isSet_6 kc_iconst_1 ?_
    refine r_aload_n hR dX7_isSet_7 rfl 0 rfl ?_
    refine g_X7_made hR m_1_33 dX7_isSet_8 ?_
    refine r_ishl hR dX7_isSet_11 ?_
    refine r_icmp_ge hR (tgt := 19) dX7_isSet_12 (by decide) (fun c_12 => ?_) (fun c_12 => ?_)
    · replace h := it_t c_12 h
      refine r_iconst hR dX7_isSet_19 kc_iconst_0 ?_
      exact r_zret hR dX7_isSet_20 rfl (Or.inl rfl) (rt1 hP h)
    · replace h := it_f c_12 h
      refine r_iconst hR dX7_isSet_15 kc_iconst_1 ?_
      refine r_goto hR (tgt := 20) dX7_isSet_16 (by decide) ?_
      exact r_zret hR dX7_isSet_20 rfl (Or.inr rfl) (rt1 hP h)
theorem c7_isSet {x1 : Int32} {q : SS} {r : Int32} (h : f7_isSet q x1 = some r) : Ct wC 1 yX7_isSet cX7_isSet 2 (some .boolean) (fun ad => [.ref (ad 1), .int x1]) q (fun _ => some (.int r)) q :=
  ct_of (by decide) (fun _ => Nat.le_of_ble_eq_true rfl) (fun ad J hR => t7_isSet hR q ⟨rfl, rfl⟩ x1 h)
theorem t7_tablesMade (hR : Rl wC 1 RX7 cX7_tablesMade 1 (some .int) ad J P) (q : SS) {r : Int32} (hP : P (some (.int r)) q) (h : f7_tablesMade q = some r) : J [(0, .ref (ad 1))] [] q 0 := by
  unfold f7_tablesMade at h
  refine r_aload_n hR dX7_tablesMade_0 rfl 0 rfl ?_
  refine g_X7_made hR m_1_33 dX7_tablesMade_1 ?_
  exact r_iret hR dX7_tablesMade_4 rfl (rt1 hP h)
theorem c7_tablesMade {q : SS} {r : Int32} (h : f7_tablesMade q = some r) : Ct wC 1 yX7_tablesMade cX7_tablesMade 1 (some .int) (fun ad => [.ref (ad 1)]) q (fun _ => some (.int r)) q :=
  ct_of (by decide) (fun _ => Nat.le_of_ble_eq_true rfl) (fun ad J hR => t7_tablesMade hR q ⟨rfl, rfl⟩ h)
theorem t7_allTables (hR : Rl wC 1 RX7 cX7_allTables 1 (some .int) ad J P) (q : SS) {r : Int32} (hP : P (some (.int r)) q) (h : f7_allTables q = some r) : J [(0, .ref (ad 1))] [] q 0 := by
  unfold f7_allTables at h
  refine r_iconst hR dX7_allTables_0 kc_iconst_1 ?_
  refine r_aload_n hR dX7_allTables_1 rfl 0 rfl ?_
  refine g_X7_made hR m_1_33 dX7_allTables_2 ?_
  refine r_ishl hR dX7_allTables_5 ?_
  refine r_iconst hR dX7_allTables_6 kc_iconst_1 ?_
  refine r_isub hR dX7_allTables_7 ?_
  exact r_iret hR dX7_allTables_8 rfl (rt1 hP h)
theorem c7_allTables {q : SS} {r : Int32} (h : f7_allTables q = some r) : Ct wC 1 yX7_allTables cX7_allTables 1 (some .int) (fun ad => [.ref (ad 1)]) q (fun _ => some (.int r)) q :=
  ct_of (by decide) (fun _ => Nat.le_of_ble_eq_true rfl) (fun ad J hR => t7_allTables hR q ⟨rfl, rfl⟩ h)
theorem t7_putWide (hR : Rl wC 1 RX7 cX7_putWide 3 (some .int) ad J P) {r : Int32} {q2 : SS} (hP : P (some (.int r)) q2) (x1 : Int32) (q : SS) (h : f7_putWide x1 q = some (r, q2)) : J [(0, .ref (ad 1)), (1, .int x1)] [] q 0 := by
  unfold f7_putWide at h
  refine r_aload_n hR dX7_putWide_0 rfl 0 rfl ?_
  refine g_X7_wide hR m_1_34 dX7_putWide_1 ?_
  obtain ⟨x2_4, hx, h⟩ := bn_some h
  refine r_istore_n hR (i := 2) (lv' := [(2, .int x2_4), (0, .ref (ad 1)), (1, .int x1)]) dX7_putWide_4 hx rfl (by decide) rfl ?_
  refine r_aload_n hR dX7_putWide_5 rfl 1 rfl ?_
  refine r_iload_n hR dX7_putWide_6 rfl 2 rfl ?_
  obtain ⟨q_7, hq, h⟩ := bn_some h
  refine p_X7_wide hR m_1_34 dX7_putWide_7 hq ?_
  refine r_iload_n hR dX7_putWide_10 rfl 0 rfl ?_
  exact r_iret hR dX7_putWide_11 rfl (rt2 hP h)
theorem c7_putWide {x1 : Int32} {q : SS} {r : Int32} {q2 : SS} (h : f7_putWide x1 q = some (r, q2)) : Ct wC 1 yX7_putWide cX7_putWide 3 (some .int) (fun ad => [.ref (ad 1), .int x1]) q (fun _ => some (.int r)) q2 :=
  ct_of (by decide) (fun _ => Nat.le_of_ble_eq_true rfl) (fun ad J hR => t7_putWide hR ⟨rfl, rfl⟩ x1 q h)
theorem t7_putMemory (hR : Rl wC 1 RX7 cX7_putMemory 3 (some .int) ad J P) {r : Int32} {q2 : SS} (hP : P (some (.int r)) q2) (x1 : Int32) (q : SS) (h : f7_putMemory x1 q = some (r, q2)) : J [(0, .ref (ad 1)), (1, .int x1)] [] q 0 := by
  unfold f7_putMemory at h
  refine r_aload_n hR dX7_putMemory_0 rfl 0 rfl ?_
  refine g_X7_memory hR m_1_35 dX7_putMemory_1 ?_
  obtain ⟨x2_4, hx, h⟩ := bn_some h
  refine r_istore_n hR (i := 2) (lv' := [(2, .int x2_4), (0, .ref (ad 1)), (1, .int x1)]) dX7_putMemory_4 hx rfl (by decide) rfl ?_
  refine r_aload_n hR dX7_putMemory_5 rfl 1 rfl ?_
  refine r_iload_n hR dX7_putMemory_6 rfl 2 rfl ?_
  obtain ⟨q_7, hq, h⟩ := bn_some h
  refine p_X7_memory hR m_1_35 dX7_putMemory_7 hq ?_
  refine r_iload_n hR dX7_putMemory_10 rfl 0 rfl ?_
  exact r_iret hR dX7_putMemory_11 rfl (rt2 hP h)
theorem c7_putMemory {x1 : Int32} {q : SS} {r : Int32} {q2 : SS} (h : f7_putMemory x1 q = some (r, q2)) : Ct wC 1 yX7_putMemory cX7_putMemory 3 (some .int) (fun ad => [.ref (ad 1), .int x1]) q (fun _ => some (.int r)) q2 :=
  ct_of (by decide) (fun _ => Nat.le_of_ble_eq_true rfl) (fun ad J hR => t7_putMemory hR ⟨rfl, rfl⟩ x1 q h)
theorem t7_addTable (hR : Rl wC 1 RX7 cX7_addTable 3 (some .int) ad J P) {r : Int32} {q2 : SS} (hP : P (some (.int r)) q2) (x1 : Int32) (x2 : Int32) (q : SS) (h : f7_addTable x1 x2 q = some (r, q2)) : J [(0, .ref (ad 1)), (1, .int x1), (2, .int x2)] [] q 0 := by
  unfold f7_addTable at h
  refine r_aload_n hR dX7_addTable_0 rfl 0 rfl ?_
  refine g_X7_made hR m_1_33 dX7_addTable_1 ?_
  refine r_bipush hR dX7_addTable_4 kc_bipush_6 ?_
  refine r_icmp_lt hR (tgt := 12) dX7_addTable_6 (by decide) (fun c_6 => ?_) (fun c_6 => ?_)
  · replace h := it_t c_6 h
    refine r_aload_n hR dX7_addTable_12 rfl 0 rfl ?_
    refine g_X7_letterBits hR m_1_28 dX7_addTable_13 ?_
    refine r_aload_n hR dX7_addTable_16 rfl 0 rfl ?_
    refine g_X7_made hR m_1_33 dX7_addTable_17 ?_
    refine r_iload_n hR dX7_addTable_20 rfl 1 rfl ?_
    obtain ⟨hin, h⟩ := ck_some h
    obtain ⟨q_21, hq, h⟩ := bn_some h
    refine sv_X7_letterBits hR dX7_addTable_21 hin hq ?_
    refine r_aload_n hR dX7_addTable_22 rfl 0 rfl ?_
    refine g_X7_perPage hR m_1_29 dX7_addTable_23 ?_
    refine r_aload_n hR dX7_addTable_26 rfl 0 rfl ?_
    refine g_X7_made hR m_1_33 dX7_addTable_27 ?_
    refine r_iload_n hR dX7_addTable_30 rfl 2 rfl ?_
    obtain ⟨hin, h⟩ := ck_some h
    obtain ⟨q_31, hq, h⟩ := bn_some h
    refine sv_X7_perPage hR dX7_addTable_31 hin hq ?_
    refine r_aload_n hR dX7_addTable_32 rfl 0 rfl ?_
    refine r_dup hR dX7_addTable_33 rfl ?_
    refine g_X7_made hR m_1_33 dX7_addTable_34 ?_
    refine r_iconst hR dX7_addTable_37 kc_iconst_1 ?_
    refine r_iadd hR dX7_addTable_38 ?_
    obtain ⟨q_39, hq, h⟩ := bn_some h
    refine p_X7_made hR m_1_33 dX7_addTable_39 hq ?_
    refine r_aload_n hR dX7_addTable_42 rfl 0 rfl ?_
    refine g_X7_made hR m_1_33 dX7_addTable_43 ?_
    refine r_iconst hR dX7_addTable_46 kc_iconst_1 ?_
    refine r_isub hR dX7_addTable_47 ?_
    exact r_iret hR dX7_addTable_48 rfl (rt2 hP h)
  · replace h := it_f c_6 h
    refine r_bipush hR dX7_addTable_9 kc_bipush_m104 ?_
    exact r_iret hR dX7_addTable_11 rfl (rt2 hP h)
theorem c7_addTable {x1 : Int32} {x2 : Int32} {q : SS} {r : Int32} {q2 : SS} (h : f7_addTable x1 x2 q = some (r, q2)) : Ct wC 1 yX7_addTable cX7_addTable 3 (some .int) (fun ad => [.ref (ad 1), .int x1, .int x2]) q (fun _ => some (.int r)) q2 :=
  ct_of (by decide) (fun _ => Nat.le_of_ble_eq_true rfl) (fun ad J hR => t7_addTable hR ⟨rfl, rfl⟩ x1 x2 q h)
theorem t7_addRow (hR : Rl wC 2 RX7 cX7_addRow 4 (some .int) ad J P) {r : Int32} {q2 : SS} (hP : P (some (.int r)) q2) (x1 : Int32) (x2 : Int32) (q : SS) (h : f7_addRow x1 x2 q = some (r, q2)) : J [(0, .ref (ad 1)), (1, .int x1), (2, .int x2)] [] q 0 := by
  unfold f7_addRow at h
  refine r_aload_n hR dX7_addRow_0 rfl 0 rfl ?_
  refine r_iload_n hR dX7_addRow_1 rfl 1 rfl ?_
  obtain ⟨r_2, hc, h⟩ := bd_some h
  refine r_callVi hR (c7_holds hc) (cf_X7_50 (by decide)) ⟨m_2_2, m_2_3⟩ (As := [.int x1]) (q0 := 1) (ci := 5) rfl rfl rfl rfl (rc_X7 ad _) (Nat.le_of_ble_eq_true rfl) rfl dX7_addRow_2 ?_
  refine r_if_ne hR (tgt := 10) dX7_addRow_5 (by decide) (fun c_5 => ?_) (fun c_5 => ?_)
  · replace h := it_f c_5 h
    refine r_aload_n hR dX7_addRow_10 rfl 0 rfl ?_
    refine g_X7_rowCount hR m_1_30 dX7_addRow_11 ?_
    refine r_iload_n hR dX7_addRow_14 rfl 1 rfl ?_
    obtain ⟨hin, h⟩ := ck_some h
    refine ld_X7_rowCount hR dX7_addRow_15 hin ?_
    obtain ⟨x3_16, hx, h⟩ := bn_some h
    refine r_istore_n hR (i := 3) (lv' := [(3, .int x3_16), (0, .ref (ad 1)), (1, .int x1), (2, .int x2)]) dX7_addRow_16 hx rfl (by decide) rfl ?_
    refine r_iload_n hR dX7_addRow_17 rfl 0 rfl ?_
    refine r_if_lt hR (tgt := 27) dX7_addRow_18 (by decide) (fun c_18 => ?_) (fun c_18 => ?_)
    · replace h := it_t c_18 h
      refine r_iload_n hR dX7_addRow_27 rfl 0 rfl ?_
      exact r_iret hR dX7_addRow_28 rfl (rt2 hP h)
    · replace h := it_f c_18 h
      refine r_iload_n hR dX7_addRow_21 rfl 0 rfl ?_
      refine r_bipush hR dX7_addRow_22 kc_bipush_8 ?_
      refine r_icmp_lt hR (tgt := 29) dX7_addRow_24 (by decide) (fun c_24 => ?_) (fun c_24 => ?_)
      · replace h := it_t c_24 h
        refine r_aload_n hR dX7_addRow_29 rfl 1 rfl ?_
        refine g_X7_codes hR m_1_31 dX7_addRow_30 ?_
        refine r_iload_n hR dX7_addRow_33 rfl 2 rfl ?_
        refine r_bipush hR dX7_addRow_34 kc_bipush_8 ?_
        refine r_imul hR dX7_addRow_36 ?_
        refine r_iload_n hR dX7_addRow_37 rfl 0 rfl ?_
        refine r_iadd hR dX7_addRow_38 ?_
        refine r_iload_n hR dX7_addRow_39 rfl 3 rfl ?_
        obtain ⟨hin, h⟩ := ck_some h
        obtain ⟨q_40, hq, h⟩ := bn_some h
        refine sv_X7_codes hR dX7_addRow_40 hin hq ?_
        refine r_aload_n hR dX7_addRow_41 rfl 1 rfl ?_
        refine g_X7_rowCount hR m_1_30 dX7_addRow_42 ?_
        refine r_iload_n hR dX7_addRow_45 rfl 2 rfl ?_
        refine r_iload_n hR dX7_addRow_46 rfl 0 rfl ?_
        refine r_iconst hR dX7_addRow_47 kc_iconst_1 ?_
        refine r_iadd hR dX7_addRow_48 ?_
        obtain ⟨hin, h⟩ := ck_some h
        obtain ⟨q_49, hq, h⟩ := bn_some h
        refine sv_X7_rowCount hR dX7_addRow_49 hin hq ?_
        refine r_iload_n hR dX7_addRow_50 rfl 0 rfl ?_
        refine r_iconst hR dX7_addRow_51 kc_iconst_1 ?_
        refine r_iadd hR dX7_addRow_52 ?_
        exact r_iret hR dX7_addRow_53 rfl (rt2 hP h)
      · replace h := it_f c_24 h
        refine r_iload_n hR dX7_addRow_27 rfl 0 rfl ?_
        exact r_iret hR dX7_addRow_28 rfl (rt2 hP h)
  · replace h := it_t c_5 h
    refine r_iconst hR dX7_addRow_8 kc_iconst_0 ?_
    exact r_iret hR dX7_addRow_9 rfl (rt2 hP h)
theorem c7_addRow {x1 : Int32} {x2 : Int32} {q : SS} {r : Int32} {q2 : SS} (h : f7_addRow x1 x2 q = some (r, q2)) : Ct wC 2 yX7_addRow cX7_addRow 4 (some .int) (fun ad => [.ref (ad 1), .int x1, .int x2]) q (fun _ => some (.int r)) q2 :=
  ct_of (by decide) (fun _ => Nat.le_of_ble_eq_true rfl) (fun ad J hR => t7_addRow hR ⟨rfl, rfl⟩ x1 x2 q h)
theorem t7_addSeeded_b96 (hR : Rl wC 3 RX7 cX7_addSeeded 11 (some .int) ad J P) (N : Nat) {r : Int32} {q2 : SS} (hP : P (some (.int r)) q2) (bk29 : Int32 → Int32 → Int32 → Int64 → Int32 → SS → Option (Int32 × SS)) (hbk29 : ∀ (x1 : Int32) (x4 : Int32) (x5 : Int32) (x6 : Int64) (x8 : Int32) (q : SS), bk29 x1 x4 x5 x6 x8 q = some (r, q2) → J [(0, .ref (ad 1)), (1, .int x1), (4, .int x4), (5, .int x5), (6, .long x6), (8, .int x8)] [] q 29) (bk42 : Int32 → Int32 → Int32 → Int64 → Int32 → Int32 → Int32 → SS → Option (Int32 × SS)) (hbk42 : ∀ (x1 : Int32) (x4 : Int32) (x5 : Int32) (x6 : Int64) (x8 : Int32) (x9 : Int32) (x10 : Int32) (q : SS), bk42 x1 x4 x5 x6 x8 x9 x10 q = some (r, q2) → J [(0, .ref (ad 1)), (1, .int x1), (4, .int x4), (5, .int x5), (6, .long x6), (8, .int x8), (9, .int x9), (10, .int x10)] [] q 42) (x1 : Int32) (x4 : Int32) (x5 : Int32) (x6 : Int64) (x8 : Int32) (x9 : Int32) (x10 : Int32) (q : SS) (h : f7_addSeeded_b96 N bk29 bk42 x1 x4 x5 x6 x8 x9 x10 q = some (r, q2)) : J [(0, .ref (ad 1)), (1, .int x1), (4, .int x4), (5, .int x5), (6, .long x6), (8, .int x8), (9, .int x9), (10, .int x10)] [] q 96 := by
  unfold f7_addSeeded_b96 at h
  obtain ⟨x10_96, hx, h⟩ := bn_some h
  refine r_iinc hR (i := 10) (lv' := [(10, .int x10_96), (0, .ref (ad 1)), (1, .int x1), (4, .int x4), (5, .int x5), (6, .long x6), (8, .int x8), (9, .int x9)]) dX7_addSeeded_96 7 rfl (inc_ok hx kc_iconst_1) (by decide) rfl ?_
  refine r_goto hR (tgt := 42) dX7_addSeeded_99 (by decide) ?_
  exact r_sub hR [1, 2, 3, 4, 5, 6, 7, 0] rfl (hbk42 _ _ _ _ _ _ _ _ h)
theorem t7_addSeeded_l42_B (hR : Rl wC 3 RX7 cX7_addSeeded 11 (some .int) ad J P) (N : Nat) {r : Int32} {q2 : SS} (hP : P (some (.int r)) q2) (bk29 : Int32 → Int32 → Int32 → Int64 → Int32 → SS → Option (Int32 × SS)) (hbk29 : ∀ (x1 : Int32) (x4 : Int32) (x5 : Int32) (x6 : Int64) (x8 : Int32) (q : SS), bk29 x1 x4 x5 x6 x8 q = some (r, q2) → J [(0, .ref (ad 1)), (1, .int x1), (4, .int x4), (5, .int x5), (6, .long x6), (8, .int x8)] [] q 29) (bk42 : Int32 → Int32 → Int32 → Int64 → Int32 → Int32 → Int32 → SS → Option (Int32 × SS)) (hbk42 : ∀ (x1 : Int32) (x4 : Int32) (x5 : Int32) (x6 : Int64) (x8 : Int32) (x9 : Int32) (x10 : Int32) (q : SS), bk42 x1 x4 x5 x6 x8 x9 x10 q = some (r, q2) → J [(0, .ref (ad 1)), (1, .int x1), (4, .int x4), (5, .int x5), (6, .long x6), (8, .int x8), (9, .int x9), (10, .int x10)] [] q 42) (x1 : Int32) (x4 : Int32) (x5 : Int32) (x6 : Int64) (x8 : Int32) (x9 : Int32) (x10 : Int32) (q : SS) (h : f7_addSeeded_l42_B N bk29 bk42 x1 x4 x5 x6 x8 x9 x10 q = some (r, q2)) : J [(0, .ref (ad 1)), (1, .int x1), (4, .int x4), (5, .int x5), (6, .long x6), (8, .int x8), (9, .int x9), (10, .int x10)] [] q 42 := by
  unfold f7_addSeeded_l42_B at h
  refine r_iload hR dX7_addSeeded_42 7 rfl ?_
  refine r_bipush hR dX7_addSeeded_44 kc_bipush_8 ?_
  refine r_icmp_ge hR (tgt := 102) dX7_addSeeded_46 (by decide) (fun c_46 => ?_) (fun c_46 => ?_)
  · replace h := it_t c_46 h
    refine r_aload_n hR dX7_addSeeded_102 rfl 0 rfl ?_
    refine r_iload_n hR dX7_addSeeded_103 rfl 1 rfl ?_
    refine r_iload hR dX7_addSeeded_104 6 rfl ?_
    obtain ⟨r_106, q_106, hc, h⟩ := bd2_some h
    refine r_callVi hR (c7_addRow hc) (cf_X7_71 (by decide)) ⟨m_2_20, m_2_21⟩ (As := [.int x1, .int x9]) (q0 := 1) (ci := 5) rfl rfl rfl rfl (rc_X7 ad _) (Nat.le_of_ble_eq_true rfl) rfl dX7_addSeeded_106 ?_
    refine r_pop hR dX7_addSeeded_109 rfl ?_
    obtain ⟨x8_110, hx, h⟩ := bn_some h
    refine r_iinc hR (i := 8) (lv' := [(8, .int x8_110), (0, .ref (ad 1)), (1, .int x1), (4, .int x4), (5, .int x5), (6, .long x6), (9, .int x9), (10, .int x10)]) dX7_addSeeded_110 5 rfl (inc_ok hx kc_iconst_1) (by decide) rfl ?_
    refine r_goto hR (tgt := 29) dX7_addSeeded_113 (by decide) ?_
    exact r_sub hR [1, 2, 3, 4, 5, 0] rfl (hbk29 _ _ _ _ _ _ h)
  · replace h := it_f c_46 h
    refine r_aload_n hR dX7_addSeeded_49 rfl 0 rfl ?_
    refine r_iload_n hR dX7_addSeeded_50 rfl 1 rfl ?_
    refine r_iload hR dX7_addSeeded_51 7 rfl ?_
    obtain ⟨r_53, hc, h⟩ := bd_some h
    refine r_callVi hR (c7_hasLetter hc) (cf_X7_59 (by decide)) ⟨m_2_37, m_2_38⟩ (As := [.int x1, .int x10]) (q0 := 1) (ci := 5) rfl rfl rfl rfl (rc_X7 ad _) (Nat.le_of_ble_eq_true rfl) rfl dX7_addSeeded_53 ?_
    refine r_if_eq hR (tgt := 96) dX7_addSeeded_56 (by decide) (fun c_56 => ?_) (fun c_56 => ?_)
    · replace h := it_t c_56 h
      exact r_sub hR [0, 1, 2, 3, 4, 5, 6, 7] rfl (t7_addSeeded_b96 hR N hP bk29 hbk29 bk42 hbk42 _ _ _ _ _ _ _ _ h)
    · replace h := it_f c_56 h
      refine r_ldc2 hR dX7_addSeeded_59 m_2_40 ?_
      refine r_lload hR dX7_addSeeded_62 4 rfl ?_
      refine r_lmul hR dX7_addSeeded_64 ?_
      refine r_ldc2 hR dX7_addSeeded_65 m_2_41 ?_
      refine r_ladd hR dX7_addSeeded_68 ?_
      refine r_ldc2 hR dX7_addSeeded_69 m_2_42 ?_
      refine r_land hR dX7_addSeeded_72 ?_
      obtain ⟨x6_73, hx, h⟩ := bn_some h
      refine r_lstore hR (i := 6) (lv' := [(6, .long x6_73), (0, .ref (ad 1)), (1, .int x1), (4, .int x4), (5, .int x5), (8, .int x8), (9, .int x9), (10, .int x10)]) dX7_addSeeded_73 hx (by decide) rfl ?_
      refine r_iload hR dX7_addSeeded_75 6 rfl ?_
      refine r_lload hR dX7_addSeeded_77 0 rfl ?_
      refine r_ldc2 hR dX7_addSeeded_79 m_2_43 ?_
      refine r_ldiv hR dX7_addSeeded_82 (by decide) ?_
      refine r_iload hR dX7_addSeeded_83 3 rfl ?_
      refine r_i2l hR dX7_addSeeded_85 ?_
      obtain ⟨hnz, h⟩ := dzl_some h
      refine r_lrem hR dX7_addSeeded_86 hnz ?_
      refine r_l2i hR dX7_addSeeded_87 ?_
      refine r_iconst hR dX7_addSeeded_88 kc_iconst_4 ?_
      refine r_iload hR dX7_addSeeded_89 7 rfl ?_
      refine r_imul hR dX7_addSeeded_91 ?_
      refine r_ishl hR dX7_addSeeded_92 ?_
      refine r_ior hR dX7_addSeeded_93 ?_
      obtain ⟨x9_94, hx, h⟩ := bn_some h
      refine r_istore hR (i := 9) (lv' := [(9, .int x9_94), (6, .long x6_73), (0, .ref (ad 1)), (1, .int x1), (4, .int x4), (5, .int x5), (8, .int x8), (10, .int x10)]) dX7_addSeeded_94 hx (by decide) rfl ?_
      exact r_sub hR [2, 3, 4, 5, 1, 6, 0, 7] rfl (t7_addSeeded_b96 hR N hP bk29 hbk29 bk42 hbk42 _ _ _ _ _ _ _ _ h)
theorem t7_addSeeded_l42 (hR : Rl wC 3 RX7 cX7_addSeeded 11 (some .int) ad J P) (N : Nat) {r : Int32} {q2 : SS} (hP : P (some (.int r)) q2) (bk29 : Int32 → Int32 → Int32 → Int64 → Int32 → SS → Option (Int32 × SS)) (hbk29 : ∀ (x1 : Int32) (x4 : Int32) (x5 : Int32) (x6 : Int64) (x8 : Int32) (q : SS), bk29 x1 x4 x5 x6 x8 q = some (r, q2) → J [(0, .ref (ad 1)), (1, .int x1), (4, .int x4), (5, .int x5), (6, .long x6), (8, .int x8)] [] q 29) : ∀ (n : Nat) (x1 : Int32) (x4 : Int32) (x5 : Int32) (x6 : Int64) (x8 : Int32) (x9 : Int32) (x10 : Int32) (q : SS), f7_addSeeded_l42 N bk29 n x1 x4 x5 x6 x8 x9 x10 q = some (r, q2) → J [(0, .ref (ad 1)), (1, .int x1), (4, .int x4), (5, .int x5), (6, .long x6), (8, .int x8), (9, .int x9), (10, .int x10)] [] q 42 := by
  intro n
  induction n with
  | zero => intro x1 x4 x5 x6 x8 x9 x10 q h; exact mu_noneF h
  | succ n ih => intro x1 x4 x5 x6 x8 x9 x10 q h; exact t7_addSeeded_l42_B hR N hP bk29 hbk29 _ ih x1 x4 x5 x6 x8 x9 x10 q h
theorem t7_addSeeded_l29_B (hR : Rl wC 3 RX7 cX7_addSeeded 11 (some .int) ad J P) (N : Nat) {r : Int32} {q2 : SS} (hP : P (some (.int r)) q2) (bk29 : Int32 → Int32 → Int32 → Int64 → Int32 → SS → Option (Int32 × SS)) (hbk29 : ∀ (x1 : Int32) (x4 : Int32) (x5 : Int32) (x6 : Int64) (x8 : Int32) (q : SS), bk29 x1 x4 x5 x6 x8 q = some (r, q2) → J [(0, .ref (ad 1)), (1, .int x1), (4, .int x4), (5, .int x5), (6, .long x6), (8, .int x8)] [] q 29) (x1 : Int32) (x4 : Int32) (x5 : Int32) (x6 : Int64) (x8 : Int32) (q : SS) (h : f7_addSeeded_l29_B N bk29 x1 x4 x5 x6 x8 q = some (r, q2)) : J [(0, .ref (ad 1)), (1, .int x1), (4, .int x4), (5, .int x5), (6, .long x6), (8, .int x8)] [] q 29 := by
  unfold f7_addSeeded_l29_B at h
  refine r_iload hR dX7_addSeeded_29 5 rfl ?_
  refine r_iload hR dX7_addSeeded_31 3 rfl ?_
  refine r_icmp_ge hR (tgt := 116) dX7_addSeeded_33 (by decide) (fun c_33 => ?_) (fun c_33 => ?_)
  · replace h := it_t c_33 h
    refine r_iload hR dX7_addSeeded_116 3 rfl ?_
    exact r_iret hR dX7_addSeeded_118 rfl (rt2 hP h)
  · replace h := it_f c_33 h
    refine r_iconst hR dX7_addSeeded_36 kc_iconst_0 ?_
    refine r_istore hR (i := 9) (lv' := [(9, .int (0 : Int32)), (0, .ref (ad 1)), (1, .int x1), (4, .int x4), (5, .int x5), (6, .long x6), (8, .int x8)]) dX7_addSeeded_37 rfl (by decide) rfl ?_
    refine r_iconst hR dX7_addSeeded_39 kc_iconst_0 ?_
    refine r_istore hR (i := 10) (lv' := [(10, .int (0 : Int32)), (9, .int (0 : Int32)), (0, .ref (ad 1)), (1, .int x1), (4, .int x4), (5, .int x5), (6, .long x6), (8, .int x8)]) dX7_addSeeded_40 rfl (by decide) rfl ?_
    exact r_sub hR [2, 3, 4, 5, 6, 7, 1, 0] rfl (t7_addSeeded_l42 hR N hP bk29 hbk29 N _ _ _ _ _ _ _ _ h)
theorem t7_addSeeded_l29 (hR : Rl wC 3 RX7 cX7_addSeeded 11 (some .int) ad J P) (N : Nat) {r : Int32} {q2 : SS} (hP : P (some (.int r)) q2) : ∀ (n : Nat) (x1 : Int32) (x4 : Int32) (x5 : Int32) (x6 : Int64) (x8 : Int32) (q : SS), f7_addSeeded_l29 N n x1 x4 x5 x6 x8 q = some (r, q2) → J [(0, .ref (ad 1)), (1, .int x1), (4, .int x4), (5, .int x5), (6, .long x6), (8, .int x8)] [] q 29 := by
  intro n
  induction n with
  | zero => intro x1 x4 x5 x6 x8 q h; exact mu_noneF h
  | succ n ih => intro x1 x4 x5 x6 x8 q h; exact t7_addSeeded_l29_B hR N hP _ ih x1 x4 x5 x6 x8 q h
theorem t7_addSeeded (hR : Rl wC 3 RX7 cX7_addSeeded 11 (some .int) ad J P) (N : Nat) {r : Int32} {q2 : SS} (hP : P (some (.int r)) q2) (x1 : Int32) (x2 : Int32) (x3 : Int32) (x4 : Int32) (q : SS) (h : f7_addSeeded N x1 x2 x3 x4 q = some (r, q2)) : J [(0, .ref (ad 1)), (1, .int x1), (2, .int x2), (3, .int x3), (4, .int x4)] [] q 0 := by
  unfold f7_addSeeded at h
  refine r_iload hR dX7_addSeeded_0 4 rfl ?_
  refine r_iconst hR dX7_addSeeded_2 kc_iconst_1 ?_
  refine r_icmp_ge hR (tgt := 8) dX7_addSeeded_3 (by decide) (fun c_3 => ?_) (fun c_3 => ?_)
  · replace h := it_t c_3 h
    refine r_iload_n hR dX7_addSeeded_8 rfl 3 rfl ?_
    refine r_bipush hR dX7_addSeeded_9 kc_bipush_8 ?_
    refine r_aload_n hR dX7_addSeeded_11 rfl 0 rfl ?_
    refine r_iload_n hR dX7_addSeeded_12 rfl 1 rfl ?_
    obtain ⟨r_13, hc, h⟩ := bd_some h
    refine r_callVi hR (c7_rowsOf hc) (cf_X7_37 (by decide)) ⟨m_2_13, m_2_14⟩ (As := [.int x1]) (q0 := 1) (ci := 5) rfl rfl rfl rfl (rc_X7 ad _) (Nat.le_of_ble_eq_true rfl) rfl dX7_addSeeded_13 ?_
    refine r_isub hR dX7_addSeeded_16 ?_
    refine r_mmin hR dX7_addSeeded_17 m_2_33 m_2_34 m_1_11 m_2_35 (by decide) (Nat.le_of_ble_eq_true rfl) ?_
    obtain ⟨x5_20, hx, h⟩ := bn_some h
    refine r_istore hR (i := 5) (lv' := [(5, .int x5_20), (0, .ref (ad 1)), (1, .int x1), (2, .int x2), (3, .int x3), (4, .int x4)]) dX7_addSeeded_20 hx (by decide) rfl ?_
    refine r_iload_n hR dX7_addSeeded_22 rfl 3 rfl ?_
    refine r_i2l hR dX7_addSeeded_23 ?_
    obtain ⟨x6_24, hx, h⟩ := bn_some h
    refine r_lstore hR (i := 6) (lv' := [(6, .long x6_24), (5, .int x5_20), (0, .ref (ad 1)), (1, .int x1), (2, .int x2), (3, .int x3), (4, .int x4)]) dX7_addSeeded_24 hx (by decide) rfl ?_
    refine r_iconst hR dX7_addSeeded_26 kc_iconst_0 ?_
    refine r_istore hR (i := 8) (lv' := [(8, .int (0 : Int32)), (6, .long x6_24), (5, .int x5_20), (0, .ref (ad 1)), (1, .int x1), (2, .int x2), (3, .int x3), (4, .int x4)]) dX7_addSeeded_27 rfl (by decide) rfl ?_
    exact r_sub hR [3, 4, 7, 2, 1, 0] rfl (t7_addSeeded_l29 hR N hP N _ _ _ _ _ _ h)
  · replace h := it_f c_3 h
    refine r_iconst hR dX7_addSeeded_6 kc_iconst_0 ?_
    exact r_iret hR dX7_addSeeded_7 rfl (rt2 hP h)
theorem c7_addSeeded (N : Nat) {x1 : Int32} {x2 : Int32} {x3 : Int32} {x4 : Int32} {q : SS} {r : Int32} {q2 : SS} (h : f7_addSeeded N x1 x2 x3 x4 q = some (r, q2)) : Ct wC 3 yX7_addSeeded cX7_addSeeded 11 (some .int) (fun ad => [.ref (ad 1), .int x1, .int x2, .int x3, .int x4]) q (fun _ => some (.int r)) q2 :=
  ct_of (by decide) (fun _ => Nat.le_of_ble_eq_true rfl) (fun ad J hR => t7_addSeeded hR N ⟨rfl, rfl⟩ x1 x2 x3 x4 q h)
theorem t7_dropRow_l19_B (hR : Rl wC 2 RX7 cX7_dropRow 4 (some .int) ad J P) (N : Nat) {r : Int32} {q2 : SS} (hP : P (some (.int r)) q2) (bk19 : Int32 → Int32 → SS → Option (Int32 × SS)) (hbk19 : ∀ (x1 : Int32) (x3 : Int32) (q : SS), bk19 x1 x3 q = some (r, q2) → J [(0, .ref (ad 1)), (1, .int x1), (3, .int x3)] [] q 19) (x1 : Int32) (x3 : Int32) (q : SS) (h : f7_dropRow_l19_B N bk19 x1 x3 q = some (r, q2)) : J [(0, .ref (ad 1)), (1, .int x1), (3, .int x3)] [] q 19 := by
  unfold f7_dropRow_l19_B at h
  refine r_iload_n hR dX7_dropRow_19 rfl 2 rfl ?_
  refine r_aload_n hR dX7_dropRow_20 rfl 0 rfl ?_
  refine g_X7_rowCount hR m_1_30 dX7_dropRow_21 ?_
  refine r_iload_n hR dX7_dropRow_24 rfl 1 rfl ?_
  obtain ⟨hin, h⟩ := ck_some h
  refine ld_X7_rowCount hR dX7_dropRow_25 hin ?_
  refine r_icmp_ge hR (tgt := 59) dX7_dropRow_26 (by decide) (fun c_26 => ?_) (fun c_26 => ?_)
  · replace h := it_t c_26 h
    refine r_aload_n hR dX7_dropRow_59 rfl 0 rfl ?_
    refine g_X7_rowCount hR m_1_30 dX7_dropRow_60 ?_
    refine r_iload_n hR dX7_dropRow_63 rfl 1 rfl ?_
    refine r_dup2 hR dX7_dropRow_64 rfl rfl ?_
    obtain ⟨hin, h⟩ := ck_some h
    refine ld_X7_rowCount hR dX7_dropRow_65 hin ?_
    refine r_iconst hR dX7_dropRow_66 kc_iconst_1 ?_
    refine r_isub hR dX7_dropRow_67 ?_
    obtain ⟨hin, h⟩ := ck_some h
    obtain ⟨q_68, hq, h⟩ := bn_some h
    refine sv_X7_rowCount hR dX7_dropRow_68 hin hq ?_
    refine r_aload_n hR dX7_dropRow_69 rfl 0 rfl ?_
    refine g_X7_rowCount hR m_1_30 dX7_dropRow_70 ?_
    refine r_iload_n hR dX7_dropRow_73 rfl 1 rfl ?_
    obtain ⟨hin, h⟩ := ck_some h
    refine ld_X7_rowCount hR dX7_dropRow_74 hin ?_
    exact r_iret hR dX7_dropRow_75 rfl (rt2 hP h)
  · replace h := it_f c_26 h
    refine r_aload_n hR dX7_dropRow_29 rfl 0 rfl ?_
    refine g_X7_codes hR m_1_31 dX7_dropRow_30 ?_
    refine r_iload_n hR dX7_dropRow_33 rfl 1 rfl ?_
    refine r_bipush hR dX7_dropRow_34 kc_bipush_8 ?_
    refine r_imul hR dX7_dropRow_36 ?_
    refine r_iload_n hR dX7_dropRow_37 rfl 2 rfl ?_
    refine r_iadd hR dX7_dropRow_38 ?_
    refine r_iconst hR dX7_dropRow_39 kc_iconst_1 ?_
    refine r_isub hR dX7_dropRow_40 ?_
    refine r_aload_n hR dX7_dropRow_41 rfl 0 rfl ?_
    refine g_X7_codes hR m_1_31 dX7_dropRow_42 ?_
    refine r_iload_n hR dX7_dropRow_45 rfl 1 rfl ?_
    refine r_bipush hR dX7_dropRow_46 kc_bipush_8 ?_
    refine r_imul hR dX7_dropRow_48 ?_
    refine r_iload_n hR dX7_dropRow_49 rfl 2 rfl ?_
    refine r_iadd hR dX7_dropRow_50 ?_
    obtain ⟨hin, h⟩ := ck_some h
    refine ld_X7_codes hR dX7_dropRow_51 hin ?_
    obtain ⟨hin, h⟩ := ck_some h
    obtain ⟨q_52, hq, h⟩ := bn_some h
    refine sv_X7_codes hR dX7_dropRow_52 hin hq ?_
    obtain ⟨x3_53, hx, h⟩ := bn_some h
    refine r_iinc hR (i := 3) (lv' := [(3, .int x3_53), (0, .ref (ad 1)), (1, .int x1)]) dX7_dropRow_53 2 rfl (inc_ok hx kc_iconst_1) (by decide) rfl ?_
    refine r_goto hR (tgt := 19) dX7_dropRow_56 (by decide) ?_
    exact r_sub hR [1, 2, 0] rfl (hbk19 _ _ _ h)
theorem t7_dropRow_l19 (hR : Rl wC 2 RX7 cX7_dropRow 4 (some .int) ad J P) (N : Nat) {r : Int32} {q2 : SS} (hP : P (some (.int r)) q2) : ∀ (n : Nat) (x1 : Int32) (x3 : Int32) (q : SS), f7_dropRow_l19 N n x1 x3 q = some (r, q2) → J [(0, .ref (ad 1)), (1, .int x1), (3, .int x3)] [] q 19 := by
  intro n
  induction n with
  | zero => intro x1 x3 q h; exact mu_noneF h
  | succ n ih => intro x1 x3 q h; exact t7_dropRow_l19_B hR N hP _ ih x1 x3 q h
theorem t7_dropRow (hR : Rl wC 2 RX7 cX7_dropRow 4 (some .int) ad J P) (N : Nat) {r : Int32} {q2 : SS} (hP : P (some (.int r)) q2) (x1 : Int32) (x2 : Int32) (q : SS) (h : f7_dropRow N x1 x2 q = some (r, q2)) : J [(0, .ref (ad 1)), (1, .int x1), (2, .int x2)] [] q 0 := by
  unfold f7_dropRow at h
  refine r_aload_n hR dX7_dropRow_0 rfl 0 rfl ?_
  refine r_iload_n hR dX7_dropRow_1 rfl 1 rfl ?_
  refine r_iload_n hR dX7_dropRow_2 rfl 2 rfl ?_
  obtain ⟨r_3, hc, h⟩ := bd_some h
  refine r_callVi hR (c7_holdsRow hc) (cf_X7_74 (by decide)) ⟨m_2_50, m_2_51⟩ (As := [.int x1, .int x2]) (q0 := 1) (ci := 5) rfl rfl rfl rfl (rc_X7 ad _) (Nat.le_of_ble_eq_true rfl) rfl dX7_dropRow_3 ?_
  refine r_if_ne hR (tgt := 15) dX7_dropRow_6 (by decide) (fun c_6 => ?_) (fun c_6 => ?_)
  · replace h := it_f c_6 h
    refine r_iload_n hR dX7_dropRow_15 rfl 2 rfl ?_
    refine r_iconst hR dX7_dropRow_16 kc_iconst_1 ?_
    refine r_iadd hR dX7_dropRow_17 ?_
    obtain ⟨x3_18, hx, h⟩ := bn_some h
    refine r_istore_n hR (i := 3) (lv' := [(3, .int x3_18), (0, .ref (ad 1)), (1, .int x1), (2, .int x2)]) dX7_dropRow_18 hx rfl (by decide) rfl ?_
    exact r_sub hR [1, 2, 0] rfl (t7_dropRow_l19 hR N hP N _ _ _ h)
  · replace h := it_t c_6 h
    refine r_aload_n hR dX7_dropRow_9 rfl 0 rfl ?_
    refine r_iload_n hR dX7_dropRow_10 rfl 1 rfl ?_
    obtain ⟨r_11, hc, h⟩ := bd_some h
    refine r_callVi hR (c7_rowsOf hc) (cf_X7_37 (by decide)) ⟨m_2_13, m_2_14⟩ (As := [.int x1]) (q0 := 1) (ci := 5) rfl rfl rfl rfl (rc_X7 ad _) (Nat.le_of_ble_eq_true rfl) rfl dX7_dropRow_11 ?_
    exact r_iret hR dX7_dropRow_14 rfl (rt2 hP h)
theorem c7_dropRow (N : Nat) {x1 : Int32} {x2 : Int32} {q : SS} {r : Int32} {q2 : SS} (h : f7_dropRow N x1 x2 q = some (r, q2)) : Ct wC 2 yX7_dropRow cX7_dropRow 4 (some .int) (fun ad => [.ref (ad 1), .int x1, .int x2]) q (fun _ => some (.int r)) q2 :=
  ct_of (by decide) (fun _ => Nat.le_of_ble_eq_true rfl) (fun ad J hR => t7_dropRow hR N ⟨rfl, rfl⟩ x1 x2 q h)
theorem t7_placeOf_b64 (hR : Rl wC 2 RX7 cX7_placeOf 8 (some .int) ad J P) (N : Nat) (q : SS) {r : Int32} (hP : P (some (.int r)) q) (bk18 : Int32 → Int32 → Int32 → Int32 → Int32 → Int32 → Option Int32) (hbk18 : ∀ (x1 : Int32) (x2 : Int32) (x3 : Int32) (x4 : Int32) (x5 : Int32) (x6 : Int32), bk18 x1 x2 x3 x4 x5 x6 = some r → J [(0, .ref (ad 1)), (1, .int x1), (2, .int x2), (3, .int x3), (4, .int x4), (5, .int x5), (6, .int x6)] [] q 18) (x1 : Int32) (x2 : Int32) (x3 : Int32) (x4 : Int32) (x5 : Int32) (x6 : Int32) (h : f7_placeOf_b64 N q bk18 x1 x2 x3 x4 x5 x6 = some r) : J [(0, .ref (ad 1)), (1, .int x1), (2, .int x2), (3, .int x3), (4, .int x4), (5, .int x5), (6, .int x6)] [] q 64 := by
  unfold f7_placeOf_b64 at h
  obtain ⟨x6_64, hx, h⟩ := bn_some h
  refine r_iinc hR (i := 6) (lv' := [(6, .int x6_64), (0, .ref (ad 1)), (1, .int x1), (2, .int x2), (3, .int x3), (4, .int x4), (5, .int x5)]) dX7_placeOf_64 6 rfl (inc_ok hx kc_iconst_1) (by decide) rfl ?_
  refine r_goto hR (tgt := 18) dX7_placeOf_67 (by decide) ?_
  exact r_sub hR [1, 2, 3, 4, 5, 6, 0] rfl (hbk18 _ _ _ _ _ _ h)
theorem t7_placeOf_b61 (hR : Rl wC 2 RX7 cX7_placeOf 8 (some .int) ad J P) (N : Nat) (q : SS) {r : Int32} (hP : P (some (.int r)) q) (bk18 : Int32 → Int32 → Int32 → Int32 → Int32 → Int32 → Option Int32) (hbk18 : ∀ (x1 : Int32) (x2 : Int32) (x3 : Int32) (x4 : Int32) (x5 : Int32) (x6 : Int32), bk18 x1 x2 x3 x4 x5 x6 = some r → J [(0, .ref (ad 1)), (1, .int x1), (2, .int x2), (3, .int x3), (4, .int x4), (5, .int x5), (6, .int x6)] [] q 18) (x1 : Int32) (x2 : Int32) (x3 : Int32) (x4 : Int32) (x5 : Int32) (x6 : Int32) (h : f7_placeOf_b61 N q bk18 x1 x2 x3 x4 x5 x6 = some r) : J [(0, .ref (ad 1)), (1, .int x1), (2, .int x2), (3, .int x3), (4, .int x4), (5, .int x5), (6, .int x6)] [] q 61 := by
  unfold f7_placeOf_b61 at h
  obtain ⟨x5_61, hx, h⟩ := bn_some h
  refine r_iinc hR (i := 5) (lv' := [(5, .int x5_61), (0, .ref (ad 1)), (1, .int x1), (2, .int x2), (3, .int x3), (4, .int x4), (6, .int x6)]) dX7_placeOf_61 5 rfl (inc_ok hx kc_iconst_1) (by decide) rfl ?_
  exact r_sub hR [1, 2, 3, 4, 5, 0, 6] rfl (t7_placeOf_b64 hR N q hP bk18 hbk18 _ _ _ _ _ _ h)
theorem t7_placeOf_l18_B (hR : Rl wC 2 RX7 cX7_placeOf 8 (some .int) ad J P) (N : Nat) (q : SS) {r : Int32} (hP : P (some (.int r)) q) (bk18 : Int32 → Int32 → Int32 → Int32 → Int32 → Int32 → Option Int32) (hbk18 : ∀ (x1 : Int32) (x2 : Int32) (x3 : Int32) (x4 : Int32) (x5 : Int32) (x6 : Int32), bk18 x1 x2 x3 x4 x5 x6 = some r → J [(0, .ref (ad 1)), (1, .int x1), (2, .int x2), (3, .int x3), (4, .int x4), (5, .int x5), (6, .int x6)] [] q 18) (x1 : Int32) (x2 : Int32) (x3 : Int32) (x4 : Int32) (x5 : Int32) (x6 : Int32) (h : f7_placeOf_l18_B N q bk18 x1 x2 x3 x4 x5 x6 = some r) : J [(0, .ref (ad 1)), (1, .int x1), (2, .int x2), (3, .int x3), (4, .int x4), (5, .int x5), (6, .int x6)] [] q 18 := by
  unfold f7_placeOf_l18_B at h
  refine r_iload hR dX7_placeOf_18 6 rfl ?_
  refine r_aload_n hR dX7_placeOf_20 rfl 0 rfl ?_
  refine r_iload_n hR dX7_placeOf_21 rfl 1 rfl ?_
  obtain ⟨r_22, hc, h⟩ := bd_some h
  refine r_callVi hR (c7_rowsOf hc) (cf_X7_37 (by decide)) ⟨m_2_13, m_2_14⟩ (As := [.int x1]) (q0 := 1) (ci := 5) rfl rfl rfl rfl (rc_X7 ad _) (Nat.le_of_ble_eq_true rfl) rfl dX7_placeOf_22 ?_
  refine r_icmp_ge hR (tgt := 70) dX7_placeOf_25 (by decide) (fun c_25 => ?_) (fun c_25 => ?_)
  · replace h := it_t c_25 h
    refine r_iload hR dX7_placeOf_70 5 rfl ?_
    exact r_iret hR dX7_placeOf_72 rfl (rt1 hP h)
  · replace h := it_f c_25 h
    refine r_aload_n hR dX7_placeOf_28 rfl 0 rfl ?_
    refine r_iload_n hR dX7_placeOf_29 rfl 1 rfl ?_
    refine r_iload hR dX7_placeOf_30 6 rfl ?_
    obtain ⟨r_32, hc, h⟩ := bd_some h
    refine r_callVi hR (c7_codeAt hc) (cf_X7_81 (by decide)) ⟨m_2_72, m_2_73⟩ (As := [.int x1, .int x6]) (q0 := 1) (ci := 5) rfl rfl rfl rfl (rc_X7 ad _) (Nat.le_of_ble_eq_true rfl) rfl dX7_placeOf_32 ?_
    refine r_iload_n hR dX7_placeOf_35 rfl 3 rfl ?_
    obtain ⟨r_36, hc, h⟩ := bd_some h
    refine r_callSi hR (c4_numberIn hc) (cf_X7_84 (by decide)) m_2_76 (As := [.int r_32, .int x3]) rfl rfl (Nat.le_of_ble_eq_true rfl) rfl dX7_placeOf_36 ?_
    refine r_istore hR (i := 7) (lv' := [(7, .int r_36), (0, .ref (ad 1)), (1, .int x1), (2, .int x2), (3, .int x3), (4, .int x4), (5, .int x5), (6, .int x6)]) dX7_placeOf_39 rfl (by decide) rfl ?_
    refine r_iload hR dX7_placeOf_41 0 rfl ?_
    refine r_iload hR dX7_placeOf_43 5 rfl ?_
    refine r_icmp_lt hR (tgt := 61) dX7_placeOf_45 (by decide) (fun c_45 => ?_) (fun c_45 => ?_)
    · replace h := it_t c_45 h
      exact r_sub hR [1, 2, 3, 4, 5, 6, 7] rfl (t7_placeOf_b61 hR N q hP bk18 hbk18 _ _ _ _ _ _ h)
    · replace h := it_f c_45 h
      refine r_iload hR dX7_placeOf_48 0 rfl ?_
      refine r_iload hR dX7_placeOf_50 5 rfl ?_
      refine r_icmp_ne hR (tgt := 64) dX7_placeOf_52 (by decide) (fun c_52 => ?_) (fun c_52 => ?_)
      · replace h := it_f c_52 h
        exact r_sub hR [1, 2, 3, 4, 5, 6, 7] rfl (t7_placeOf_b64 hR N q hP bk18 hbk18 _ _ _ _ _ _ h)
      · replace h := it_t c_52 h
        refine r_iload hR dX7_placeOf_55 7 rfl ?_
        refine r_iload_n hR dX7_placeOf_57 rfl 3 rfl ?_
        refine r_icmp_ge hR (tgt := 64) dX7_placeOf_58 (by decide) (fun c_58 => ?_) (fun c_58 => ?_)
        · replace h := it_t c_58 h
          exact r_sub hR [1, 2, 3, 4, 5, 6, 7] rfl (t7_placeOf_b64 hR N q hP bk18 hbk18 _ _ _ _ _ _ h)
        · replace h := it_f c_58 h
          exact r_sub hR [1, 2, 3, 4, 5, 6, 7] rfl (t7_placeOf_b61 hR N q hP bk18 hbk18 _ _ _ _ _ _ h)
theorem t7_placeOf_l18 (hR : Rl wC 2 RX7 cX7_placeOf 8 (some .int) ad J P) (N : Nat) (q : SS) {r : Int32} (hP : P (some (.int r)) q) : ∀ (n : Nat) (x1 : Int32) (x2 : Int32) (x3 : Int32) (x4 : Int32) (x5 : Int32) (x6 : Int32), f7_placeOf_l18 N q n x1 x2 x3 x4 x5 x6 = some r → J [(0, .ref (ad 1)), (1, .int x1), (2, .int x2), (3, .int x3), (4, .int x4), (5, .int x5), (6, .int x6)] [] q 18 := by
  intro n
  induction n with
  | zero => intro x1 x2 x3 x4 x5 x6 h; exact mu_noneF h
  | succ n ih => intro x1 x2 x3 x4 x5 x6 h; exact t7_placeOf_l18_B hR N q hP _ ih x1 x2 x3 x4 x5 x6 h
theorem t7_placeOf (hR : Rl wC 2 RX7 cX7_placeOf 8 (some .int) ad J P) (N : Nat) (q : SS) {r : Int32} (hP : P (some (.int r)) q) (x1 : Int32) (x2 : Int32) (x3 : Int32) (h : f7_placeOf N q x1 x2 x3 = some r) : J [(0, .ref (ad 1)), (1, .int x1), (2, .int x2), (3, .int x3)] [] q 0 := by
  unfold f7_placeOf at h
  refine r_aload_n hR dX7_placeOf_0 rfl 0 rfl ?_
  refine r_iload_n hR dX7_placeOf_1 rfl 1 rfl ?_
  refine r_iload_n hR dX7_placeOf_2 rfl 2 rfl ?_
  obtain ⟨r_3, hc, h⟩ := bd_some h
  refine r_callVi hR (c7_codeAt hc) (cf_X7_81 (by decide)) ⟨m_2_72, m_2_73⟩ (As := [.int x1, .int x2]) (q0 := 1) (ci := 5) rfl rfl rfl rfl (rc_X7 ad _) (Nat.le_of_ble_eq_true rfl) rfl dX7_placeOf_3 ?_
  refine r_iload_n hR dX7_placeOf_6 rfl 3 rfl ?_
  obtain ⟨r_7, hc, h⟩ := bd_some h
  refine r_callSi hR (c4_numberIn hc) (cf_X7_84 (by decide)) m_2_76 (As := [.int r_3, .int x3]) rfl rfl (Nat.le_of_ble_eq_true rfl) rfl dX7_placeOf_7 ?_
  refine r_istore hR (i := 4) (lv' := [(4, .int r_7), (0, .ref (ad 1)), (1, .int x1), (2, .int x2), (3, .int x3)]) dX7_placeOf_10 rfl (by decide) rfl ?_
  refine r_iconst hR dX7_placeOf_12 kc_iconst_0 ?_
  refine r_istore hR (i := 5) (lv' := [(5, .int (0 : Int32)), (4, .int r_7), (0, .ref (ad 1)), (1, .int x1), (2, .int x2), (3, .int x3)]) dX7_placeOf_13 rfl (by decide) rfl ?_
  refine r_iconst hR dX7_placeOf_15 kc_iconst_0 ?_
  refine r_istore hR (i := 6) (lv' := [(6, .int (0 : Int32)), (5, .int (0 : Int32)), (4, .int r_7), (0, .ref (ad 1)), (1, .int x1), (2, .int x2), (3, .int x3)]) dX7_placeOf_16 rfl (by decide) rfl ?_
  exact r_sub hR [3, 4, 5, 6, 2, 1, 0] rfl (t7_placeOf_l18 hR N q hP N _ _ _ _ _ _ h)
theorem c7_placeOf (N : Nat) {x1 : Int32} {x2 : Int32} {x3 : Int32} {q : SS} {r : Int32} (h : f7_placeOf N q x1 x2 x3 = some r) : Ct wC 2 yX7_placeOf cX7_placeOf 8 (some .int) (fun ad => [.ref (ad 1), .int x1, .int x2, .int x3]) q (fun _ => some (.int r)) q :=
  ct_of (by decide) (fun _ => Nat.le_of_ble_eq_true rfl) (fun ad J hR => t7_placeOf hR N q ⟨rfl, rfl⟩ x1 x2 x3 h)
theorem t7_sortRows_l73_B (hR : Rl wC 3 RX7 cX7_sortRows 7 (some .int) ad J P) (N : Nat) {r : Int32} {q2 : SS} (hP : P (some (.int r)) q2) (bk73 : Int32 → Int32 → Int32 → Int32 → SS → Option (Int32 × SS)) (hbk73 : ∀ (x1 : Int32) (x3 : Int32) (x4 : Int32) (x5 : Int32) (q : SS), bk73 x1 x3 x4 x5 q = some (r, q2) → J [(0, .ref (ad 1)), (1, .int x1), (3, .int x3), (4, .int x4), (5, .int x5)] [] q 73) (x1 : Int32) (x3 : Int32) (x4 : Int32) (x5 : Int32) (q : SS) (h : f7_sortRows_l73_B N bk73 x1 x3 x4 x5 q = some (r, q2)) : J [(0, .ref (ad 1)), (1, .int x1), (3, .int x3), (4, .int x4), (5, .int x5)] [] q 73 := by
  unfold f7_sortRows_l73_B at h
  refine r_iload hR dX7_sortRows_73 4 rfl ?_
  refine r_iload_n hR dX7_sortRows_75 rfl 2 rfl ?_
  refine r_icmp_ge hR (tgt := 104) dX7_sortRows_76 (by decide) (fun c_76 => ?_) (fun c_76 => ?_)
  · replace h := it_t c_76 h
    refine r_iload hR dX7_sortRows_104 3 rfl ?_
    exact r_iret hR dX7_sortRows_106 rfl (rt2 hP h)
  · replace h := it_f c_76 h
    refine r_aload_n hR dX7_sortRows_79 rfl 0 rfl ?_
    refine g_X7_codes hR m_1_31 dX7_sortRows_80 ?_
    refine r_iload_n hR dX7_sortRows_83 rfl 1 rfl ?_
    refine r_bipush hR dX7_sortRows_84 kc_bipush_8 ?_
    refine r_imul hR dX7_sortRows_86 ?_
    refine r_iload hR dX7_sortRows_87 4 rfl ?_
    refine r_iadd hR dX7_sortRows_89 ?_
    refine r_aload_n hR dX7_sortRows_90 rfl 0 rfl ?_
    refine g_X7_sorted hR m_1_32 dX7_sortRows_91 ?_
    refine r_iload hR dX7_sortRows_94 4 rfl ?_
    obtain ⟨hin, h⟩ := ck_some h
    refine ld_X7_sorted hR dX7_sortRows_96 hin ?_
    obtain ⟨hin, h⟩ := ck_some h
    obtain ⟨q_97, hq, h⟩ := bn_some h
    refine sv_X7_codes hR dX7_sortRows_97 hin hq ?_
    obtain ⟨x5_98, hx, h⟩ := bn_some h
    refine r_iinc hR (i := 5) (lv' := [(5, .int x5_98), (0, .ref (ad 1)), (1, .int x1), (3, .int x3), (4, .int x4)]) dX7_sortRows_98 4 rfl (inc_ok hx kc_iconst_1) (by decide) rfl ?_
    refine r_goto hR (tgt := 73) dX7_sortRows_101 (by decide) ?_
    exact r_sub hR [1, 2, 3, 4, 0] rfl (hbk73 _ _ _ _ _ h)
theorem t7_sortRows_l73 (hR : Rl wC 3 RX7 cX7_sortRows 7 (some .int) ad J P) (N : Nat) {r : Int32} {q2 : SS} (hP : P (some (.int r)) q2) : ∀ (n : Nat) (x1 : Int32) (x3 : Int32) (x4 : Int32) (x5 : Int32) (q : SS), f7_sortRows_l73 N n x1 x3 x4 x5 q = some (r, q2) → J [(0, .ref (ad 1)), (1, .int x1), (3, .int x3), (4, .int x4), (5, .int x5)] [] q 73 := by
  intro n
  induction n with
  | zero => intro x1 x3 x4 x5 q h; exact mu_noneF h
  | succ n ih => intro x1 x3 x4 x5 q h; exact t7_sortRows_l73_B hR N hP _ ih x1 x3 x4 x5 q h
theorem t7_sortRows_b64 (hR : Rl wC 3 RX7 cX7_sortRows 7 (some .int) ad J P) (N : Nat) {r : Int32} {q2 : SS} (hP : P (some (.int r)) q2) (bk12 : Int32 → Int32 → Int32 → Int32 → Int32 → SS → Option (Int32 × SS)) (hbk12 : ∀ (x1 : Int32) (x2 : Int32) (x3 : Int32) (x4 : Int32) (x5 : Int32) (q : SS), bk12 x1 x2 x3 x4 x5 q = some (r, q2) → J [(0, .ref (ad 1)), (1, .int x1), (2, .int x2), (3, .int x3), (4, .int x4), (5, .int x5)] [] q 12) (x1 : Int32) (x2 : Int32) (x3 : Int32) (x4 : Int32) (x5 : Int32) (q : SS) (h : f7_sortRows_b64 N bk12 x1 x2 x3 x4 x5 q = some (r, q2)) : J [(0, .ref (ad 1)), (1, .int x1), (2, .int x2), (3, .int x3), (4, .int x4), (5, .int x5)] [] q 64 := by
  unfold f7_sortRows_b64 at h
  obtain ⟨x5_64, hx, h⟩ := bn_some h
  refine r_iinc hR (i := 5) (lv' := [(5, .int x5_64), (0, .ref (ad 1)), (1, .int x1), (2, .int x2), (3, .int x3), (4, .int x4)]) dX7_sortRows_64 5 rfl (inc_ok hx kc_iconst_1) (by decide) rfl ?_
  refine r_goto hR (tgt := 12) dX7_sortRows_67 (by decide) ?_
  exact r_sub hR [1, 2, 3, 4, 5, 0] rfl (hbk12 _ _ _ _ _ _ h)
theorem t7_sortRows_b38 (hR : Rl wC 3 RX7 cX7_sortRows 7 (some .int) ad J P) (N : Nat) {r : Int32} {q2 : SS} (hP : P (some (.int r)) q2) (bk12 : Int32 → Int32 → Int32 → Int32 → Int32 → SS → Option (Int32 × SS)) (hbk12 : ∀ (x1 : Int32) (x2 : Int32) (x3 : Int32) (x4 : Int32) (x5 : Int32) (q : SS), bk12 x1 x2 x3 x4 x5 q = some (r, q2) → J [(0, .ref (ad 1)), (1, .int x1), (2, .int x2), (3, .int x3), (4, .int x4), (5, .int x5)] [] q 12) (x1 : Int32) (x2 : Int32) (x3 : Int32) (x4 : Int32) (x5 : Int32) (x6 : Int32) (q : SS) (h : f7_sortRows_b38 N bk12 x1 x2 x3 x4 x5 x6 q = some (r, q2)) : J [(0, .ref (ad 1)), (1, .int x1), (2, .int x2), (3, .int x3), (4, .int x4), (5, .int x5), (6, .int x6)] [] q 38 := by
  unfold f7_sortRows_b38 at h
  refine r_iload hR dX7_sortRows_38 6 rfl ?_
  refine r_if_lt hR (tgt := 64) dX7_sortRows_40 (by decide) (fun c_40 => ?_) (fun c_40 => ?_)
  · replace h := it_t c_40 h
    exact r_sub hR [0, 1, 2, 3, 4, 5] rfl (t7_sortRows_b64 hR N hP bk12 hbk12 _ _ _ _ _ _ h)
  · replace h := it_f c_40 h
    refine r_iload hR dX7_sortRows_43 6 rfl ?_
    refine r_bipush hR dX7_sortRows_45 kc_bipush_8 ?_
    refine r_icmp_ge hR (tgt := 64) dX7_sortRows_47 (by decide) (fun c_47 => ?_) (fun c_47 => ?_)
    · replace h := it_t c_47 h
      exact r_sub hR [0, 1, 2, 3, 4, 5] rfl (t7_sortRows_b64 hR N hP bk12 hbk12 _ _ _ _ _ _ h)
    · replace h := it_f c_47 h
      refine r_aload_n hR dX7_sortRows_50 rfl 0 rfl ?_
      refine g_X7_sorted hR m_1_32 dX7_sortRows_51 ?_
      refine r_iload hR dX7_sortRows_54 6 rfl ?_
      refine r_aload_n hR dX7_sortRows_56 rfl 0 rfl ?_
      refine r_iload_n hR dX7_sortRows_57 rfl 1 rfl ?_
      refine r_iload hR dX7_sortRows_58 5 rfl ?_
      obtain ⟨r_60, hc, h⟩ := bd_some h
      refine r_callVi hR (c7_codeAt hc) (cf_X7_81 (by decide)) ⟨m_2_72, m_2_73⟩ (As := [.int x1, .int x5]) (q0 := 1) (ci := 5) rfl rfl rfl rfl (rc_X7 ad _) (Nat.le_of_ble_eq_true rfl) rfl dX7_sortRows_60 ?_
      obtain ⟨hin, h⟩ := ck_some h
      obtain ⟨q_63, hq, h⟩ := bn_some h
      refine sv_X7_sorted hR dX7_sortRows_63 hin hq ?_
      exact r_sub hR [0, 1, 2, 3, 4, 5] rfl (t7_sortRows_b64 hR N hP bk12 hbk12 _ _ _ _ _ _ h)
theorem t7_sortRows_l12_B (hR : Rl wC 3 RX7 cX7_sortRows 7 (some .int) ad J P) (N : Nat) {r : Int32} {q2 : SS} (hP : P (some (.int r)) q2) (bk12 : Int32 → Int32 → Int32 → Int32 → Int32 → SS → Option (Int32 × SS)) (hbk12 : ∀ (x1 : Int32) (x2 : Int32) (x3 : Int32) (x4 : Int32) (x5 : Int32) (q : SS), bk12 x1 x2 x3 x4 x5 q = some (r, q2) → J [(0, .ref (ad 1)), (1, .int x1), (2, .int x2), (3, .int x3), (4, .int x4), (5, .int x5)] [] q 12) (x1 : Int32) (x2 : Int32) (x3 : Int32) (x4 : Int32) (x5 : Int32) (q : SS) (h : f7_sortRows_l12_B N bk12 x1 x2 x3 x4 x5 q = some (r, q2)) : J [(0, .ref (ad 1)), (1, .int x1), (2, .int x2), (3, .int x3), (4, .int x4), (5, .int x5)] [] q 12 := by
  unfold f7_sortRows_l12_B at h
  refine r_iload hR dX7_sortRows_12 5 rfl ?_
  refine r_iload_n hR dX7_sortRows_14 rfl 3 rfl ?_
  refine r_icmp_ge hR (tgt := 70) dX7_sortRows_15 (by decide) (fun c_15 => ?_) (fun c_15 => ?_)
  · replace h := it_t c_15 h
    refine r_iconst hR dX7_sortRows_70 kc_iconst_0 ?_
    refine r_istore hR (i := 5) (lv' := [(5, .int (0 : Int32)), (0, .ref (ad 1)), (1, .int x1), (2, .int x2), (3, .int x3), (4, .int x4)]) dX7_sortRows_71 rfl (by decide) rfl ?_
    exact r_sub hR [1, 2, 4, 5, 0] rfl (t7_sortRows_l73 hR N hP N _ _ _ _ _ h)
  · replace h := it_f c_15 h
    refine r_aload_n hR dX7_sortRows_18 rfl 0 rfl ?_
    refine r_iload_n hR dX7_sortRows_19 rfl 1 rfl ?_
    refine r_iload hR dX7_sortRows_20 5 rfl ?_
    refine r_iload_n hR dX7_sortRows_22 rfl 2 rfl ?_
    obtain ⟨r_23, hc, h⟩ := bd_some h
    refine r_callVi hR (c7_placeOf N hc) (cf_X7_77 (by decide)) ⟨m_2_69, ms_1_0⟩ (As := [.int x1, .int x5, .int x2]) (q0 := 1) (ci := 5) rfl rfl rfl rfl (rc_X7 ad _) (Nat.le_of_ble_eq_true rfl) rfl dX7_sortRows_23 ?_
    refine r_istore hR (i := 6) (lv' := [(6, .int r_23), (0, .ref (ad 1)), (1, .int x1), (2, .int x2), (3, .int x3), (4, .int x4), (5, .int x5)]) dX7_sortRows_26 rfl (by decide) rfl ?_
    refine r_iload hR dX7_sortRows_28 0 rfl ?_
    refine r_iload hR dX7_sortRows_30 6 rfl ?_
    refine r_icmp_eq hR (tgt := 38) dX7_sortRows_32 (by decide) (fun c_32 => ?_) (fun c_32 => ?_)
    · replace h := it_t c_32 h
      exact r_sub hR [1, 2, 3, 4, 5, 6, 0] rfl (t7_sortRows_b38 hR N hP bk12 hbk12 _ _ _ _ _ _ _ h)
    · replace h := it_f c_32 h
      obtain ⟨x4_35, hx, h⟩ := bn_some h
      refine r_iinc hR (i := 4) (lv' := [(4, .int x4_35), (6, .int r_23), (0, .ref (ad 1)), (1, .int x1), (2, .int x2), (3, .int x3), (5, .int x5)]) dX7_sortRows_35 5 rfl (inc_ok hx kc_iconst_1) (by decide) rfl ?_
      exact r_sub hR [2, 3, 4, 5, 0, 6, 1] rfl (t7_sortRows_b38 hR N hP bk12 hbk12 _ _ _ _ _ _ _ h)
theorem t7_sortRows_l12 (hR : Rl wC 3 RX7 cX7_sortRows 7 (some .int) ad J P) (N : Nat) {r : Int32} {q2 : SS} (hP : P (some (.int r)) q2) : ∀ (n : Nat) (x1 : Int32) (x2 : Int32) (x3 : Int32) (x4 : Int32) (x5 : Int32) (q : SS), f7_sortRows_l12 N n x1 x2 x3 x4 x5 q = some (r, q2) → J [(0, .ref (ad 1)), (1, .int x1), (2, .int x2), (3, .int x3), (4, .int x4), (5, .int x5)] [] q 12 := by
  intro n
  induction n with
  | zero => intro x1 x2 x3 x4 x5 q h; exact mu_noneF h
  | succ n ih => intro x1 x2 x3 x4 x5 q h; exact t7_sortRows_l12_B hR N hP _ ih x1 x2 x3 x4 x5 q h
theorem t7_sortRows (hR : Rl wC 3 RX7 cX7_sortRows 7 (some .int) ad J P) (N : Nat) {r : Int32} {q2 : SS} (hP : P (some (.int r)) q2) (x1 : Int32) (x2 : Int32) (q : SS) (h : f7_sortRows N x1 x2 q = some (r, q2)) : J [(0, .ref (ad 1)), (1, .int x1), (2, .int x2)] [] q 0 := by
  unfold f7_sortRows at h
  refine r_aload_n hR dX7_sortRows_0 rfl 0 rfl ?_
  refine r_iload_n hR dX7_sortRows_1 rfl 1 rfl ?_
  obtain ⟨r_2, hc, h⟩ := bd_some h
  refine r_callVi hR (c7_rowsOf hc) (cf_X7_37 (by decide)) ⟨m_2_13, m_2_14⟩ (As := [.int x1]) (q0 := 1) (ci := 5) rfl rfl rfl rfl (rc_X7 ad _) (Nat.le_of_ble_eq_true rfl) rfl dX7_sortRows_2 ?_
  refine r_istore_n hR (i := 3) (lv' := [(3, .int r_2), (0, .ref (ad 1)), (1, .int x1), (2, .int x2)]) dX7_sortRows_5 rfl rfl (by decide) rfl ?_
  refine r_iconst hR dX7_sortRows_6 kc_iconst_0 ?_
  refine r_istore hR (i := 4) (lv' := [(4, .int (0 : Int32)), (3, .int r_2), (0, .ref (ad 1)), (1, .int x1), (2, .int x2)]) dX7_sortRows_7 rfl (by decide) rfl ?_
  refine r_iconst hR dX7_sortRows_9 kc_iconst_0 ?_
  refine r_istore hR (i := 5) (lv' := [(5, .int (0 : Int32)), (4, .int (0 : Int32)), (3, .int r_2), (0, .ref (ad 1)), (1, .int x1), (2, .int x2)]) dX7_sortRows_10 rfl (by decide) rfl ?_
  exact r_sub hR [3, 4, 5, 2, 1, 0] rfl (t7_sortRows_l12 hR N hP N _ _ _ _ _ _ h)
theorem c7_sortRows (N : Nat) {x1 : Int32} {x2 : Int32} {q : SS} {r : Int32} {q2 : SS} (h : f7_sortRows N x1 x2 q = some (r, q2)) : Ct wC 3 yX7_sortRows cX7_sortRows 7 (some .int) (fun ad => [.ref (ad 1), .int x1, .int x2]) q (fun _ => some (.int r)) q2 :=
  ct_of (by decide) (fun _ => Nat.le_of_ble_eq_true rfl) (fun ad J hR => t7_sortRows hR N ⟨rfl, rfl⟩ x1 x2 q h)
theorem t7_rowsOfAll_l4_B (hR : Rl wC 1 RX7 cX7_rowsOfAll 3 (some .int) ad J P) (N : Nat) (q : SS) {r : Int32} (hP : P (some (.int r)) q) (bk4 : Int32 → Int32 → Option Int32) (hbk4 : ∀ (x1 : Int32) (x2 : Int32), bk4 x1 x2 = some r → J [(0, .ref (ad 1)), (1, .int x1), (2, .int x2)] [] q 4) (x1 : Int32) (x2 : Int32) (h : f7_rowsOfAll_l4_B N q bk4 x1 x2 = some r) : J [(0, .ref (ad 1)), (1, .int x1), (2, .int x2)] [] q 4 := by
  unfold f7_rowsOfAll_l4_B at h
  refine r_iload_n hR dX7_rowsOfAll_4 rfl 2 rfl ?_
  refine r_aload_n hR dX7_rowsOfAll_5 rfl 0 rfl ?_
  refine g_X7_made hR m_1_33 dX7_rowsOfAll_6 ?_
  refine r_icmp_ge hR (tgt := 27) dX7_rowsOfAll_9 (by decide) (fun c_9 => ?_) (fun c_9 => ?_)
  · replace h := it_t c_9 h
    refine r_iload_n hR dX7_rowsOfAll_27 rfl 1 rfl ?_
    exact r_iret hR dX7_rowsOfAll_28 rfl (rt1 hP h)
  · replace h := it_f c_9 h
    refine r_iload_n hR dX7_rowsOfAll_12 rfl 1 rfl ?_
    refine r_aload_n hR dX7_rowsOfAll_13 rfl 0 rfl ?_
    refine g_X7_rowCount hR m_1_30 dX7_rowsOfAll_14 ?_
    refine r_iload_n hR dX7_rowsOfAll_17 rfl 2 rfl ?_
    obtain ⟨hin, h⟩ := ck_some h
    refine ld_X7_rowCount hR dX7_rowsOfAll_18 hin ?_
    refine r_iadd hR dX7_rowsOfAll_19 ?_
    obtain ⟨x1_20, hx, h⟩ := bn_some h
    refine r_istore_n hR (i := 1) (lv' := [(1, .int x1_20), (0, .ref (ad 1)), (2, .int x2)]) dX7_rowsOfAll_20 hx rfl (by decide) rfl ?_
    obtain ⟨x2_21, hx, h⟩ := bn_some h
    refine r_iinc hR (i := 2) (lv' := [(2, .int x2_21), (1, .int x1_20), (0, .ref (ad 1))]) dX7_rowsOfAll_21 2 rfl (inc_ok hx kc_iconst_1) (by decide) rfl ?_
    refine r_goto hR (tgt := 4) dX7_rowsOfAll_24 (by decide) ?_
    exact r_sub hR [2, 1, 0] rfl (hbk4 _ _ h)
theorem t7_rowsOfAll_l4 (hR : Rl wC 1 RX7 cX7_rowsOfAll 3 (some .int) ad J P) (N : Nat) (q : SS) {r : Int32} (hP : P (some (.int r)) q) : ∀ (n : Nat) (x1 : Int32) (x2 : Int32), f7_rowsOfAll_l4 N q n x1 x2 = some r → J [(0, .ref (ad 1)), (1, .int x1), (2, .int x2)] [] q 4 := by
  intro n
  induction n with
  | zero => intro x1 x2 h; exact mu_noneF h
  | succ n ih => intro x1 x2 h; exact t7_rowsOfAll_l4_B hR N q hP _ ih x1 x2 h
theorem t7_rowsOfAll (hR : Rl wC 1 RX7 cX7_rowsOfAll 3 (some .int) ad J P) (N : Nat) (q : SS) {r : Int32} (hP : P (some (.int r)) q) (h : f7_rowsOfAll N q = some r) : J [(0, .ref (ad 1))] [] q 0 := by
  unfold f7_rowsOfAll at h
  refine r_iconst hR dX7_rowsOfAll_0 kc_iconst_0 ?_
  refine r_istore_n hR (i := 1) (lv' := [(1, .int (0 : Int32)), (0, .ref (ad 1))]) dX7_rowsOfAll_1 rfl rfl (by decide) rfl ?_
  refine r_iconst hR dX7_rowsOfAll_2 kc_iconst_0 ?_
  refine r_istore_n hR (i := 2) (lv' := [(2, .int (0 : Int32)), (1, .int (0 : Int32)), (0, .ref (ad 1))]) dX7_rowsOfAll_3 rfl rfl (by decide) rfl ?_
  exact r_sub hR [2, 1, 0] rfl (t7_rowsOfAll_l4 hR N q hP N _ _ h)
theorem c7_rowsOfAll (N : Nat) {q : SS} {r : Int32} (h : f7_rowsOfAll N q = some r) : Ct wC 1 yX7_rowsOfAll cX7_rowsOfAll 3 (some .int) (fun ad => [.ref (ad 1)]) q (fun _ => some (.int r)) q :=
  ct_of (by decide) (fun _ => Nat.le_of_ble_eq_true rfl) (fun ad J hR => t7_rowsOfAll hR N q ⟨rfl, rfl⟩ h)
theorem t7_fewestThatCover_b70 (hR : Rl wC 2 RX7 cX7_fewestThatCover 6 (some .int) ad J P) (N : Nat) (q : SS) {r : Int32} (hP : P (some (.int r)) q) (bk11 : Int32 → Int32 → Int32 → Int32 → Option Int32) (hbk11 : ∀ (x1 : Int32) (x2 : Int32) (x3 : Int32) (x4 : Int32), bk11 x1 x2 x3 x4 = some r → J [(0, .ref (ad 1)), (1, .int x1), (2, .int x2), (3, .int x3), (4, .int x4)] [] q 11) (x1 : Int32) (x2 : Int32) (x3 : Int32) (x4 : Int32) (h : f7_fewestThatCover_b70 N q bk11 x1 x2 x3 x4 = some r) : J [(0, .ref (ad 1)), (1, .int x1), (2, .int x2), (3, .int x3), (4, .int x4)] [] q 70 := by
  unfold f7_fewestThatCover_b70 at h
  obtain ⟨x4_70, hx, h⟩ := bn_some h
  refine r_iinc hR (i := 4) (lv' := [(4, .int x4_70), (0, .ref (ad 1)), (1, .int x1), (2, .int x2), (3, .int x3)]) dX7_fewestThatCover_70 4 rfl (inc_ok hx kc_iconst_1) (by decide) rfl ?_
  refine r_goto hR (tgt := 11) dX7_fewestThatCover_73 (by decide) ?_
  exact r_sub hR [1, 2, 3, 4, 0] rfl (hbk11 _ _ _ _ h)
theorem t7_fewestThatCover_b48 (hR : Rl wC 2 RX7 cX7_fewestThatCover 6 (some .int) ad J P) (N : Nat) (q : SS) {r : Int32} (hP : P (some (.int r)) q) (bk11 : Int32 → Int32 → Int32 → Int32 → Option Int32) (hbk11 : ∀ (x1 : Int32) (x2 : Int32) (x3 : Int32) (x4 : Int32), bk11 x1 x2 x3 x4 = some r → J [(0, .ref (ad 1)), (1, .int x1), (2, .int x2), (3, .int x3), (4, .int x4)] [] q 11) (x1 : Int32) (x2 : Int32) (x3 : Int32) (x4 : Int32) (s0 : Int32) (h : f7_fewestThatCover_b48 N q bk11 x1 x2 x3 x4 s0 = some r) : J [(0, .ref (ad 1)), (1, .int x1), (2, .int x2), (3, .int x3), (4, .int x4)] [.int s0] q 48 := by
  unfold f7_fewestThatCover_b48 at h
  refine r_istore hR (i := 5) (lv' := [(5, .int s0), (0, .ref (ad 1)), (1, .int x1), (2, .int x2), (3, .int x3), (4, .int x4)]) dX7_fewestThatCover_48 rfl (by decide) rfl ?_
  refine r_iload hR dX7_fewestThatCover_50 0 rfl ?_
  refine r_if_eq hR (tgt := 70) dX7_fewestThatCover_52 (by decide) (fun c_52 => ?_) (fun c_52 => ?_)
  · replace h := it_t c_52 h
    exact r_sub hR [1, 2, 3, 4, 5] rfl (t7_fewestThatCover_b70 hR N q hP bk11 hbk11 _ _ _ _ h)
  · replace h := it_f c_52 h
    refine r_iload hR dX7_fewestThatCover_55 5 rfl ?_
    obtain ⟨r_57, hc, h⟩ := bd_some h
    refine r_callSi hR (cJ6_bitCount hc) (cf_X7_92 (by decide)) m_1_228 (As := [.int x4]) rfl rfl (Nat.le_of_ble_eq_true rfl) rfl dX7_fewestThatCover_57 ?_
    refine r_iload_n hR dX7_fewestThatCover_60 rfl 4 rfl ?_
    obtain ⟨r_61, hc, h⟩ := bd_some h
    refine r_callSi hR (cJ6_bitCount hc) (cf_X7_92 (by decide)) m_1_228 (As := [.int x3]) rfl rfl (Nat.le_of_ble_eq_true rfl) rfl dX7_fewestThatCover_61 ?_
    refine r_icmp_ge hR (tgt := 70) dX7_fewestThatCover_64 (by decide) (fun c_64 => ?_) (fun c_64 => ?_)
    · replace h := it_t c_64 h
      exact r_sub hR [1, 2, 3, 4, 5] rfl (t7_fewestThatCover_b70 hR N q hP bk11 hbk11 _ _ _ _ h)
    · replace h := it_f c_64 h
      refine r_iload hR dX7_fewestThatCover_67 5 rfl ?_
      refine r_istore_n hR (i := 3) (lv' := [(3, .int x4), (5, .int s0), (0, .ref (ad 1)), (1, .int x1), (2, .int x2), (4, .int x4)]) dX7_fewestThatCover_69 rfl rfl (by decide) rfl ?_
      exact r_sub hR [2, 3, 4, 0, 5] rfl (t7_fewestThatCover_b70 hR N q hP bk11 hbk11 _ _ _ _ h)
theorem t7_fewestThatCover_b47 (hR : Rl wC 2 RX7 cX7_fewestThatCover 6 (some .int) ad J P) (N : Nat) (q : SS) {r : Int32} (hP : P (some (.int r)) q) (bk11 : Int32 → Int32 → Int32 → Int32 → Option Int32) (hbk11 : ∀ (x1 : Int32) (x2 : Int32) (x3 : Int32) (x4 : Int32), bk11 x1 x2 x3 x4 = some r → J [(0, .ref (ad 1)), (1, .int x1), (2, .int x2), (3, .int x3), (4, .int x4)] [] q 11) (x1 : Int32) (x2 : Int32) (x3 : Int32) (x4 : Int32) (h : f7_fewestThatCover_b47 N q bk11 x1 x2 x3 x4 = some r) : J [(0, .ref (ad 1)), (1, .int x1), (2, .int x2), (3, .int x3), (4, .int x4)] [] q 47 := by
  unfold f7_fewestThatCover_b47 at h
  refine r_iconst hR dX7_fewestThatCover_47 kc_iconst_0 ?_
  exact r_sub hR [0, 1, 2, 3, 4] rfl (t7_fewestThatCover_b48 hR N q hP bk11 hbk11 _ _ _ _ _ h)
theorem t7_fewestThatCover_l11_B (hR : Rl wC 2 RX7 cX7_fewestThatCover 6 (some .int) ad J P) (N : Nat) (q : SS) {r : Int32} (hP : P (some (.int r)) q) (bk11 : Int32 → Int32 → Int32 → Int32 → Option Int32) (hbk11 : ∀ (x1 : Int32) (x2 : Int32) (x3 : Int32) (x4 : Int32), bk11 x1 x2 x3 x4 = some r → J [(0, .ref (ad 1)), (1, .int x1), (2, .int x2), (3, .int x3), (4, .int x4)] [] q 11) (x1 : Int32) (x2 : Int32) (x3 : Int32) (x4 : Int32) (h : f7_fewestThatCover_l11_B N q bk11 x1 x2 x3 x4 = some r) : J [(0, .ref (ad 1)), (1, .int x1), (2, .int x2), (3, .int x3), (4, .int x4)] [] q 11 := by
  unfold f7_fewestThatCover_l11_B at h
  refine r_iload hR dX7_fewestThatCover_11 4 rfl ?_
  refine r_bipush hR dX7_fewestThatCover_13 kc_bipush_64 ?_
  refine r_icmp_ge hR (tgt := 76) dX7_fewestThatCover_15 (by decide) (fun c_15 => ?_) (fun c_15 => ?_)
  · replace h := it_t c_15 h
    refine r_iload_n hR dX7_fewestThatCover_76 rfl 3 rfl ?_
    exact r_iret hR dX7_fewestThatCover_77 rfl (rt1 hP h)
  · replace h := it_f c_15 h
    refine r_iload hR dX7_fewestThatCover_18 4 rfl ?_
    refine r_iload_n hR dX7_fewestThatCover_20 rfl 1 rfl ?_
    refine r_icmp_ge hR (tgt := 76) dX7_fewestThatCover_21 (by decide) (fun c_21 => ?_) (fun c_21 => ?_)
    · replace h := it_t c_21 h
      refine r_iload_n hR dX7_fewestThatCover_76 rfl 3 rfl ?_
      exact r_iret hR dX7_fewestThatCover_77 rfl (rt1 hP h)
    · replace h := it_f c_21 h
      refine r_iload hR dX7_fewestThatCover_24 4 rfl ?_
      refine r_iload_n hR dX7_fewestThatCover_26 rfl 1 rfl ?_
      refine r_iconst hR dX7_fewestThatCover_27 kc_iconst_m1 ?_
      refine r_ixor hR dX7_fewestThatCover_28 ?_
      refine r_iand hR dX7_fewestThatCover_29 ?_
      refine r_if_ne hR (tgt := 47) dX7_fewestThatCover_30 (by decide) (fun c_30 => ?_) (fun c_30 => ?_)
      · replace h := it_f c_30 h
        exact r_sub hR [0, 1, 2, 3, 4] rfl (t7_fewestThatCover_b47 hR N q hP bk11 hbk11 _ _ _ _ h)
      · replace h := it_t c_30 h
        refine r_aload_n hR dX7_fewestThatCover_33 rfl 0 rfl ?_
        refine r_iload hR dX7_fewestThatCover_34 4 rfl ?_
        obtain ⟨r_36, hc, h⟩ := bd_some h
        refine r_callVi hR (c7_lettersOfSet N hc) (cf_X7_97 (by decide)) ⟨m_2_175, m_2_176⟩ (As := [.int x4]) (q0 := 1) (ci := 5) rfl rfl rfl rfl (rc_X7 ad _) (Nat.le_of_ble_eq_true rfl) rfl dX7_fewestThatCover_36 ?_
        refine r_iload_n hR dX7_fewestThatCover_39 rfl 2 rfl ?_
        refine r_icmp_ne hR (tgt := 47) dX7_fewestThatCover_40 (by decide) (fun c_40 => ?_) (fun c_40 => ?_)
        · replace h := it_f c_40 h
          exact r_sub hR [0, 1, 2, 3, 4] rfl (t7_fewestThatCover_b47 hR N q hP bk11 hbk11 _ _ _ _ h)
        · replace h := it_t c_40 h
          refine r_iconst hR dX7_fewestThatCover_43 kc_iconst_1 ?_
          refine r_goto hR (tgt := 48) dX7_fewestThatCover_44 (by decide) ?_
          exact r_sub hR [0, 1, 2, 3, 4] rfl (t7_fewestThatCover_b48 hR N q hP bk11 hbk11 _ _ _ _ _ h)
theorem t7_fewestThatCover_l11 (hR : Rl wC 2 RX7 cX7_fewestThatCover 6 (some .int) ad J P) (N : Nat) (q : SS) {r : Int32} (hP : P (some (.int r)) q) : ∀ (n : Nat) (x1 : Int32) (x2 : Int32) (x3 : Int32) (x4 : Int32), f7_fewestThatCover_l11 N q n x1 x2 x3 x4 = some r → J [(0, .ref (ad 1)), (1, .int x1), (2, .int x2), (3, .int x3), (4, .int x4)] [] q 11 := by
  intro n
  induction n with
  | zero => intro x1 x2 x3 x4 h; exact mu_noneF h
  | succ n ih => intro x1 x2 x3 x4 h; exact t7_fewestThatCover_l11_B hR N q hP _ ih x1 x2 x3 x4 h
theorem t7_fewestThatCover (hR : Rl wC 2 RX7 cX7_fewestThatCover 6 (some .int) ad J P) (N : Nat) (q : SS) {r : Int32} (hP : P (some (.int r)) q) (x1 : Int32) (h : f7_fewestThatCover N q x1 = some r) : J [(0, .ref (ad 1)), (1, .int x1)] [] q 0 := by
  unfold f7_fewestThatCover at h
  refine r_aload_n hR dX7_fewestThatCover_0 rfl 0 rfl ?_
  refine r_iload_n hR dX7_fewestThatCover_1 rfl 1 rfl ?_
  obtain ⟨r_2, hc, h⟩ := bd_some h
  refine r_callVi hR (c7_lettersOfSet N hc) (cf_X7_97 (by decide)) ⟨m_2_175, m_2_176⟩ (As := [.int x1]) (q0 := 1) (ci := 5) rfl rfl rfl rfl (rc_X7 ad _) (Nat.le_of_ble_eq_true rfl) rfl dX7_fewestThatCover_2 ?_
  refine r_istore_n hR (i := 2) (lv' := [(2, .int r_2), (0, .ref (ad 1)), (1, .int x1)]) dX7_fewestThatCover_5 rfl rfl (by decide) rfl ?_
  refine r_iload_n hR dX7_fewestThatCover_6 rfl 2 rfl ?_
  refine r_istore_n hR (i := 3) (lv' := [(3, .int x1), (2, .int r_2), (0, .ref (ad 1)), (1, .int x1)]) dX7_fewestThatCover_7 rfl rfl (by decide) rfl ?_
  refine r_iconst hR dX7_fewestThatCover_8 kc_iconst_1 ?_
  refine r_istore hR (i := 4) (lv' := [(4, .int (1 : Int32)), (3, .int x1), (2, .int r_2), (0, .ref (ad 1)), (1, .int x1)]) dX7_fewestThatCover_9 rfl (by decide) rfl ?_
  exact r_sub hR [3, 4, 2, 1, 0] rfl (t7_fewestThatCover_l11 hR N q hP N _ _ _ _ h)
theorem c7_fewestThatCover (N : Nat) {x1 : Int32} {q : SS} {r : Int32} (h : f7_fewestThatCover N q x1 = some r) : Ct wC 2 yX7_fewestThatCover cX7_fewestThatCover 6 (some .int) (fun ad => [.ref (ad 1), .int x1]) q (fun _ => some (.int r)) q :=
  ct_of (by decide) (fun _ => Nat.le_of_ble_eq_true rfl) (fun ad J hR => t7_fewestThatCover hR N q ⟨rfl, rfl⟩ x1 h)
theorem t8_table_b25 (hR : Rl wC 2 RX8 cX8_table 4 (some .int) ad J P) {r : Int32} {q2 : SS} (hP : P (some (.int r)) q2) (x1 : Int32) (x2 : Int32) (s0 : Int32) (q : SS) (h : f8_table_b25 x1 x2 s0 q = some (r, q2)) : J [(0, .ref (ad 0)), (1, .int x1), (2, .int x2)] [.int s0] q 25 := by
  unfold f8_table_b25 at h
  refine r_istore_n hR (i := 3) (lv' := [(3, .int s0), (0, .ref (ad 0)), (1, .int x1), (2, .int x2)]) dX8_table_25 rfl rfl (by decide) rfl ?_
  refine r_iload_n hR dX8_table_26 rfl 0 rfl ?_
  refine r_if_eq hR (tgt := 40) dX8_table_27 (by decide) (fun c_27 => ?_) (fun c_27 => ?_)
  · replace h := it_t c_27 h
    refine r_bipush hR dX8_table_40 kc_bipush_m102 ?_
    exact r_iret hR dX8_table_42 rfl (rt2 hP h)
  · replace h := it_f c_27 h
    refine r_iload_n hR dX8_table_30 rfl 3 rfl ?_
    refine r_iconst hR dX8_table_31 kc_iconst_1 ?_
    refine r_icmp_lt hR (tgt := 40) dX8_table_32 (by decide) (fun c_32 => ?_) (fun c_32 => ?_)
    · replace h := it_t c_32 h
      refine r_bipush hR dX8_table_40 kc_bipush_m102 ?_
      exact r_iret hR dX8_table_42 rfl (rt2 hP h)
    · replace h := it_f c_32 h
      refine r_iload_n hR dX8_table_35 rfl 3 rfl ?_
      refine r_iconst hR dX8_table_36 kc_iconst_4 ?_
      refine r_icmp_le hR (tgt := 43) dX8_table_37 (by decide) (fun c_37 => ?_) (fun c_37 => ?_)
      · replace h := it_t c_37 h
        refine r_aload_n hR dX8_table_43 rfl 1 rfl ?_
        refine g_X8_shelf hR m_1_201 dX8_table_44 ?_
        refine r_iload_n hR dX8_table_47 rfl 2 rfl ?_
        refine r_iload_n hR dX8_table_48 rfl 3 rfl ?_
        obtain ⟨r_49, q_49, hc, h⟩ := bd2_some h
        refine r_callVi hR (c7_addTable hc) (cf_X8_65 (by decide)) ⟨m_1_234, m_1_235⟩ (As := [.int x1, .int x2]) (q0 := 1) (ci := 5) rfl rfl rfl rfl (rc_X7 ad _) (Nat.le_of_ble_eq_true rfl) rfl dX8_table_49 ?_
        exact r_iret hR dX8_table_52 rfl (rt2 hP h)
      · replace h := it_f c_37 h
        refine r_bipush hR dX8_table_40 kc_bipush_m102 ?_
        exact r_iret hR dX8_table_42 rfl (rt2 hP h)
theorem t8_table_b24 (hR : Rl wC 2 RX8 cX8_table 4 (some .int) ad J P) {r : Int32} {q2 : SS} (hP : P (some (.int r)) q2) (x1 : Int32) (x2 : Int32) (q : SS) (h : f8_table_b24 x1 x2 q = some (r, q2)) : J [(0, .ref (ad 0)), (1, .int x1), (2, .int x2)] [] q 24 := by
  unfold f8_table_b24 at h
  refine r_iconst hR dX8_table_24 kc_iconst_0 ?_
  exact r_sub hR [0, 1, 2] rfl (t8_table_b25 hR hP _ _ _ _ h)
theorem t8_table (hR : Rl wC 2 RX8 cX8_table 4 (some .int) ad J P) {r : Int32} {q2 : SS} (hP : P (some (.int r)) q2) (x1 : Int32) (x2 : Int32) (q : SS) (h : f8_table x1 x2 q = some (r, q2)) : J [(0, .ref (ad 0)), (1, .int x1), (2, .int x2)] [] q 0 := by
  unfold f8_table at h
  refine r_iload_n hR dX8_table_0 rfl 1 rfl ?_
  refine r_iconst hR dX8_table_1 kc_iconst_1 ?_
  refine r_icmp_lt hR (tgt := 24) dX8_table_2 (by decide) (fun c_2 => ?_) (fun c_2 => ?_)
  · replace h := it_t c_2 h
    exact r_sub hR [0, 1, 2] rfl (t8_table_b24 hR hP _ _ _ h)
  · replace h := it_f c_2 h
    refine r_iload_n hR dX8_table_5 rfl 1 rfl ?_
    refine r_sipush hR dX8_table_6 kc_sipush_256 ?_
    refine r_icmp_ge hR (tgt := 24) dX8_table_9 (by decide) (fun c_9 => ?_) (fun c_9 => ?_)
    · replace h := it_t c_9 h
      exact r_sub hR [0, 1, 2] rfl (t8_table_b24 hR hP _ _ _ h)
    · replace h := it_f c_9 h
      refine r_iload_n hR dX8_table_12 rfl 1 rfl ?_
      obtain ⟨r_13, hc, h⟩ := bd_some h
      refine r_callSi hR (cJ6_bitCount hc) (cf_X8_59 (by decide)) m_1_228 (As := [.int x1]) rfl rfl (Nat.le_of_ble_eq_true rfl) rfl dX8_table_13 ?_
      refine r_iconst hR dX8_table_16 kc_iconst_3 ?_
      refine r_icmp_gt hR (tgt := 24) dX8_table_17 (by decide) (fun c_17 => ?_) (fun c_17 => ?_)
      · replace h := it_t c_17 h
        exact r_sub hR [0, 1, 2] rfl (t8_table_b24 hR hP _ _ _ h)
      · replace h := it_f c_17 h
        refine r_iconst hR dX8_table_20 kc_iconst_1 ?_
        refine r_goto hR (tgt := 25) dX8_table_21 (by decide) ?_
        exact r_sub hR [0, 1, 2] rfl (t8_table_b25 hR hP _ _ _ _ h)
theorem c8_table {x1 : Int32} {x2 : Int32} {q : SS} {r : Int32} {q2 : SS} (h : f8_table x1 x2 q = some (r, q2)) : Ct wC 2 yX8_table cX8_table 4 (some .int) (fun ad => [.ref (ad 0), .int x1, .int x2]) q (fun _ => some (.int r)) q2 :=
  ct_of (by decide) (fun _ => Nat.le_of_ble_eq_true rfl) (fun ad J hR => t8_table hR ⟨rfl, rfl⟩ x1 x2 q h)
theorem t8_mayStand_b15 (hR : Rl wC 1 RX8 cX8_mayStand 2 (some .boolean) ad J P) {q : SS} {r : Int32} (hP : P (some (.int r)) q) (s0 : Int32) (s1 : Int32) (h : f8_mayStand_b15 s0 s1 = some r) : J [] [.int s0, .int s1] q 15 := by
  unfold f8_mayStand_b15 at h
  refine r_icmp_gt hR (tgt := 22) dX8_mayStand_15 (by decide) (fun c_15 => ?_) (fun c_15 => ?_)
  · replace h := it_t c_15 h
    refine r_iconst hR dX8_mayStand_22 kc_iconst_0 ?_
    exact r_zret hR dX8_mayStand_23 rfl (Or.inl rfl) (rt1 hP h)
  · replace h := it_f c_15 h
    refine r_iconst hR dX8_mayStand_18 kc_iconst_1 ?_
    refine r_goto hR (tgt := 23) dX8_mayStand_19 (by decide) ?_
    exact r_zret hR dX8_mayStand_23 rfl (Or.inr rfl) (rt1 hP h)
theorem t8_mayStand (hR : Rl wC 1 RX8 cX8_mayStand 2 (some .boolean) ad J P) {q : SS} {r : Int32} (hP : P (some (.int r)) q) (x0 : Int32) (x1 : Int32) (h : f8_mayStand x0 x1 = some r) : J [(0, .int x0), (1, .int x1)] [] q 0 := by
  unfold f8_mayStand at h
  refine r_iload_n hR dX8_mayStand_0 rfl 0 rfl ?_
  refine r_if_lt hR (tgt := 22) dX8_mayStand_1 (by decide) (fun c_1 => ?_) (fun c_1 => ?_)
  · replace h := it_t c_1 h
    refine r_iconst hR dX8_mayStand_22 kc_iconst_0 ?_
    exact r_zret hR dX8_mayStand_23 rfl (Or.inl rfl) (rt1 hP h)
  · replace h := it_f c_1 h
    refine r_iload_n hR dX8_mayStand_4 rfl 0 rfl ?_
    refine r_iload_n hR dX8_mayStand_5 rfl 1 rfl ?_
    refine r_if_eq hR (tgt := 14) dX8_mayStand_6 (by decide) (fun c_6 => ?_) (fun c_6 => ?_)
    · replace h := it_t c_6 h
      refine r_iconst hR dX8_mayStand_14 kc_iconst_0 ?_
      exact r_sub hR [] rfl (t8_mayStand_b15 hR hP _ _ h)
    · replace h := it_f c_6 h
      refine r_bipush hR dX8_mayStand_9 kc_bipush_9 ?_
      refine r_goto hR (tgt := 15) dX8_mayStand_11 (by decide) ?_
      exact r_sub hR [] rfl (t8_mayStand_b15 hR hP _ _ h)
theorem c8_mayStand {x0 : Int32} {x1 : Int32} {q : SS} {r : Int32} (h : f8_mayStand x0 x1 = some r) : Ct wC 1 yX8_mayStand cX8_mayStand 2 (some .boolean) (fun ad => [.int x0, .int x1]) q (fun _ => some (.int r)) q :=
  ct_of (by decide) (fun _ => Nat.le_of_ble_eq_true rfl) (fun ad J hR => t8_mayStand hR ⟨rfl, rfl⟩ x0 x1 h)
theorem t8_row_b70 (hR : Rl wC 3 RX8 cX8_row 7 (some .int) ad J P) (N : Nat) {r : Int32} {q2 : SS} (hP : P (some (.int r)) q2) (x1 : Int32) (x2 : Int32) (x3 : Int32) (x4 : Int32) (x5 : Int32) (s0 : Int32) (s1 : Int32) (q : SS) (h : f8_row_b70 N x1 x2 x3 x4 x5 s0 s1 q = some (r, q2)) : J [(0, .ref (ad 0)), (1, .int x1), (2, .int x2), (3, .int x3), (4, .int x4), (5, .int x5)] [.int s0, .int s1] q 70 := by
  unfold f8_row_b70 at h
  obtain ⟨r_70, hc, h⟩ := bd_some h
  refine r_callSi hR (c8_mayStand hc) (cf_X8_76 (by decide)) m_2_10 (As := [.int s1, .int s0]) rfl rfl (Nat.le_of_ble_eq_true rfl) rfl dX8_row_70 ?_
  refine r_if_ne hR (tgt := 79) dX8_row_73 (by decide) (fun c_73 => ?_) (fun c_73 => ?_)
  · replace h := it_f c_73 h
    refine r_aload_n hR dX8_row_79 rfl 0 rfl ?_
    refine g_X8_shelf hR m_1_201 dX8_row_80 ?_
    refine r_iload_n hR dX8_row_83 rfl 1 rfl ?_
    obtain ⟨r_84, hc, h⟩ := bd_some h
    refine r_callVi hR (c7_rowsOf hc) (cf_X8_80 (by decide)) ⟨m_2_13, m_2_14⟩ (As := [.int x1]) (q0 := 1) (ci := 5) rfl rfl rfl rfl (rc_X7 ad _) (Nat.le_of_ble_eq_true rfl) rfl dX8_row_84 ?_
    refine r_bipush hR dX8_row_87 kc_bipush_8 ?_
    refine r_icmp_lt hR (tgt := 95) dX8_row_89 (by decide) (fun c_89 => ?_) (fun c_89 => ?_)
    · replace h := it_t c_89 h
      refine r_aload_n hR dX8_row_95 rfl 0 rfl ?_
      refine g_X8_shelf hR m_1_201 dX8_row_96 ?_
      refine r_iload_n hR dX8_row_99 rfl 1 rfl ?_
      refine r_iload hR dX8_row_100 5 rfl ?_
      refine r_iload_n hR dX8_row_102 rfl 2 rfl ?_
      refine r_iload_n hR dX8_row_103 rfl 3 rfl ?_
      refine r_iload hR dX8_row_104 4 rfl ?_
      obtain ⟨r_106, hc, h⟩ := bd_some h
      refine r_callSi hR (c4_codeOf N hc) (cf_X8_83 (by decide)) m_2_17 (As := [.int x5, .int x2, .int x3, .int x4]) rfl rfl (Nat.le_of_ble_eq_true rfl) rfl dX8_row_106 ?_
      obtain ⟨r_109, q_109, hc, h⟩ := bd2_some h
      refine r_callVi hR (c7_addRow hc) (cf_X8_89 (by decide)) ⟨m_2_20, m_2_21⟩ (As := [.int x1, .int r_106]) (q0 := 1) (ci := 5) rfl rfl rfl rfl (rc_X7 ad _) (Nat.le_of_ble_eq_true rfl) rfl dX8_row_109 ?_
      exact r_iret hR dX8_row_112 rfl (rt2 hP h)
    · replace h := it_f c_89 h
      refine r_bipush hR dX8_row_92 kc_bipush_m104 ?_
      exact r_iret hR dX8_row_94 rfl (rt2 hP h)
  · replace h := it_t c_73 h
    refine r_bipush hR dX8_row_76 kc_bipush_m102 ?_
    exact r_iret hR dX8_row_78 rfl (rt2 hP h)
theorem t8_row_b51 (hR : Rl wC 3 RX8 cX8_row 7 (some .int) ad J P) (N : Nat) {r : Int32} {q2 : SS} (hP : P (some (.int r)) q2) (x1 : Int32) (x2 : Int32) (x3 : Int32) (x4 : Int32) (x5 : Int32) (x6 : Int32) (s0 : Int32) (s1 : Int32) (q : SS) (h : f8_row_b51 N x1 x2 x3 x4 x5 x6 s0 s1 q = some (r, q2)) : J [(0, .ref (ad 0)), (1, .int x1), (2, .int x2), (3, .int x3), (4, .int x4), (5, .int x5), (6, .int x6)] [.int s0, .int s1] q 51 := by
  unfold f8_row_b51 at h
  obtain ⟨r_51, hc, h⟩ := bd_some h
  refine r_callSi hR (c8_mayStand hc) (cf_X8_76 (by decide)) m_2_10 (As := [.int s1, .int s0]) rfl rfl (Nat.le_of_ble_eq_true rfl) rfl dX8_row_51 ?_
  refine r_if_eq hR (tgt := 76) dX8_row_54 (by decide) (fun c_54 => ?_) (fun c_54 => ?_)
  · replace h := it_t c_54 h
    refine r_bipush hR dX8_row_76 kc_bipush_m102 ?_
    exact r_iret hR dX8_row_78 rfl (rt2 hP h)
  · replace h := it_f c_54 h
    refine r_iload hR dX8_row_57 4 rfl ?_
    refine r_iload hR dX8_row_59 6 rfl ?_
    refine r_iconst hR dX8_row_61 kc_iconst_2 ?_
    refine r_icmp_le hR (tgt := 69) dX8_row_62 (by decide) (fun c_62 => ?_) (fun c_62 => ?_)
    · replace h := it_t c_62 h
      refine r_iconst hR dX8_row_69 kc_iconst_0 ?_
      exact r_sub hR [0, 1, 2, 3, 4, 5] rfl (t8_row_b70 hR N hP _ _ _ _ _ _ _ _ h)
    · replace h := it_f c_62 h
      refine r_iconst hR dX8_row_65 kc_iconst_1 ?_
      refine r_goto hR (tgt := 70) dX8_row_66 (by decide) ?_
      exact r_sub hR [0, 1, 2, 3, 4, 5] rfl (t8_row_b70 hR N hP _ _ _ _ _ _ _ _ h)
theorem t8_row (hR : Rl wC 3 RX8 cX8_row 7 (some .int) ad J P) (N : Nat) {r : Int32} {q2 : SS} (hP : P (some (.int r)) q2) (x1 : Int32) (x2 : Int32) (x3 : Int32) (x4 : Int32) (q : SS) (h : f8_row N x1 x2 x3 x4 q = some (r, q2)) : J [(0, .ref (ad 0)), (1, .int x1), (2, .int x2), (3, .int x3), (4, .int x4)] [] q 0 := by
  unfold f8_row at h
  refine r_aload_n hR dX8_row_0 rfl 0 rfl ?_
  refine g_X8_shelf hR m_1_201 dX8_row_1 ?_
  refine r_iload_n hR dX8_row_4 rfl 1 rfl ?_
  obtain ⟨r_5, hc, h⟩ := bd_some h
  refine r_callVi hR (c7_holds hc) (cf_X8_69 (by decide)) ⟨m_2_2, m_2_3⟩ (As := [.int x1]) (q0 := 1) (ci := 5) rfl rfl rfl rfl (rc_X7 ad _) (Nat.le_of_ble_eq_true rfl) rfl dX8_row_5 ?_
  refine r_if_ne hR (tgt := 14) dX8_row_8 (by decide) (fun c_8 => ?_) (fun c_8 => ?_)
  · replace h := it_f c_8 h
    refine r_aload_n hR dX8_row_14 rfl 0 rfl ?_
    refine g_X8_shelf hR m_1_201 dX8_row_15 ?_
    refine r_iload_n hR dX8_row_18 rfl 1 rfl ?_
    obtain ⟨r_19, hc, h⟩ := bd_some h
    refine r_callVi hR (c7_lettersOf hc) (cf_X8_73 (by decide)) ⟨m_2_6, m_2_7⟩ (As := [.int x1]) (q0 := 1) (ci := 5) rfl rfl rfl rfl (rc_X7 ad _) (Nat.le_of_ble_eq_true rfl) rfl dX8_row_19 ?_
    refine r_istore hR (i := 5) (lv' := [(5, .int r_19), (0, .ref (ad 0)), (1, .int x1), (2, .int x2), (3, .int x3), (4, .int x4)]) dX8_row_22 rfl (by decide) rfl ?_
    refine r_iload hR dX8_row_24 0 rfl ?_
    obtain ⟨r_26, hc, h⟩ := bd_some h
    refine r_callSi hR (cJ6_bitCount hc) (cf_X8_59 (by decide)) m_1_228 (As := [.int r_19]) rfl rfl (Nat.le_of_ble_eq_true rfl) rfl dX8_row_26 ?_
    refine r_istore hR (i := 6) (lv' := [(6, .int r_26), (5, .int r_19), (0, .ref (ad 0)), (1, .int x1), (2, .int x2), (3, .int x3), (4, .int x4)]) dX8_row_29 rfl (by decide) rfl ?_
    refine r_iload_n hR dX8_row_31 rfl 4 rfl ?_
    refine r_iconst hR dX8_row_32 kc_iconst_1 ?_
    obtain ⟨r_33, hc, h⟩ := bd_some h
    refine r_callSi hR (c8_mayStand hc) (cf_X8_76 (by decide)) m_2_10 (As := [.int x2, .int (1 : Int32)]) rfl rfl (Nat.le_of_ble_eq_true rfl) rfl dX8_row_33 ?_
    refine r_if_eq hR (tgt := 76) dX8_row_36 (by decide) (fun c_36 => ?_) (fun c_36 => ?_)
    · replace h := it_t c_36 h
      refine r_bipush hR dX8_row_76 kc_bipush_m102 ?_
      exact r_iret hR dX8_row_78 rfl (rt2 hP h)
    · replace h := it_f c_36 h
      refine r_iload_n hR dX8_row_39 rfl 5 rfl ?_
      refine r_iload hR dX8_row_40 0 rfl ?_
      refine r_iconst hR dX8_row_42 kc_iconst_1 ?_
      refine r_icmp_le hR (tgt := 50) dX8_row_43 (by decide) (fun c_43 => ?_) (fun c_43 => ?_)
      · replace h := it_t c_43 h
        refine r_iconst hR dX8_row_50 kc_iconst_0 ?_
        exact r_sub hR [2, 3, 4, 5, 6, 1, 0] rfl (t8_row_b51 hR N hP _ _ _ _ _ _ _ _ _ h)
      · replace h := it_f c_43 h
        refine r_iconst hR dX8_row_46 kc_iconst_1 ?_
        refine r_goto hR (tgt := 51) dX8_row_47 (by decide) ?_
        exact r_sub hR [2, 3, 4, 5, 6, 1, 0] rfl (t8_row_b51 hR N hP _ _ _ _ _ _ _ _ _ h)
  · replace h := it_t c_8 h
    refine r_bipush hR dX8_row_11 kc_bipush_m101 ?_
    exact r_iret hR dX8_row_13 rfl (rt2 hP h)
theorem c8_row (N : Nat) {x1 : Int32} {x2 : Int32} {x3 : Int32} {x4 : Int32} {q : SS} {r : Int32} {q2 : SS} (h : f8_row N x1 x2 x3 x4 q = some (r, q2)) : Ct wC 3 yX8_row cX8_row 7 (some .int) (fun ad => [.ref (ad 0), .int x1, .int x2, .int x3, .int x4]) q (fun _ => some (.int r)) q2 :=
  ct_of (by decide) (fun _ => Nat.le_of_ble_eq_true rfl) (fun ad J hR => t8_row hR N ⟨rfl, rfl⟩ x1 x2 x3 x4 q h)
theorem t8_fill (hR : Rl wC 4 RX8 cX8_fill 5 (some .int) ad J P) (N : Nat) {r : Int32} {q2 : SS} (hP : P (some (.int r)) q2) (x1 : Int32) (x2 : Int32) (x3 : Int32) (x4 : Int32) (q : SS) (h : f8_fill N x1 x2 x3 x4 q = some (r, q2)) : J [(0, .ref (ad 0)), (1, .int x1), (2, .int x2), (3, .int x3), (4, .int x4)] [] q 0 := by
  unfold f8_fill at h
  refine r_aload_n hR dX8_fill_0 rfl 0 rfl ?_
  refine g_X8_shelf hR m_1_201 dX8_fill_1 ?_
  refine r_iload_n hR dX8_fill_4 rfl 1 rfl ?_
  obtain ⟨r_5, hc, h⟩ := bd_some h
  refine r_callVi hR (c7_holds hc) (cf_X8_69 (by decide)) ⟨m_2_2, m_2_3⟩ (As := [.int x1]) (q0 := 1) (ci := 5) rfl rfl rfl rfl (rc_X7 ad _) (Nat.le_of_ble_eq_true rfl) rfl dX8_fill_5 ?_
  refine r_if_ne hR (tgt := 14) dX8_fill_8 (by decide) (fun c_8 => ?_) (fun c_8 => ?_)
  · replace h := it_f c_8 h
    refine r_iload_n hR dX8_fill_14 rfl 2 rfl ?_
    refine r_if_lt hR (tgt := 42) dX8_fill_15 (by decide) (fun c_15 => ?_) (fun c_15 => ?_)
    · replace h := it_t c_15 h
      refine r_bipush hR dX8_fill_42 kc_bipush_m102 ?_
      exact r_iret hR dX8_fill_44 rfl (rt2 hP h)
    · replace h := it_f c_15 h
      refine r_iload_n hR dX8_fill_18 rfl 3 rfl ?_
      refine r_iconst hR dX8_fill_19 kc_iconst_1 ?_
      refine r_icmp_lt hR (tgt := 42) dX8_fill_20 (by decide) (fun c_20 => ?_) (fun c_20 => ?_)
      · replace h := it_t c_20 h
        refine r_bipush hR dX8_fill_42 kc_bipush_m102 ?_
        exact r_iret hR dX8_fill_44 rfl (rt2 hP h)
      · replace h := it_f c_20 h
        refine r_iload_n hR dX8_fill_23 rfl 3 rfl ?_
        refine r_bipush hR dX8_fill_24 kc_bipush_8 ?_
        refine r_icmp_gt hR (tgt := 42) dX8_fill_26 (by decide) (fun c_26 => ?_) (fun c_26 => ?_)
        · replace h := it_t c_26 h
          refine r_bipush hR dX8_fill_42 kc_bipush_m102 ?_
          exact r_iret hR dX8_fill_44 rfl (rt2 hP h)
        · replace h := it_f c_26 h
          refine r_iload hR dX8_fill_29 4 rfl ?_
          refine r_iconst hR dX8_fill_31 kc_iconst_1 ?_
          refine r_icmp_lt hR (tgt := 42) dX8_fill_32 (by decide) (fun c_32 => ?_) (fun c_32 => ?_)
          · replace h := it_t c_32 h
            refine r_bipush hR dX8_fill_42 kc_bipush_m102 ?_
            exact r_iret hR dX8_fill_44 rfl (rt2 hP h)
          · replace h := it_f c_32 h
            refine r_iload hR dX8_fill_35 4 rfl ?_
            refine r_bipush hR dX8_fill_37 kc_bipush_10 ?_
            refine r_icmp_le hR (tgt := 45) dX8_fill_39 (by decide) (fun c_39 => ?_) (fun c_39 => ?_)
            · replace h := it_t c_39 h
              refine r_aload_n hR dX8_fill_45 rfl 0 rfl ?_
              refine g_X8_shelf hR m_1_201 dX8_fill_46 ?_
              refine r_iload_n hR dX8_fill_49 rfl 1 rfl ?_
              refine r_iload_n hR dX8_fill_50 rfl 2 rfl ?_
              refine r_iload_n hR dX8_fill_51 rfl 3 rfl ?_
              refine r_iload hR dX8_fill_52 4 rfl ?_
              obtain ⟨r_54, q_54, hc, h⟩ := bd2_some h
              refine r_callVi hR (c7_addSeeded N hc) (cf_X8_92 (by decide)) ⟨m_2_29, m_2_30⟩ (As := [.int x1, .int x2, .int x3, .int x4]) (q0 := 1) (ci := 5) rfl rfl rfl rfl (rc_X7 ad _) (Nat.le_of_ble_eq_true rfl) rfl dX8_fill_54 ?_
              exact r_iret hR dX8_fill_57 rfl (rt2 hP h)
            · replace h := it_f c_39 h
              refine r_bipush hR dX8_fill_42 kc_bipush_m102 ?_
              exact r_iret hR dX8_fill_44 rfl (rt2 hP h)
  · replace h := it_t c_8 h
    refine r_bipush hR dX8_fill_11 kc_bipush_m101 ?_
    exact r_iret hR dX8_fill_13 rfl (rt2 hP h)
theorem c8_fill (N : Nat) {x1 : Int32} {x2 : Int32} {x3 : Int32} {x4 : Int32} {q : SS} {r : Int32} {q2 : SS} (h : f8_fill N x1 x2 x3 x4 q = some (r, q2)) : Ct wC 4 yX8_fill cX8_fill 5 (some .int) (fun ad => [.ref (ad 0), .int x1, .int x2, .int x3, .int x4]) q (fun _ => some (.int r)) q2 :=
  ct_of (by decide) (fun _ => Nat.le_of_ble_eq_true rfl) (fun ad J hR => t8_fill hR N ⟨rfl, rfl⟩ x1 x2 x3 x4 q h)
theorem t8_drop (hR : Rl wC 3 RX8 cX8_drop 3 (some .int) ad J P) (N : Nat) {r : Int32} {q2 : SS} (hP : P (some (.int r)) q2) (x1 : Int32) (x2 : Int32) (q : SS) (h : f8_drop N x1 x2 q = some (r, q2)) : J [(0, .ref (ad 0)), (1, .int x1), (2, .int x2)] [] q 0 := by
  unfold f8_drop at h
  refine r_aload_n hR dX8_drop_0 rfl 0 rfl ?_
  refine g_X8_shelf hR m_1_201 dX8_drop_1 ?_
  refine r_iload_n hR dX8_drop_4 rfl 1 rfl ?_
  refine r_iload_n hR dX8_drop_5 rfl 2 rfl ?_
  obtain ⟨r_6, hc, h⟩ := bd_some h
  refine r_callVi hR (c7_holdsRow hc) (cf_X8_95 (by decide)) ⟨m_2_50, m_2_51⟩ (As := [.int x1, .int x2]) (q0 := 1) (ci := 5) rfl rfl rfl rfl (rc_X7 ad _) (Nat.le_of_ble_eq_true rfl) rfl dX8_drop_6 ?_
  refine r_if_ne hR (tgt := 15) dX8_drop_9 (by decide) (fun c_9 => ?_) (fun c_9 => ?_)
  · replace h := it_f c_9 h
    refine r_aload_n hR dX8_drop_15 rfl 0 rfl ?_
    refine g_X8_shelf hR m_1_201 dX8_drop_16 ?_
    refine r_iload_n hR dX8_drop_19 rfl 1 rfl ?_
    refine r_iload_n hR dX8_drop_20 rfl 2 rfl ?_
    obtain ⟨r_21, q_21, hc, h⟩ := bd2_some h
    refine r_callVi hR (c7_dropRow N hc) (cf_X8_99 (by decide)) ⟨m_2_54, m_2_55⟩ (As := [.int x1, .int x2]) (q0 := 1) (ci := 5) rfl rfl rfl rfl (rc_X7 ad _) (Nat.le_of_ble_eq_true rfl) rfl dX8_drop_21 ?_
    exact r_iret hR dX8_drop_24 rfl (rt2 hP h)
  · replace h := it_t c_9 h
    refine r_bipush hR dX8_drop_12 kc_bipush_m101 ?_
    exact r_iret hR dX8_drop_14 rfl (rt2 hP h)
theorem c8_drop (N : Nat) {x1 : Int32} {x2 : Int32} {q : SS} {r : Int32} {q2 : SS} (h : f8_drop N x1 x2 q = some (r, q2)) : Ct wC 3 yX8_drop cX8_drop 3 (some .int) (fun ad => [.ref (ad 0), .int x1, .int x2]) q (fun _ => some (.int r)) q2 :=
  ct_of (by decide) (fun _ => Nat.le_of_ble_eq_true rfl) (fun ad J hR => t8_drop hR N ⟨rfl, rfl⟩ x1 x2 q h)
theorem t8_sort (hR : Rl wC 4 RX8 cX8_sort 3 (some .int) ad J P) (N : Nat) {r : Int32} {q2 : SS} (hP : P (some (.int r)) q2) (x1 : Int32) (x2 : Int32) (q : SS) (h : f8_sort N x1 x2 q = some (r, q2)) : J [(0, .ref (ad 0)), (1, .int x1), (2, .int x2)] [] q 0 := by
  unfold f8_sort at h
  refine r_aload_n hR dX8_sort_0 rfl 0 rfl ?_
  refine g_X8_shelf hR m_1_201 dX8_sort_1 ?_
  refine r_iload_n hR dX8_sort_4 rfl 1 rfl ?_
  obtain ⟨r_5, hc, h⟩ := bd_some h
  refine r_callVi hR (c7_holds hc) (cf_X8_69 (by decide)) ⟨m_2_2, m_2_3⟩ (As := [.int x1]) (q0 := 1) (ci := 5) rfl rfl rfl rfl (rc_X7 ad _) (Nat.le_of_ble_eq_true rfl) rfl dX8_sort_5 ?_
  refine r_if_ne hR (tgt := 14) dX8_sort_8 (by decide) (fun c_8 => ?_) (fun c_8 => ?_)
  · replace h := it_f c_8 h
    refine r_aload_n hR dX8_sort_14 rfl 0 rfl ?_
    refine g_X8_shelf hR m_1_201 dX8_sort_15 ?_
    refine r_iload_n hR dX8_sort_18 rfl 1 rfl ?_
    refine r_iload_n hR dX8_sort_19 rfl 2 rfl ?_
    obtain ⟨r_20, hc, h⟩ := bd_some h
    refine r_callVi hR (c7_hasLetter hc) (cf_X8_102 (by decide)) ⟨m_2_37, m_2_38⟩ (As := [.int x1, .int x2]) (q0 := 1) (ci := 5) rfl rfl rfl rfl (rc_X7 ad _) (Nat.le_of_ble_eq_true rfl) rfl dX8_sort_20 ?_
    refine r_if_ne hR (tgt := 29) dX8_sort_23 (by decide) (fun c_23 => ?_) (fun c_23 => ?_)
    · replace h := it_f c_23 h
      refine r_aload_n hR dX8_sort_29 rfl 0 rfl ?_
      refine g_X8_shelf hR m_1_201 dX8_sort_30 ?_
      refine r_iload_n hR dX8_sort_33 rfl 1 rfl ?_
      refine r_iload_n hR dX8_sort_34 rfl 2 rfl ?_
      obtain ⟨r_35, q_35, hc, h⟩ := bd2_some h
      refine r_callVi hR (c7_sortRows N hc) (cf_X8_105 (by decide)) ⟨m_2_64, m_2_65⟩ (As := [.int x1, .int x2]) (q0 := 1) (ci := 5) rfl rfl rfl rfl (rc_X7 ad _) (Nat.le_of_ble_eq_true rfl) rfl dX8_sort_35 ?_
      exact r_iret hR dX8_sort_38 rfl (rt2 hP h)
    · replace h := it_t c_23 h
      refine r_bipush hR dX8_sort_26 kc_bipush_m102 ?_
      exact r_iret hR dX8_sort_28 rfl (rt2 hP h)
  · replace h := it_t c_8 h
    refine r_bipush hR dX8_sort_11 kc_bipush_m101 ?_
    exact r_iret hR dX8_sort_13 rfl (rt2 hP h)
theorem c8_sort (N : Nat) {x1 : Int32} {x2 : Int32} {q : SS} {r : Int32} {q2 : SS} (h : f8_sort N x1 x2 q = some (r, q2)) : Ct wC 4 yX8_sort cX8_sort 3 (some .int) (fun ad => [.ref (ad 0), .int x1, .int x2]) q (fun _ => some (.int r)) q2 :=
  ct_of (by decide) (fun _ => Nat.le_of_ble_eq_true rfl) (fun ad J hR => t8_sort hR N ⟨rfl, rfl⟩ x1 x2 q h)
theorem t8_get (hR : Rl wC 2 RX8 cX8_get 4 (some .int) ad J P) (q : SS) {r : Int32} (hP : P (some (.int r)) q) (x1 : Int32) (x2 : Int32) (x3 : Int32) (h : f8_get q x1 x2 x3 = some r) : J [(0, .ref (ad 0)), (1, .int x1), (2, .int x2), (3, .int x3)] [] q 0 := by
  unfold f8_get at h
  refine r_aload_n hR dX8_get_0 rfl 0 rfl ?_
  refine g_X8_shelf hR m_1_201 dX8_get_1 ?_
  refine r_iload_n hR dX8_get_4 rfl 1 rfl ?_
  refine r_iload_n hR dX8_get_5 rfl 2 rfl ?_
  obtain ⟨r_6, hc, h⟩ := bd_some h
  refine r_callVi hR (c7_holdsRow hc) (cf_X8_95 (by decide)) ⟨m_2_50, m_2_51⟩ (As := [.int x1, .int x2]) (q0 := 1) (ci := 5) rfl rfl rfl rfl (rc_X7 ad _) (Nat.le_of_ble_eq_true rfl) rfl dX8_get_6 ?_
  refine r_if_eq hR (tgt := 19) dX8_get_9 (by decide) (fun c_9 => ?_) (fun c_9 => ?_)
  · replace h := it_t c_9 h
    refine r_bipush hR dX8_get_19 kc_bipush_m101 ?_
    exact r_iret hR dX8_get_21 rfl (rt1 hP h)
  · replace h := it_f c_9 h
    refine r_iload_n hR dX8_get_12 rfl 3 rfl ?_
    obtain ⟨r_13, hc, h⟩ := bd_some h
    refine r_callSi hR (c8_isLetter hc) (cf_X8_108 (by decide)) m_2_83 (As := [.int x3]) rfl rfl (Nat.le_of_ble_eq_true rfl) rfl dX8_get_13 ?_
    refine r_if_ne hR (tgt := 22) dX8_get_16 (by decide) (fun c_16 => ?_) (fun c_16 => ?_)
    · replace h := it_f c_16 h
      refine r_aload_n hR dX8_get_22 rfl 0 rfl ?_
      refine g_X8_shelf hR m_1_201 dX8_get_23 ?_
      refine r_iload_n hR dX8_get_26 rfl 1 rfl ?_
      refine r_iload_n hR dX8_get_27 rfl 3 rfl ?_
      obtain ⟨r_28, hc, h⟩ := bd_some h
      refine r_callVi hR (c7_hasLetter hc) (cf_X8_102 (by decide)) ⟨m_2_37, m_2_38⟩ (As := [.int x1, .int x3]) (q0 := 1) (ci := 5) rfl rfl rfl rfl (rc_X7 ad _) (Nat.le_of_ble_eq_true rfl) rfl dX8_get_28 ?_
      refine r_if_ne hR (tgt := 36) dX8_get_31 (by decide) (fun c_31 => ?_) (fun c_31 => ?_)
      · replace h := it_f c_31 h
        refine r_aload_n hR dX8_get_36 rfl 0 rfl ?_
        refine g_X8_shelf hR m_1_201 dX8_get_37 ?_
        refine r_iload_n hR dX8_get_40 rfl 1 rfl ?_
        refine r_iload_n hR dX8_get_41 rfl 2 rfl ?_
        obtain ⟨r_42, hc, h⟩ := bd_some h
        refine r_callVi hR (c7_codeAt hc) (cf_X8_111 (by decide)) ⟨m_2_72, m_2_73⟩ (As := [.int x1, .int x2]) (q0 := 1) (ci := 5) rfl rfl rfl rfl (rc_X7 ad _) (Nat.le_of_ble_eq_true rfl) rfl dX8_get_42 ?_
        refine r_iload_n hR dX8_get_45 rfl 3 rfl ?_
        obtain ⟨r_46, hc, h⟩ := bd_some h
        refine r_callSi hR (c4_numberIn hc) (cf_X8_114 (by decide)) m_2_76 (As := [.int r_42, .int x3]) rfl rfl (Nat.le_of_ble_eq_true rfl) rfl dX8_get_46 ?_
        exact r_iret hR dX8_get_49 rfl (rt1 hP h)
      · replace h := it_t c_31 h
        refine r_iconst hR dX8_get_34 kc_iconst_m1 ?_
        exact r_iret hR dX8_get_35 rfl (rt1 hP h)
    · replace h := it_t c_16 h
      refine r_bipush hR dX8_get_19 kc_bipush_m101 ?_
      exact r_iret hR dX8_get_21 rfl (rt1 hP h)
theorem c8_get {x1 : Int32} {x2 : Int32} {x3 : Int32} {q : SS} {r : Int32} (h : f8_get q x1 x2 x3 = some r) : Ct wC 2 yX8_get cX8_get 4 (some .int) (fun ad => [.ref (ad 0), .int x1, .int x2, .int x3]) q (fun _ => some (.int r)) q :=
  ct_of (by decide) (fun _ => Nat.le_of_ble_eq_true rfl) (fun ad J hR => t8_get hR q ⟨rfl, rfl⟩ x1 x2 x3 h)
theorem t8_about (hR : Rl wC 4 RX8 cX8_about 3 (some .int) ad J P) (N : Nat) (q : SS) {r : Int32} (hP : P (some (.int r)) q) (x1 : Int32) (x2 : Int32) (h : f8_about N q x1 x2 = some r) : J [(0, .ref (ad 0)), (1, .int x1), (2, .int x2)] [] q 0 := by
  unfold f8_about at h
  refine r_aload_n hR dX8_about_0 rfl 0 rfl ?_
  refine g_X8_shelf hR m_1_201 dX8_about_1 ?_
  refine r_iload_n hR dX8_about_4 rfl 1 rfl ?_
  obtain ⟨r_5, hc, h⟩ := bd_some h
  refine r_callVi hR (c7_holds hc) (cf_X8_69 (by decide)) ⟨m_2_2, m_2_3⟩ (As := [.int x1]) (q0 := 1) (ci := 5) rfl rfl rfl rfl (rc_X7 ad _) (Nat.le_of_ble_eq_true rfl) rfl dX8_about_5 ?_
  refine r_if_ne hR (tgt := 14) dX8_about_8 (by decide) (fun c_8 => ?_) (fun c_8 => ?_)
  · replace h := it_f c_8 h
    refine r_iload_n hR dX8_about_14 rfl 2 rfl ?_
    by_cases c_15_0 : x2 = (0 : Int32)
    · replace h := it_t c_15_0 h
      refine r_tableIn hR (off := 33) (tgt := 48) dX8_about_15 (by rw [c_15_0]; decide) (by rw [c_15_0]; decide) (by rw [c_15_0]; decide) (by decide) ?_
      refine r_aload_n hR dX8_about_48 rfl 0 rfl ?_
      refine g_X8_shelf hR m_1_201 dX8_about_49 ?_
      refine r_iload_n hR dX8_about_52 rfl 1 rfl ?_
      obtain ⟨r_53, hc, h⟩ := bd_some h
      refine r_callVi hR (c7_lettersOf hc) (cf_X8_73 (by decide)) ⟨m_2_6, m_2_7⟩ (As := [.int x1]) (q0 := 1) (ci := 5) rfl rfl rfl rfl (rc_X7 ad _) (Nat.le_of_ble_eq_true rfl) rfl dX8_about_53 ?_
      exact r_iret hR dX8_about_56 rfl (rt1 hP h)
    · replace h := it_f c_15_0 h
      by_cases c_15_1 : x2 = (1 : Int32)
      · replace h := it_t c_15_1 h
        refine r_tableIn hR (off := 42) (tgt := 57) dX8_about_15 (by rw [c_15_1]; decide) (by rw [c_15_1]; decide) (by rw [c_15_1]; decide) (by decide) ?_
        refine r_aload_n hR dX8_about_57 rfl 0 rfl ?_
        refine g_X8_shelf hR m_1_201 dX8_about_58 ?_
        refine r_iload_n hR dX8_about_61 rfl 1 rfl ?_
        obtain ⟨r_62, hc, h⟩ := bd_some h
        refine r_callVi hR (c7_perOf hc) (cf_X8_117 (by decide)) ⟨m_2_92, m_2_93⟩ (As := [.int x1]) (q0 := 1) (ci := 5) rfl rfl rfl rfl (rc_X7 ad _) (Nat.le_of_ble_eq_true rfl) rfl dX8_about_62 ?_
        exact r_iret hR dX8_about_65 rfl (rt1 hP h)
      · replace h := it_f c_15_1 h
        by_cases c_15_2 : x2 = (2 : Int32)
        · replace h := it_t c_15_2 h
          refine r_tableIn hR (off := 51) (tgt := 66) dX8_about_15 (by rw [c_15_2]; decide) (by rw [c_15_2]; decide) (by rw [c_15_2]; decide) (by decide) ?_
          refine r_aload_n hR dX8_about_66 rfl 0 rfl ?_
          refine g_X8_shelf hR m_1_201 dX8_about_67 ?_
          refine r_iload_n hR dX8_about_70 rfl 1 rfl ?_
          obtain ⟨r_71, hc, h⟩ := bd_some h
          refine r_callVi hR (c7_rowsOf hc) (cf_X8_80 (by decide)) ⟨m_2_13, m_2_14⟩ (As := [.int x1]) (q0 := 1) (ci := 5) rfl rfl rfl rfl (rc_X7 ad _) (Nat.le_of_ble_eq_true rfl) rfl dX8_about_71 ?_
          exact r_iret hR dX8_about_74 rfl (rt1 hP h)
        · replace h := it_f c_15_2 h
          by_cases c_15_3 : x2 = (3 : Int32)
          · replace h := it_t c_15_3 h
            refine r_tableIn hR (off := 60) (tgt := 75) dX8_about_15 (by rw [c_15_3]; decide) (by rw [c_15_3]; decide) (by rw [c_15_3]; decide) (by decide) ?_
            refine r_aload_n hR dX8_about_75 rfl 0 rfl ?_
            refine g_X8_shelf hR m_1_201 dX8_about_76 ?_
            refine r_iload_n hR dX8_about_79 rfl 1 rfl ?_
            obtain ⟨r_80, hc, h⟩ := bd_some h
            refine r_callVi hR (c7_pagesOfTable hc) (cf_X8_120 (by decide)) ⟨m_2_96, m_2_97⟩ (As := [.int x1]) (q0 := 1) (ci := 5) rfl rfl rfl rfl (rc_X7 ad _) (Nat.le_of_ble_eq_true rfl) rfl dX8_about_80 ?_
            exact r_iret hR dX8_about_83 rfl (rt1 hP h)
          · replace h := it_f c_15_3 h
            by_cases c_15_4 : x2 = (4 : Int32)
            · replace h := it_t c_15_4 h
              refine r_tableIn hR (off := 69) (tgt := 84) dX8_about_15 (by rw [c_15_4]; decide) (by rw [c_15_4]; decide) (by rw [c_15_4]; decide) (by decide) ?_
              refine r_aload_n hR dX8_about_84 rfl 0 rfl ?_
              refine g_X8_shelf hR m_1_201 dX8_about_85 ?_
              refine r_iload_n hR dX8_about_88 rfl 1 rfl ?_
              obtain ⟨r_89, hc, h⟩ := bd_some h
              refine r_callVi hR (c7_sortedLetter N hc) (cf_X8_123 (by decide)) ⟨m_2_104, m_2_105⟩ (As := [.int x1]) (q0 := 1) (ci := 5) rfl rfl rfl rfl (rc_X7 ad _) (Nat.le_of_ble_eq_true rfl) rfl dX8_about_89 ?_
              exact r_iret hR dX8_about_92 rfl (rt1 hP h)
            · replace h := it_f c_15_4 h
              have n_0 : ¬ (x2).toInt = 0 := lv_neT c_15_0 (by decide)
              have n_1 : ¬ (x2).toInt = 1 := lv_neT c_15_1 (by decide)
              have n_2 : ¬ (x2).toInt = 2 := lv_neT c_15_2 (by decide)
              have n_3 : ¬ (x2).toInt = 3 := lv_neT c_15_3 (by decide)
              have n_4 : ¬ (x2).toInt = 4 := lv_neT c_15_4 (by decide)
              refine r_tableOut hR (tgt := 93) dX8_about_15 (by omega) (by decide) ?_
              refine r_bipush hR dX8_about_93 kc_bipush_m102 ?_
              exact r_iret hR dX8_about_95 rfl (rt1 hP h)
  · replace h := it_t c_8 h
    refine r_bipush hR dX8_about_11 kc_bipush_m101 ?_
    exact r_iret hR dX8_about_13 rfl (rt1 hP h)
theorem c8_about (N : Nat) {x1 : Int32} {x2 : Int32} {q : SS} {r : Int32} (h : f8_about N q x1 x2 = some r) : Ct wC 4 yX8_about cX8_about 3 (some .int) (fun ad => [.ref (ad 0), .int x1, .int x2]) q (fun _ => some (.int r)) q :=
  ct_of (by decide) (fun _ => Nat.le_of_ble_eq_true rfl) (fun ad J hR => t8_about hR N q ⟨rfl, rfl⟩ x1 x2 h)
theorem t8_unlike (hR : Rl wC 3 RX8 cX8_unlike 3 (some .int) ad J P) (N : Nat) (q : SS) {r : Int32} (hP : P (some (.int r)) q) (x1 : Int32) (x2 : Int32) (h : f8_unlike N q x1 x2 = some r) : J [(0, .ref (ad 0)), (1, .int x1), (2, .int x2)] [] q 0 := by
  unfold f8_unlike at h
  refine r_aload_n hR dX8_unlike_0 rfl 0 rfl ?_
  refine g_X8_shelf hR m_1_201 dX8_unlike_1 ?_
  refine r_iload_n hR dX8_unlike_4 rfl 1 rfl ?_
  obtain ⟨r_5, hc, h⟩ := bd_some h
  refine r_callVi hR (c7_holds hc) (cf_X8_69 (by decide)) ⟨m_2_2, m_2_3⟩ (As := [.int x1]) (q0 := 1) (ci := 5) rfl rfl rfl rfl (rc_X7 ad _) (Nat.le_of_ble_eq_true rfl) rfl dX8_unlike_5 ?_
  refine r_if_ne hR (tgt := 14) dX8_unlike_8 (by decide) (fun c_8 => ?_) (fun c_8 => ?_)
  · replace h := it_f c_8 h
    refine r_aload_n hR dX8_unlike_14 rfl 0 rfl ?_
    refine g_X8_shelf hR m_1_201 dX8_unlike_15 ?_
    refine r_iload_n hR dX8_unlike_18 rfl 1 rfl ?_
    refine r_iload_n hR dX8_unlike_19 rfl 2 rfl ?_
    obtain ⟨r_20, hc, h⟩ := bd_some h
    refine r_callVi hR (c7_hasLetter hc) (cf_X8_102 (by decide)) ⟨m_2_37, m_2_38⟩ (As := [.int x1, .int x2]) (q0 := 1) (ci := 5) rfl rfl rfl rfl (rc_X7 ad _) (Nat.le_of_ble_eq_true rfl) rfl dX8_unlike_20 ?_
    refine r_if_ne hR (tgt := 29) dX8_unlike_23 (by decide) (fun c_23 => ?_) (fun c_23 => ?_)
    · replace h := it_f c_23 h
      refine r_aload_n hR dX8_unlike_29 rfl 0 rfl ?_
      refine g_X8_shelf hR m_1_201 dX8_unlike_30 ?_
      refine r_iload_n hR dX8_unlike_33 rfl 1 rfl ?_
      refine r_iload_n hR dX8_unlike_34 rfl 2 rfl ?_
      obtain ⟨r_35, hc, h⟩ := bd_some h
      refine r_callVi hR (c7_unlikeNumbers N hc) (cf_X8_126 (by decide)) ⟨m_2_116, m_2_117⟩ (As := [.int x1, .int x2]) (q0 := 1) (ci := 5) rfl rfl rfl rfl (rc_X7 ad _) (Nat.le_of_ble_eq_true rfl) rfl dX8_unlike_35 ?_
      exact r_iret hR dX8_unlike_38 rfl (rt1 hP h)
    · replace h := it_t c_23 h
      refine r_bipush hR dX8_unlike_26 kc_bipush_m102 ?_
      exact r_iret hR dX8_unlike_28 rfl (rt1 hP h)
  · replace h := it_t c_8 h
    refine r_bipush hR dX8_unlike_11 kc_bipush_m101 ?_
    exact r_iret hR dX8_unlike_13 rfl (rt1 hP h)
theorem c8_unlike (N : Nat) {x1 : Int32} {x2 : Int32} {q : SS} {r : Int32} (h : f8_unlike N q x1 x2 = some r) : Ct wC 3 yX8_unlike cX8_unlike 3 (some .int) (fun ad => [.ref (ad 0), .int x1, .int x2]) q (fun _ => some (.int r)) q :=
  ct_of (by decide) (fun _ => Nat.le_of_ble_eq_true rfl) (fun ad J hR => t8_unlike hR N q ⟨rfl, rfl⟩ x1 x2 h)
theorem t8_rule_b64 (hR : Rl wC 2 RX8 cX8_rule 3 (some .int) ad J P) {r : Int32} {q2 : SS} (hP : P (some (.int r)) q2) (q : SS) (h : f8_rule_b64 q = some (r, q2)) : J [] [] q 64 := by
  unfold f8_rule_b64 at h
  refine r_bipush hR dX8_rule_64 kc_bipush_m102 ?_
  refine r_goto hR (tgt := 77) dX8_rule_66 (by decide) ?_
  exact r_iret hR dX8_rule_77 rfl (rt2 hP h)
theorem t8_rule_b39 (hR : Rl wC 2 RX8 cX8_rule 3 (some .int) ad J P) {r : Int32} {q2 : SS} (hP : P (some (.int r)) q2) (q : SS) (h : f8_rule_b39 q = some (r, q2)) : J [] [] q 39 := by
  unfold f8_rule_b39 at h
  refine r_bipush hR dX8_rule_39 kc_bipush_m102 ?_
  refine r_goto hR (tgt := 52) dX8_rule_41 (by decide) ?_
  exact r_iret hR dX8_rule_52 rfl (rt2 hP h)
theorem t8_rule (hR : Rl wC 2 RX8 cX8_rule 3 (some .int) ad J P) {r : Int32} {q2 : SS} (hP : P (some (.int r)) q2) (x1 : Int32) (x2 : Int32) (q : SS) (h : f8_rule x1 x2 q = some (r, q2)) : J [(0, .ref (ad 0)), (1, .int x1), (2, .int x2)] [] q 0 := by
  unfold f8_rule at h
  refine r_iload_n hR dX8_rule_0 rfl 1 rfl ?_
  by_cases c_1_0 : x1 = (0 : Int32)
  · replace h := it_t c_1_0 h
    refine r_lookup hR (off := 27) (tgt := 28) dX8_rule_1 (by decide) (by rw [c_1_0]; decide) (by decide) ?_
    refine r_iload_n hR dX8_rule_28 rfl 2 rfl ?_
    refine r_iconst hR dX8_rule_29 kc_iconst_1 ?_
    refine r_icmp_lt hR (tgt := 39) dX8_rule_30 (by decide) (fun c_30 => ?_) (fun c_30 => ?_)
    · replace h := it_t c_30 h
      exact r_sub hR [] rfl (t8_rule_b39 hR hP _ h)
    · replace h := it_f c_30 h
      refine r_iload_n hR dX8_rule_33 rfl 2 rfl ?_
      refine r_bipush hR dX8_rule_34 kc_bipush_8 ?_
      refine r_icmp_le hR (tgt := 44) dX8_rule_36 (by decide) (fun c_36 => ?_) (fun c_36 => ?_)
      · replace h := it_t c_36 h
        refine r_aload_n hR dX8_rule_44 rfl 0 rfl ?_
        refine g_X8_shelf hR m_1_201 dX8_rule_45 ?_
        refine r_iload_n hR dX8_rule_48 rfl 2 rfl ?_
        obtain ⟨r_49, q_49, hc, h⟩ := bd2_some h
        refine r_callVi hR (c7_putWide hc) (cf_X8_129 (by decide)) ⟨m_2_125, m_2_126⟩ (As := [.int x2]) (q0 := 1) (ci := 5) rfl rfl rfl rfl (rc_X7 ad _) (Nat.le_of_ble_eq_true rfl) rfl dX8_rule_49 ?_
        exact r_iret hR dX8_rule_52 rfl (rt2 hP h)
      · replace h := it_f c_36 h
        exact r_sub hR [] rfl (t8_rule_b39 hR hP _ h)
  · replace h := it_f c_1_0 h
    by_cases c_1_1 : x1 = (1 : Int32)
    · replace h := it_t c_1_1 h
      refine r_lookup hR (off := 52) (tgt := 53) dX8_rule_1 (by decide) (by rw [c_1_1]; decide) (by decide) ?_
      refine r_iload_n hR dX8_rule_53 rfl 2 rfl ?_
      refine r_iconst hR dX8_rule_54 kc_iconst_3 ?_
      refine r_icmp_lt hR (tgt := 64) dX8_rule_55 (by decide) (fun c_55 => ?_) (fun c_55 => ?_)
      · replace h := it_t c_55 h
        exact r_sub hR [] rfl (t8_rule_b64 hR hP _ h)
      · replace h := it_f c_55 h
        refine r_iload_n hR dX8_rule_58 rfl 2 rfl ?_
        refine r_bipush hR dX8_rule_59 kc_bipush_9 ?_
        refine r_icmp_le hR (tgt := 69) dX8_rule_61 (by decide) (fun c_61 => ?_) (fun c_61 => ?_)
        · replace h := it_t c_61 h
          refine r_aload_n hR dX8_rule_69 rfl 0 rfl ?_
          refine g_X8_shelf hR m_1_201 dX8_rule_70 ?_
          refine r_iload_n hR dX8_rule_73 rfl 2 rfl ?_
          obtain ⟨r_74, q_74, hc, h⟩ := bd2_some h
          refine r_callVi hR (c7_putMemory hc) (cf_X8_132 (by decide)) ⟨m_2_129, m_2_130⟩ (As := [.int x2]) (q0 := 1) (ci := 5) rfl rfl rfl rfl (rc_X7 ad _) (Nat.le_of_ble_eq_true rfl) rfl dX8_rule_74 ?_
          exact r_iret hR dX8_rule_77 rfl (rt2 hP h)
        · replace h := it_f c_61 h
          exact r_sub hR [] rfl (t8_rule_b64 hR hP _ h)
    · replace h := it_f c_1_1 h
      refine r_lookup hR (off := 77) (tgt := 78) dX8_rule_1 (by decide) (by show Op.lookupswitch.offset [(0, 27), (1, 52)] 77 _ = _; rw [lv_osw c_1_0 (by decide), lv_osw c_1_1 (by decide)]; rfl) (by decide) ?_
      refine r_bipush hR dX8_rule_78 kc_bipush_m101 ?_
      exact r_iret hR dX8_rule_80 rfl (rt2 hP h)
theorem c8_rule {x1 : Int32} {x2 : Int32} {q : SS} {r : Int32} {q2 : SS} (h : f8_rule x1 x2 q = some (r, q2)) : Ct wC 2 yX8_rule cX8_rule 3 (some .int) (fun ad => [.ref (ad 0), .int x1, .int x2]) q (fun _ => some (.int r)) q2 :=
  ct_of (by decide) (fun _ => Nat.le_of_ble_eq_true rfl) (fun ad J hR => t8_rule hR ⟨rfl, rfl⟩ x1 x2 q h)
theorem t8_isBy_b9 (hR : Rl wC 1 RX8 cX8_isBy 1 (some .boolean) ad J P) {q : SS} {r : Int32} (hP : P (some (.int r)) q) (h : f8_isBy_b9 = some r) : J [] [] q 9 := by
  unfold f8_isBy_b9 at h
  refine r_iconst hR dX8_isBy_9 kc_iconst_1 ?_
  refine r_goto hR (tgt := 14) dX8_isBy_10 (by decide) ?_
  exact r_zret hR dX8_isBy_14 rfl (Or.inr rfl) (rt1 hP h)
theorem t8_isBy (hR : Rl wC 1 RX8 cX8_isBy 1 (some .boolean) ad J P) {q : SS} {r : Int32} (hP : P (some (.int r)) q) (x0 : Int32) (h : f8_isBy x0 = some r) : J [(0, .int x0)] [] q 0 := by
  unfold f8_isBy at h
  refine r_iload_n hR dX8_isBy_0 rfl 0 rfl ?_
  refine r_if_eq hR (tgt := 9) dX8_isBy_1 (by decide) (fun c_1 => ?_) (fun c_1 => ?_)
  · replace h := it_t c_1 h
    exact r_sub hR [] rfl (t8_isBy_b9 hR hP h)
  · replace h := it_f c_1 h
    refine r_iload_n hR dX8_isBy_4 rfl 0 rfl ?_
    refine r_iconst hR dX8_isBy_5 kc_iconst_1 ?_
    refine r_icmp_ne hR (tgt := 13) dX8_isBy_6 (by decide) (fun c_6 => ?_) (fun c_6 => ?_)
    · replace h := it_f c_6 h
      refine r_iconst hR dX8_isBy_13 kc_iconst_0 ?_
      exact r_zret hR dX8_isBy_14 rfl (Or.inl rfl) (rt1 hP h)
    · replace h := it_t c_6 h
      exact r_sub hR [] rfl (t8_isBy_b9 hR hP h)
theorem c8_isBy {x0 : Int32} {q : SS} {r : Int32} (h : f8_isBy x0 = some r) : Ct wC 1 yX8_isBy cX8_isBy 1 (some .boolean) (fun ad => [.int x0]) q (fun _ => some (.int r)) q :=
  ct_of (by decide) (fun _ => Nat.le_of_ble_eq_true rfl) (fun ad J hR => t8_isBy hR ⟨rfl, rfl⟩ x0 h)
theorem t8_size (hR : Rl wC 12 RX8 cX8_size 3 (some .int) ad J P) (N : Nat) {r : Int32} {q2 : SS} (hP : P (some (.int r)) q2) (x1 : Int32) (x2 : Int32) (q : SS) (h : f8_size N x1 x2 q = some (r, q2)) : J [(0, .ref (ad 0)), (1, .int x1), (2, .int x2)] [] q 0 := by
  unfold f8_size at h
  refine r_aload_n hR dX8_size_0 rfl 0 rfl ?_
  refine g_X8_shelf hR m_1_201 dX8_size_1 ?_
  refine r_iload_n hR dX8_size_4 rfl 1 rfl ?_
  obtain ⟨r_5, hc, h⟩ := bd_some h
  refine r_callVi hR (c7_isSet hc) (cf_X8_135 (by decide)) ⟨m_2_137, m_2_138⟩ (As := [.int x1]) (q0 := 1) (ci := 5) rfl rfl rfl rfl (rc_X7 ad _) (Nat.le_of_ble_eq_true rfl) rfl dX8_size_5 ?_
  refine r_if_eq hR (tgt := 18) dX8_size_8 (by decide) (fun c_8 => ?_) (fun c_8 => ?_)
  · replace h := it_t c_8 h
    refine r_bipush hR dX8_size_18 kc_bipush_m102 ?_
    exact r_iret hR dX8_size_20 rfl (rt2 hP h)
  · replace h := it_f c_8 h
    refine r_iload_n hR dX8_size_11 rfl 2 rfl ?_
    obtain ⟨r_12, hc, h⟩ := bd_some h
    refine r_callSi hR (c8_isBy hc) (cf_X8_138 (by decide)) m_2_141 (As := [.int x2]) rfl rfl (Nat.le_of_ble_eq_true rfl) rfl dX8_size_12 ?_
    refine r_if_ne hR (tgt := 21) dX8_size_15 (by decide) (fun c_15 => ?_) (fun c_15 => ?_)
    · replace h := it_f c_15 h
      refine r_aload_n hR dX8_size_21 rfl 0 rfl ?_
      refine g_X8_matches hR m_1_202 dX8_size_22 ?_
      refine r_iload_n hR dX8_size_25 rfl 1 rfl ?_
      refine r_iload_n hR dX8_size_26 rfl 2 rfl ?_
      obtain ⟨r_27, q_27, hc, h⟩ := bd2_some h
      refine r_callVi hR (c3_sizeOf N hc) (cf_X8_141 (by decide)) ⟨m_2_144, m_2_145⟩ (As := [.int x1, .int x2]) (q0 := 2) (ci := 3) rfl rfl rfl rfl (rc_X3 ad _) (Nat.le_of_ble_eq_true rfl) rfl dX8_size_27 ?_
      exact r_iret hR dX8_size_30 rfl (rt2 hP h)
    · replace h := it_t c_15 h
      refine r_bipush hR dX8_size_18 kc_bipush_m102 ?_
      exact r_iret hR dX8_size_20 rfl (rt2 hP h)
theorem c8_size (N : Nat) {x1 : Int32} {x2 : Int32} {q : SS} {r : Int32} {q2 : SS} (h : f8_size N x1 x2 q = some (r, q2)) : Ct wC 12 yX8_size cX8_size 3 (some .int) (fun ad => [.ref (ad 0), .int x1, .int x2]) q (fun _ => some (.int r)) q2 :=
  ct_of (by decide) (fun _ => Nat.le_of_ble_eq_true rfl) (fun ad J hR => t8_size hR N ⟨rfl, rfl⟩ x1 x2 q h)
theorem t8_pages (hR : Rl wC 13 RX8 cX8_pages 3 (some .int) ad J P) (N : Nat) {r : Int32} {q2 : SS} (hP : P (some (.int r)) q2) (x1 : Int32) (x2 : Int32) (q : SS) (h : f8_pages N x1 x2 q = some (r, q2)) : J [(0, .ref (ad 0)), (1, .int x1), (2, .int x2)] [] q 0 := by
  unfold f8_pages at h
  refine r_aload_n hR dX8_pages_0 rfl 0 rfl ?_
  refine g_X8_shelf hR m_1_201 dX8_pages_1 ?_
  refine r_iload_n hR dX8_pages_4 rfl 1 rfl ?_
  obtain ⟨r_5, hc, h⟩ := bd_some h
  refine r_callVi hR (c7_isSet hc) (cf_X8_135 (by decide)) ⟨m_2_137, m_2_138⟩ (As := [.int x1]) (q0 := 1) (ci := 5) rfl rfl rfl rfl (rc_X7 ad _) (Nat.le_of_ble_eq_true rfl) rfl dX8_pages_5 ?_
  refine r_if_eq hR (tgt := 18) dX8_pages_8 (by decide) (fun c_8 => ?_) (fun c_8 => ?_)
  · replace h := it_t c_8 h
    refine r_bipush hR dX8_pages_18 kc_bipush_m102 ?_
    exact r_iret hR dX8_pages_20 rfl (rt2 hP h)
  · replace h := it_f c_8 h
    refine r_iload_n hR dX8_pages_11 rfl 2 rfl ?_
    obtain ⟨r_12, hc, h⟩ := bd_some h
    refine r_callSi hR (c8_isBy hc) (cf_X8_138 (by decide)) m_2_141 (As := [.int x2]) rfl rfl (Nat.le_of_ble_eq_true rfl) rfl dX8_pages_12 ?_
    refine r_if_ne hR (tgt := 21) dX8_pages_15 (by decide) (fun c_15 => ?_) (fun c_15 => ?_)
    · replace h := it_f c_15 h
      refine r_aload_n hR dX8_pages_21 rfl 0 rfl ?_
      refine g_X8_matches hR m_1_202 dX8_pages_22 ?_
      refine r_iload_n hR dX8_pages_25 rfl 1 rfl ?_
      refine r_iload_n hR dX8_pages_26 rfl 2 rfl ?_
      obtain ⟨r_27, q_27, hc, h⟩ := bd2_some h
      refine r_callVi hR (c3_pagesOf N hc) (cf_X8_144 (by decide)) ⟨m_2_196, m_2_197⟩ (As := [.int x1, .int x2]) (q0 := 2) (ci := 3) rfl rfl rfl rfl (rc_X3 ad _) (Nat.le_of_ble_eq_true rfl) rfl dX8_pages_27 ?_
      exact r_iret hR dX8_pages_30 rfl (rt2 hP h)
    · replace h := it_t c_15 h
      refine r_bipush hR dX8_pages_18 kc_bipush_m102 ?_
      exact r_iret hR dX8_pages_20 rfl (rt2 hP h)
theorem c8_pages (N : Nat) {x1 : Int32} {x2 : Int32} {q : SS} {r : Int32} {q2 : SS} (h : f8_pages N x1 x2 q = some (r, q2)) : Ct wC 13 yX8_pages cX8_pages 3 (some .int) (fun ad => [.ref (ad 0), .int x1, .int x2]) q (fun _ => some (.int r)) q2 :=
  ct_of (by decide) (fun _ => Nat.le_of_ble_eq_true rfl) (fun ad J hR => t8_pages hR N ⟨rfl, rfl⟩ x1 x2 q h)
theorem t8_refusalOfMember_b39 (hR : Rl wC 2 RX8 cX8_refusalOfMember 4 (some .int) ad J P) (q : SS) {r : Int32} (hP : P (some (.int r)) q) (s0 : Int32) (h : f8_refusalOfMember_b39 q s0 = some r) : J [] [.int s0] q 39 := by
  unfold f8_refusalOfMember_b39 at h
  refine r_istore_n hR (i := 3) (lv' := [(3, .int s0)]) dX8_refusalOfMember_39 rfl rfl (by decide) rfl ?_
  refine r_iload_n hR dX8_refusalOfMember_40 rfl 0 rfl ?_
  refine r_if_eq hR (tgt := 48) dX8_refusalOfMember_41 (by decide) (fun c_41 => ?_) (fun c_41 => ?_)
  · replace h := it_t c_41 h
    refine r_bipush hR dX8_refusalOfMember_48 kc_bipush_m101 ?_
    exact r_iret hR dX8_refusalOfMember_50 rfl (rt1 hP h)
  · replace h := it_f c_41 h
    refine r_iconst hR dX8_refusalOfMember_44 kc_iconst_0 ?_
    refine r_goto hR (tgt := 50) dX8_refusalOfMember_45 (by decide) ?_
    exact r_iret hR dX8_refusalOfMember_50 rfl (rt1 hP h)
theorem t8_refusalOfMember_b38 (hR : Rl wC 2 RX8 cX8_refusalOfMember 4 (some .int) ad J P) (q : SS) {r : Int32} (hP : P (some (.int r)) q) (h : f8_refusalOfMember_b38 q = some r) : J [] [] q 38 := by
  unfold f8_refusalOfMember_b38 at h
  refine r_iconst hR dX8_refusalOfMember_38 kc_iconst_0 ?_
  exact r_sub hR [] rfl (t8_refusalOfMember_b39 hR q hP _ h)
theorem t8_refusalOfMember (hR : Rl wC 2 RX8 cX8_refusalOfMember 4 (some .int) ad J P) (q : SS) {r : Int32} (hP : P (some (.int r)) q) (x1 : Int32) (x2 : Int32) (h : f8_refusalOfMember q x1 x2 = some r) : J [(0, .ref (ad 0)), (1, .int x1), (2, .int x2)] [] q 0 := by
  unfold f8_refusalOfMember at h
  refine r_aload_n hR dX8_refusalOfMember_0 rfl 0 rfl ?_
  refine g_X8_shelf hR m_1_201 dX8_refusalOfMember_1 ?_
  refine r_iload_n hR dX8_refusalOfMember_4 rfl 1 rfl ?_
  obtain ⟨r_5, hc, h⟩ := bd_some h
  refine r_callVi hR (c7_isSet hc) (cf_X8_135 (by decide)) ⟨m_2_137, m_2_138⟩ (As := [.int x1]) (q0 := 1) (ci := 5) rfl rfl rfl rfl (rc_X7 ad _) (Nat.le_of_ble_eq_true rfl) rfl dX8_refusalOfMember_5 ?_
  refine r_if_ne hR (tgt := 14) dX8_refusalOfMember_8 (by decide) (fun c_8 => ?_) (fun c_8 => ?_)
  · replace h := it_f c_8 h
    refine r_aload_n hR dX8_refusalOfMember_14 rfl 0 rfl ?_
    refine g_X8_shelf hR m_1_201 dX8_refusalOfMember_15 ?_
    refine r_iload_n hR dX8_refusalOfMember_18 rfl 2 rfl ?_
    obtain ⟨r_19, hc, h⟩ := bd_some h
    refine r_callVi hR (c7_holds hc) (cf_X8_69 (by decide)) ⟨m_2_2, m_2_3⟩ (As := [.int x2]) (q0 := 1) (ci := 5) rfl rfl rfl rfl (rc_X7 ad _) (Nat.le_of_ble_eq_true rfl) rfl dX8_refusalOfMember_19 ?_
    refine r_if_eq hR (tgt := 38) dX8_refusalOfMember_22 (by decide) (fun c_22 => ?_) (fun c_22 => ?_)
    · replace h := it_t c_22 h
      exact r_sub hR [] rfl (t8_refusalOfMember_b38 hR q hP h)
    · replace h := it_f c_22 h
      refine r_iload_n hR dX8_refusalOfMember_25 rfl 1 rfl ?_
      refine r_iload_n hR dX8_refusalOfMember_26 rfl 2 rfl ?_
      refine r_ishr hR dX8_refusalOfMember_27 ?_
      refine r_iconst hR dX8_refusalOfMember_28 kc_iconst_1 ?_
      refine r_iand hR dX8_refusalOfMember_29 ?_
      refine r_iconst hR dX8_refusalOfMember_30 kc_iconst_1 ?_
      refine r_icmp_ne hR (tgt := 38) dX8_refusalOfMember_31 (by decide) (fun c_31 => ?_) (fun c_31 => ?_)
      · replace h := it_f c_31 h
        exact r_sub hR [] rfl (t8_refusalOfMember_b38 hR q hP h)
      · replace h := it_t c_31 h
        refine r_iconst hR dX8_refusalOfMember_34 kc_iconst_1 ?_
        refine r_goto hR (tgt := 39) dX8_refusalOfMember_35 (by decide) ?_
        exact r_sub hR [] rfl (t8_refusalOfMember_b39 hR q hP _ h)
  · replace h := it_t c_8 h
    refine r_bipush hR dX8_refusalOfMember_11 kc_bipush_m102 ?_
    exact r_iret hR dX8_refusalOfMember_13 rfl (rt1 hP h)
theorem c8_refusalOfMember {x1 : Int32} {x2 : Int32} {q : SS} {r : Int32} (h : f8_refusalOfMember q x1 x2 = some r) : Ct wC 2 yX8_refusalOfMember cX8_refusalOfMember 4 (some .int) (fun ad => [.ref (ad 0), .int x1, .int x2]) q (fun _ => some (.int r)) q :=
  ct_of (by decide) (fun _ => Nat.le_of_ble_eq_true rfl) (fun ad J hR => t8_refusalOfMember hR q ⟨rfl, rfl⟩ x1 x2 h)
end
