section
variable {ad : Nat → Nat} {J : JT} {P : PT} {ld : Nat}
theorem t3_firstLike_b56 (hR : Rl wC 2 RX3 cX3_firstLike 6 (some .int) ad J P) (N : Nat) (q : SS) {r : Int32} (hP : P (some (.int r)) q) (bk14 : Int32 → Int32 → Int32 → Int32 → Int32 → Option Int32) (hbk14 : ∀ (x1 : Int32) (x2 : Int32) (x3 : Int32) (x4 : Int32) (x5 : Int32), bk14 x1 x2 x3 x4 x5 = some r → J [(0, .ref (ad 2)), (1, .int x1), (2, .int x2), (3, .int x3), (4, .int x4), (5, .int x5)] [] q 14) (x1 : Int32) (x2 : Int32) (x3 : Int32) (x4 : Int32) (x5 : Int32) (h : f3_firstLike_b56 N q bk14 x1 x2 x3 x4 x5 = some r) : J [(0, .ref (ad 2)), (1, .int x1), (2, .int x2), (3, .int x3), (4, .int x4), (5, .int x5)] [] q 56 := by
  unfold f3_firstLike_b56 at h
  obtain ⟨x5_56, hx, h⟩ := bn_some h
  refine r_iinc hR (i := 5) (lv' := [(5, .int x5_56), (0, .ref (ad 2)), (1, .int x1), (2, .int x2), (3, .int x3), (4, .int x4)]) dX3_firstLike_56 5 rfl (inc_ok hx kc_iconst_1) (by decide) rfl ?_
  refine r_goto hR (tgt := 14) dX3_firstLike_59 (by decide) ?_
  exact r_sub hR [1, 2, 3, 4, 5, 0] rfl (hbk14 _ _ _ _ _ h)
theorem t3_firstLike_l14_B (hR : Rl wC 2 RX3 cX3_firstLike 6 (some .int) ad J P) (N : Nat) (q : SS) {r : Int32} (hP : P (some (.int r)) q) (bk14 : Int32 → Int32 → Int32 → Int32 → Int32 → Option Int32) (hbk14 : ∀ (x1 : Int32) (x2 : Int32) (x3 : Int32) (x4 : Int32) (x5 : Int32), bk14 x1 x2 x3 x4 x5 = some r → J [(0, .ref (ad 2)), (1, .int x1), (2, .int x2), (3, .int x3), (4, .int x4), (5, .int x5)] [] q 14) (x1 : Int32) (x2 : Int32) (x3 : Int32) (x4 : Int32) (x5 : Int32) (h : f3_firstLike_l14_B N q bk14 x1 x2 x3 x4 x5 = some r) : J [(0, .ref (ad 2)), (1, .int x1), (2, .int x2), (3, .int x3), (4, .int x4), (5, .int x5)] [] q 14 := by
  unfold f3_firstLike_l14_B at h
  refine r_iload hR dX3_firstLike_14 5 rfl ?_
  refine r_iload_n hR dX3_firstLike_16 rfl 2 rfl ?_
  refine r_icmp_ge hR (tgt := 62) dX3_firstLike_17 (by decide) (fun c_17 => ?_) (fun c_17 => ?_)
  · replace h := it_t c_17 h
    refine r_iload_n hR dX3_firstLike_62 rfl 2 rfl ?_
    exact r_iret hR dX3_firstLike_63 rfl (rt1 hP h)
  · replace h := it_f c_17 h
    refine r_aload_n hR dX3_firstLike_20 rfl 0 rfl ?_
    refine g_X3_weight hR m_1_62 dX3_firstLike_21 ?_
    refine r_iload_n hR dX3_firstLike_24 rfl 1 rfl ?_
    refine r_bipush hR dX3_firstLike_25 kc_bipush_8 ?_
    refine r_imul hR dX3_firstLike_27 ?_
    refine r_iload hR dX3_firstLike_28 5 rfl ?_
    refine r_iadd hR dX3_firstLike_30 ?_
    obtain ⟨hin, h⟩ := ck_some h
    refine ld_X3_weight hR dX3_firstLike_31 hin ?_
    refine r_if_le hR (tgt := 56) dX3_firstLike_32 (by decide) (fun c_32 => ?_) (fun c_32 => ?_)
    · replace h := it_t c_32 h
      exact r_sub hR [0, 1, 2, 3, 4, 5] rfl (t3_firstLike_b56 hR N q hP bk14 hbk14 _ _ _ _ _ h)
    · replace h := it_f c_32 h
      refine r_iload hR dX3_firstLike_35 4 rfl ?_
      refine r_aload_n hR dX3_firstLike_37 rfl 0 rfl ?_
      refine g_X3_shelf hR m_1_60 dX3_firstLike_38 ?_
      refine r_iload_n hR dX3_firstLike_41 rfl 1 rfl ?_
      refine r_iload hR dX3_firstLike_42 5 rfl ?_
      obtain ⟨r_44, hc, h⟩ := bd_some h
      refine r_callVi hR (c7_codeAt hc) (cf_X3_87 (by decide)) ⟨m_2_72, m_2_73⟩ (As := [.int x1, .int x5]) (q0 := 1) (ci := 5) rfl rfl rfl rfl (rc_X7 ad _) (Nat.le_of_ble_eq_true rfl) rfl dX3_firstLike_44 ?_
      refine r_ixor hR dX3_firstLike_47 ?_
      refine r_iload_n hR dX3_firstLike_48 rfl 3 rfl ?_
      refine r_iand hR dX3_firstLike_49 ?_
      refine r_if_ne hR (tgt := 56) dX3_firstLike_50 (by decide) (fun c_50 => ?_) (fun c_50 => ?_)
      · replace h := it_f c_50 h
        exact r_sub hR [0, 1, 2, 3, 4, 5] rfl (t3_firstLike_b56 hR N q hP bk14 hbk14 _ _ _ _ _ h)
      · replace h := it_t c_50 h
        refine r_iload hR dX3_firstLike_53 5 rfl ?_
        exact r_iret hR dX3_firstLike_55 rfl (rt1 hP h)
theorem t3_firstLike_l14 (hR : Rl wC 2 RX3 cX3_firstLike 6 (some .int) ad J P) (N : Nat) (q : SS) {r : Int32} (hP : P (some (.int r)) q) : ∀ (n : Nat) (x1 : Int32) (x2 : Int32) (x3 : Int32) (x4 : Int32) (x5 : Int32), f3_firstLike_l14 N q n x1 x2 x3 x4 x5 = some r → J [(0, .ref (ad 2)), (1, .int x1), (2, .int x2), (3, .int x3), (4, .int x4), (5, .int x5)] [] q 14 := by
  intro n
  induction n with
  | zero => intro x1 x2 x3 x4 x5 h; exact mu_noneF h
  | succ n ih => intro x1 x2 x3 x4 x5 h; exact t3_firstLike_l14_B hR N q hP _ ih x1 x2 x3 x4 x5 h
theorem t3_firstLike (hR : Rl wC 2 RX3 cX3_firstLike 6 (some .int) ad J P) (N : Nat) (q : SS) {r : Int32} (hP : P (some (.int r)) q) (x1 : Int32) (x2 : Int32) (x3 : Int32) (h : f3_firstLike N q x1 x2 x3 = some r) : J [(0, .ref (ad 2)), (1, .int x1), (2, .int x2), (3, .int x3)] [] q 0 := by
  unfold f3_firstLike at h
  refine r_aload_n hR dX3_firstLike_0 rfl 0 rfl ?_
  refine g_X3_shelf hR m_1_60 dX3_firstLike_1 ?_
  refine r_iload_n hR dX3_firstLike_4 rfl 1 rfl ?_
  refine r_iload_n hR dX3_firstLike_5 rfl 2 rfl ?_
  obtain ⟨r_6, hc, h⟩ := bd_some h
  refine r_callVi hR (c7_codeAt hc) (cf_X3_87 (by decide)) ⟨m_2_72, m_2_73⟩ (As := [.int x1, .int x2]) (q0 := 1) (ci := 5) rfl rfl rfl rfl (rc_X7 ad _) (Nat.le_of_ble_eq_true rfl) rfl dX3_firstLike_6 ?_
  refine r_istore hR (i := 4) (lv' := [(4, .int r_6), (0, .ref (ad 2)), (1, .int x1), (2, .int x2), (3, .int x3)]) dX3_firstLike_9 rfl (by decide) rfl ?_
  refine r_iconst hR dX3_firstLike_11 kc_iconst_0 ?_
  refine r_istore hR (i := 5) (lv' := [(5, .int (0 : Int32)), (4, .int r_6), (0, .ref (ad 2)), (1, .int x1), (2, .int x2), (3, .int x3)]) dX3_firstLike_12 rfl (by decide) rfl ?_
  exact r_sub hR [2, 3, 4, 5, 1, 0] rfl (t3_firstLike_l14 hR N q hP N _ _ _ _ _ h)
theorem c3_firstLike (N : Nat) {x1 : Int32} {x2 : Int32} {x3 : Int32} {q : SS} {r : Int32} (h : f3_firstLike N q x1 x2 x3 = some r) : Ct wC 2 yX3_firstLike cX3_firstLike 6 (some .int) (fun ad => [.ref (ad 2), .int x1, .int x2, .int x3]) q (fun _ => some (.int r)) q :=
  ct_of (by decide) (fun _ => Nat.le_of_ble_eq_true rfl) (fun ad J hR => t3_firstLike hR N q ⟨rfl, rfl⟩ x1 x2 x3 h)
theorem t3_weigh_b72 (hR : Rl wC 3 RX3 cX3_weigh 5 none ad J P) (N : Nat) {q2 : SS} (hP : P none q2) (bk8 : Int32 → Int32 → Int32 → Int32 → SS → Option SS) (hbk8 : ∀ (x1 : Int32) (x2 : Int32) (x3 : Int32) (x4 : Int32) (q : SS), bk8 x1 x2 x3 x4 q = some q2 → J [(0, .ref (ad 2)), (1, .int x1), (2, .int x2), (3, .int x3), (4, .int x4)] [] q 8) (x1 : Int32) (x2 : Int32) (x3 : Int32) (x4 : Int32) (q : SS) (h : f3_weigh_b72 N bk8 x1 x2 x3 x4 q = some q2) : J [(0, .ref (ad 2)), (1, .int x1), (2, .int x2), (3, .int x3), (4, .int x4)] [] q 72 := by
  unfold f3_weigh_b72 at h
  obtain ⟨x4_72, hx, h⟩ := bn_some h
  refine r_iinc hR (i := 4) (lv' := [(4, .int x4_72), (0, .ref (ad 2)), (1, .int x1), (2, .int x2), (3, .int x3)]) dX3_weigh_72 4 rfl (inc_ok hx kc_iconst_1) (by decide) rfl ?_
  refine r_goto hR (tgt := 8) dX3_weigh_75 (by decide) ?_
  exact r_sub hR [1, 2, 3, 4, 0] rfl (hbk8 _ _ _ _ _ h)
theorem t3_weigh_l8_B (hR : Rl wC 3 RX3 cX3_weigh 5 none ad J P) (N : Nat) {q2 : SS} (hP : P none q2) (bk8 : Int32 → Int32 → Int32 → Int32 → SS → Option SS) (hbk8 : ∀ (x1 : Int32) (x2 : Int32) (x3 : Int32) (x4 : Int32) (q : SS), bk8 x1 x2 x3 x4 q = some q2 → J [(0, .ref (ad 2)), (1, .int x1), (2, .int x2), (3, .int x3), (4, .int x4)] [] q 8) (x1 : Int32) (x2 : Int32) (x3 : Int32) (x4 : Int32) (q : SS) (h : f3_weigh_l8_B N bk8 x1 x2 x3 x4 q = some q2) : J [(0, .ref (ad 2)), (1, .int x1), (2, .int x2), (3, .int x3), (4, .int x4)] [] q 8 := by
  unfold f3_weigh_l8_B at h
  refine r_iload hR dX3_weigh_8 4 rfl ?_
  refine r_bipush hR dX3_weigh_10 kc_bipush_8 ?_
  refine r_icmp_ge hR (tgt := 78) dX3_weigh_12 (by decide) (fun c_12 => ?_) (fun c_12 => ?_)
  · replace h := it_t c_12 h
    exact r_vret hR dX3_weigh_78 rfl (rtv hP h)
  · replace h := it_f c_12 h
    refine r_aload_n hR dX3_weigh_15 rfl 0 rfl ?_
    refine g_X3_weight hR m_1_62 dX3_weigh_16 ?_
    refine r_iload_n hR dX3_weigh_19 rfl 3 rfl ?_
    refine r_iload hR dX3_weigh_20 4 rfl ?_
    refine r_iadd hR dX3_weigh_22 ?_
    refine r_iconst hR dX3_weigh_23 kc_iconst_0 ?_
    obtain ⟨hin, h⟩ := ck_some h
    obtain ⟨q_24, hq, h⟩ := bn_some h
    refine sv_X3_weight hR dX3_weigh_24 hin hq ?_
    refine r_iload hR dX3_weigh_25 4 rfl ?_
    refine r_aload_n hR dX3_weigh_27 rfl 0 rfl ?_
    refine g_X3_shelf hR m_1_60 dX3_weigh_28 ?_
    refine r_iload_n hR dX3_weigh_31 rfl 1 rfl ?_
    obtain ⟨r_32, hc, h⟩ := bd_some h
    refine r_callVi hR (c7_rowsOf hc) (cf_X3_64 (by decide)) ⟨m_2_13, m_2_14⟩ (As := [.int x1]) (q0 := 1) (ci := 5) rfl rfl rfl rfl (rc_X7 ad _) (Nat.le_of_ble_eq_true rfl) rfl dX3_weigh_32 ?_
    refine r_icmp_ge hR (tgt := 72) dX3_weigh_35 (by decide) (fun c_35 => ?_) (fun c_35 => ?_)
    · replace h := it_t c_35 h
      exact r_sub hR [0, 1, 2, 3, 4] rfl (t3_weigh_b72 hR N hP bk8 hbk8 _ _ _ _ _ h)
    · replace h := it_f c_35 h
      refine r_aload_n hR dX3_weigh_38 rfl 0 rfl ?_
      refine g_X3_allowed hR m_1_61 dX3_weigh_39 ?_
      refine r_iload_n hR dX3_weigh_42 rfl 1 rfl ?_
      obtain ⟨hin, h⟩ := ck_some h
      refine ld_X3_allowed hR dX3_weigh_43 hin ?_
      refine r_iload hR dX3_weigh_44 4 rfl ?_
      refine r_ishr hR dX3_weigh_46 ?_
      refine r_iconst hR dX3_weigh_47 kc_iconst_1 ?_
      refine r_iand hR dX3_weigh_48 ?_
      refine r_iconst hR dX3_weigh_49 kc_iconst_1 ?_
      refine r_icmp_ne hR (tgt := 72) dX3_weigh_50 (by decide) (fun c_50 => ?_) (fun c_50 => ?_)
      · replace h := it_f c_50 h
        exact r_sub hR [0, 1, 2, 3, 4] rfl (t3_weigh_b72 hR N hP bk8 hbk8 _ _ _ _ _ h)
      · replace h := it_t c_50 h
        refine r_aload_n hR dX3_weigh_53 rfl 0 rfl ?_
        refine g_X3_weight hR m_1_62 dX3_weigh_54 ?_
        refine r_iload_n hR dX3_weigh_57 rfl 3 rfl ?_
        refine r_aload_n hR dX3_weigh_58 rfl 0 rfl ?_
        refine r_iload_n hR dX3_weigh_59 rfl 1 rfl ?_
        refine r_iload hR dX3_weigh_60 4 rfl ?_
        refine r_iload_n hR dX3_weigh_62 rfl 2 rfl ?_
        obtain ⟨r_63, hc, h⟩ := bd_some h
        refine r_callVi hR (c3_firstLike N hc) (cf_X3_117 (by decide)) ⟨m_2_184, ms_1_7⟩ (As := [.int x1, .int x4, .int x2]) (q0 := 2) (ci := 3) rfl rfl rfl rfl (rc_X3 ad _) (Nat.le_of_ble_eq_true rfl) rfl dX3_weigh_63 ?_
        refine r_iadd hR dX3_weigh_66 ?_
        refine r_dup2 hR dX3_weigh_67 rfl rfl ?_
        obtain ⟨hin, h⟩ := ck_some h
        refine ld_X3_weight hR dX3_weigh_68 hin ?_
        refine r_iconst hR dX3_weigh_69 kc_iconst_1 ?_
        refine r_iadd hR dX3_weigh_70 ?_
        obtain ⟨hin, h⟩ := ck_some h
        obtain ⟨q_71, hq, h⟩ := bn_some h
        refine sv_X3_weight hR dX3_weigh_71 hin hq ?_
        exact r_sub hR [0, 1, 2, 3, 4] rfl (t3_weigh_b72 hR N hP bk8 hbk8 _ _ _ _ _ h)
theorem t3_weigh_l8 (hR : Rl wC 3 RX3 cX3_weigh 5 none ad J P) (N : Nat) {q2 : SS} (hP : P none q2) : ∀ (n : Nat) (x1 : Int32) (x2 : Int32) (x3 : Int32) (x4 : Int32) (q : SS), f3_weigh_l8 N n x1 x2 x3 x4 q = some q2 → J [(0, .ref (ad 2)), (1, .int x1), (2, .int x2), (3, .int x3), (4, .int x4)] [] q 8 := by
  intro n
  induction n with
  | zero => intro x1 x2 x3 x4 q h; exact mu_noneF h
  | succ n ih => intro x1 x2 x3 x4 q h; exact t3_weigh_l8_B hR N hP _ ih x1 x2 x3 x4 q h
theorem t3_weigh (hR : Rl wC 3 RX3 cX3_weigh 5 none ad J P) (N : Nat) {q2 : SS} (hP : P none q2) (x1 : Int32) (x2 : Int32) (q : SS) (h : f3_weigh N x1 x2 q = some q2) : J [(0, .ref (ad 2)), (1, .int x1), (2, .int x2)] [] q 0 := by
  unfold f3_weigh at h
  refine r_iload_n hR dX3_weigh_0 rfl 1 rfl ?_
  refine r_bipush hR dX3_weigh_1 kc_bipush_8 ?_
  refine r_imul hR dX3_weigh_3 ?_
  obtain ⟨x3_4, hx, h⟩ := bn_some h
  refine r_istore_n hR (i := 3) (lv' := [(3, .int x3_4), (0, .ref (ad 2)), (1, .int x1), (2, .int x2)]) dX3_weigh_4 hx rfl (by decide) rfl ?_
  refine r_iconst hR dX3_weigh_5 kc_iconst_0 ?_
  refine r_istore hR (i := 4) (lv' := [(4, .int (0 : Int32)), (3, .int x3_4), (0, .ref (ad 2)), (1, .int x1), (2, .int x2)]) dX3_weigh_6 rfl (by decide) rfl ?_
  exact r_sub hR [2, 3, 4, 1, 0] rfl (t3_weigh_l8 hR N hP N _ _ _ _ _ h)
theorem c3_weigh (N : Nat) {x1 : Int32} {x2 : Int32} {q : SS} {q2 : SS} (h : f3_weigh N x1 x2 q = some q2) : Ct wC 3 yX3_weigh cX3_weigh 5 none (fun ad => [.ref (ad 2), .int x1, .int x2]) q (fun _ => none) q2 :=
  ct_of (by decide) (fun _ => Nat.le_of_ble_eq_true rfl) (fun ad J hR => t3_weigh hR N ⟨rfl, rfl⟩ x1 x2 q h)
theorem t4_maskOf_b28 (hR : Rl wC 1 RX4 cX4_maskOf 3 (some .int) ad J P) (N : Nat) {q : SS} {r : Int32} (hP : P (some (.int r)) q) (bk4 : Int32 → Int32 → Int32 → Option Int32) (hbk4 : ∀ (x0 : Int32) (x1 : Int32) (x2 : Int32), bk4 x0 x1 x2 = some r → J [(0, .int x0), (1, .int x1), (2, .int x2)] [] q 4) (x0 : Int32) (x1 : Int32) (x2 : Int32) (h : f4_maskOf_b28 N bk4 x0 x1 x2 = some r) : J [(0, .int x0), (1, .int x1), (2, .int x2)] [] q 28 := by
  unfold f4_maskOf_b28 at h
  obtain ⟨x2_28, hx, h⟩ := bn_some h
  refine r_iinc hR (i := 2) (lv' := [(2, .int x2_28), (0, .int x0), (1, .int x1)]) dX4_maskOf_28 2 rfl (inc_ok hx kc_iconst_1) (by decide) rfl ?_
  refine r_goto hR (tgt := 4) dX4_maskOf_31 (by decide) ?_
  exact r_sub hR [1, 2, 0] rfl (hbk4 _ _ _ h)
theorem t4_maskOf_l4_B (hR : Rl wC 1 RX4 cX4_maskOf 3 (some .int) ad J P) (N : Nat) {q : SS} {r : Int32} (hP : P (some (.int r)) q) (bk4 : Int32 → Int32 → Int32 → Option Int32) (hbk4 : ∀ (x0 : Int32) (x1 : Int32) (x2 : Int32), bk4 x0 x1 x2 = some r → J [(0, .int x0), (1, .int x1), (2, .int x2)] [] q 4) (x0 : Int32) (x1 : Int32) (x2 : Int32) (h : f4_maskOf_l4_B N bk4 x0 x1 x2 = some r) : J [(0, .int x0), (1, .int x1), (2, .int x2)] [] q 4 := by
  unfold f4_maskOf_l4_B at h
  refine r_iload_n hR dX4_maskOf_4 rfl 2 rfl ?_
  refine r_bipush hR dX4_maskOf_5 kc_bipush_8 ?_
  refine r_icmp_ge hR (tgt := 34) dX4_maskOf_7 (by decide) (fun c_7 => ?_) (fun c_7 => ?_)
  · replace h := it_t c_7 h
    refine r_iload_n hR dX4_maskOf_34 rfl 1 rfl ?_
    exact r_iret hR dX4_maskOf_35 rfl (rt1 hP h)
  · replace h := it_f c_7 h
    refine r_iload_n hR dX4_maskOf_10 rfl 0 rfl ?_
    refine r_iload_n hR dX4_maskOf_11 rfl 2 rfl ?_
    refine r_ishr hR dX4_maskOf_12 ?_
    refine r_iconst hR dX4_maskOf_13 kc_iconst_1 ?_
    refine r_iand hR dX4_maskOf_14 ?_
    refine r_iconst hR dX4_maskOf_15 kc_iconst_1 ?_
    refine r_icmp_ne hR (tgt := 28) dX4_maskOf_16 (by decide) (fun c_16 => ?_) (fun c_16 => ?_)
    · replace h := it_f c_16 h
      exact r_sub hR [0, 1, 2] rfl (t4_maskOf_b28 hR N hP bk4 hbk4 _ _ _ h)
    · replace h := it_t c_16 h
      refine r_iload_n hR dX4_maskOf_19 rfl 1 rfl ?_
      refine r_bipush hR dX4_maskOf_20 kc_bipush_15 ?_
      refine r_iconst hR dX4_maskOf_22 kc_iconst_4 ?_
      refine r_iload_n hR dX4_maskOf_23 rfl 2 rfl ?_
      refine r_imul hR dX4_maskOf_24 ?_
      refine r_ishl hR dX4_maskOf_25 ?_
      refine r_ior hR dX4_maskOf_26 ?_
      obtain ⟨x1_27, hx, h⟩ := bn_some h
      refine r_istore_n hR (i := 1) (lv' := [(1, .int x1_27), (0, .int x0), (2, .int x2)]) dX4_maskOf_27 hx rfl (by decide) rfl ?_
      exact r_sub hR [1, 0, 2] rfl (t4_maskOf_b28 hR N hP bk4 hbk4 _ _ _ h)
theorem t4_maskOf_l4 (hR : Rl wC 1 RX4 cX4_maskOf 3 (some .int) ad J P) (N : Nat) {q : SS} {r : Int32} (hP : P (some (.int r)) q) : ∀ (n : Nat) (x0 : Int32) (x1 : Int32) (x2 : Int32), f4_maskOf_l4 N n x0 x1 x2 = some r → J [(0, .int x0), (1, .int x1), (2, .int x2)] [] q 4 := by
  intro n
  induction n with
  | zero => intro x0 x1 x2 h; exact mu_noneF h
  | succ n ih => intro x0 x1 x2 h; exact t4_maskOf_l4_B hR N hP _ ih x0 x1 x2 h
theorem t4_maskOf (hR : Rl wC 1 RX4 cX4_maskOf 3 (some .int) ad J P) (N : Nat) {q : SS} {r : Int32} (hP : P (some (.int r)) q) (x0 : Int32) (h : f4_maskOf N x0 = some r) : J [(0, .int x0)] [] q 0 := by
  unfold f4_maskOf at h
  refine r_iconst hR dX4_maskOf_0 kc_iconst_0 ?_
  refine r_istore_n hR (i := 1) (lv' := [(1, .int (0 : Int32)), (0, .int x0)]) dX4_maskOf_1 rfl rfl (by decide) rfl ?_
  refine r_iconst hR dX4_maskOf_2 kc_iconst_0 ?_
  refine r_istore_n hR (i := 2) (lv' := [(2, .int (0 : Int32)), (1, .int (0 : Int32)), (0, .int x0)]) dX4_maskOf_3 rfl rfl (by decide) rfl ?_
  exact r_sub hR [2, 1, 0] rfl (t4_maskOf_l4 hR N hP N _ _ _ h)
theorem c4_maskOf (N : Nat) {x0 : Int32} {q : SS} {r : Int32} (h : f4_maskOf N x0 = some r) : Ct wC 1 yX4_maskOf cX4_maskOf 3 (some .int) (fun ad => [.int x0]) q (fun _ => some (.int r)) q :=
  ct_of (by decide) (fun _ => Nat.le_of_ble_eq_true rfl) (fun ad J hR => t4_maskOf hR N ⟨rfl, rfl⟩ x0 h)
theorem t7_lettersOf (hR : Rl wC 1 RX7 cX7_lettersOf 2 (some .int) ad J P) (q : SS) {r : Int32} (hP : P (some (.int r)) q) (x1 : Int32) (h : f7_lettersOf q x1 = some r) : J [(0, .ref (ad 1)), (1, .int x1)] [] q 0 := by
  unfold f7_lettersOf at h
  refine r_iload_n hR dX7_lettersOf_0 rfl 1 rfl ?_
  refine r_if_lt hR (tgt := 21) dX7_lettersOf_1 (by decide) (fun c_1 => ?_) (fun c_1 => ?_)
  · replace h := it_t c_1 h
    refine r_iconst hR dX7_lettersOf_21 kc_iconst_0 ?_
    exact r_iret hR dX7_lettersOf_22 rfl (rt1 hP h)
  · replace h := it_f c_1 h
    refine r_iload_n hR dX7_lettersOf_4 rfl 1 rfl ?_
    refine r_aload_n hR dX7_lettersOf_5 rfl 0 rfl ?_
    refine g_X7_made hR m_1_33 dX7_lettersOf_6 ?_
    refine r_icmp_ge hR (tgt := 21) dX7_lettersOf_9 (by decide) (fun c_9 => ?_) (fun c_9 => ?_)
    · replace h := it_t c_9 h
      refine r_iconst hR dX7_lettersOf_21 kc_iconst_0 ?_
      exact r_iret hR dX7_lettersOf_22 rfl (rt1 hP h)
    · replace h := it_f c_9 h
      refine r_aload_n hR dX7_lettersOf_12 rfl 0 rfl ?_
      refine g_X7_letterBits hR m_1_28 dX7_lettersOf_13 ?_
      refine r_iload_n hR dX7_lettersOf_16 rfl 1 rfl ?_
      obtain ⟨hin, h⟩ := ck_some h
      refine ld_X7_letterBits hR dX7_lettersOf_17 hin ?_
      refine r_goto hR (tgt := 22) dX7_lettersOf_18 (by decide) ?_
      exact r_iret hR dX7_lettersOf_22 rfl (rt1 hP h)
theorem c7_lettersOf {x1 : Int32} {q : SS} {r : Int32} (h : f7_lettersOf q x1 = some r) : Ct wC 1 yX7_lettersOf cX7_lettersOf 2 (some .int) (fun ad => [.ref (ad 1), .int x1]) q (fun _ => some (.int r)) q :=
  ct_of (by decide) (fun _ => Nat.le_of_ble_eq_true rfl) (fun ad J hR => t7_lettersOf hR q ⟨rfl, rfl⟩ x1 h)
theorem t3_counted_b72 (hR : Rl wC 10 RX3 cX3_counted 5 (some .int) ad J P) (N : Nat) {r : Int32} {q2 : SS} (hP : P (some (.int r)) q2) (bk4 : Int32 → Int32 → Int32 → SS → Option (Int32 × SS)) (hbk4 : ∀ (x1 : Int32) (x2 : Int32) (x3 : Int32) (q : SS), bk4 x1 x2 x3 q = some (r, q2) → J [(0, .ref (ad 2)), (1, .int x1), (2, .int x2), (3, .int x3)] [] q 4) (x1 : Int32) (x2 : Int32) (x3 : Int32) (q : SS) (h : f3_counted_b72 N bk4 x1 x2 x3 q = some (r, q2)) : J [(0, .ref (ad 2)), (1, .int x1), (2, .int x2), (3, .int x3)] [] q 72 := by
  unfold f3_counted_b72 at h
  obtain ⟨x3_72, hx, h⟩ := bn_some h
  refine r_iinc hR (i := 3) (lv' := [(3, .int x3_72), (0, .ref (ad 2)), (1, .int x1), (2, .int x2)]) dX3_counted_72 3 rfl (inc_ok hx kc_iconst_1) (by decide) rfl ?_
  refine r_goto hR (tgt := 4) dX3_counted_75 (by decide) ?_
  exact r_sub hR [1, 2, 3, 0] rfl (hbk4 _ _ _ _ h)
theorem t3_counted_l4_B (hR : Rl wC 10 RX3 cX3_counted 5 (some .int) ad J P) (N : Nat) {r : Int32} {q2 : SS} (hP : P (some (.int r)) q2) (bk4 : Int32 → Int32 → Int32 → SS → Option (Int32 × SS)) (hbk4 : ∀ (x1 : Int32) (x2 : Int32) (x3 : Int32) (q : SS), bk4 x1 x2 x3 q = some (r, q2) → J [(0, .ref (ad 2)), (1, .int x1), (2, .int x2), (3, .int x3)] [] q 4) (x1 : Int32) (x2 : Int32) (x3 : Int32) (q : SS) (h : f3_counted_l4_B N bk4 x1 x2 x3 q = some (r, q2)) : J [(0, .ref (ad 2)), (1, .int x1), (2, .int x2), (3, .int x3)] [] q 4 := by
  unfold f3_counted_l4_B at h
  refine r_iload_n hR dX3_counted_4 rfl 3 rfl ?_
  refine r_bipush hR dX3_counted_5 kc_bipush_6 ?_
  refine r_icmp_ge hR (tgt := 78) dX3_counted_7 (by decide) (fun c_7 => ?_) (fun c_7 => ?_)
  · replace h := it_t c_7 h
    refine r_aload_n hR dX3_counted_78 rfl 0 rfl ?_
    refine r_iload_n hR dX3_counted_79 rfl 1 rfl ?_
    refine r_iconst hR dX3_counted_80 kc_iconst_0 ?_
    refine r_iconst hR dX3_counted_81 kc_iconst_0 ?_
    obtain ⟨r_82, hc, h⟩ := bd_some h
    refine r_callVi hR (c3_countFrom N hc) (cf_X3_114 (by decide)) ⟨m_2_189, ms_1_8⟩ (As := [.int x1, .int (0 : Int32), .int (0 : Int32)]) (q0 := 2) (ci := 3) rfl rfl rfl rfl (rc_X3 ad _) (Nat.le_of_ble_eq_true rfl) rfl dX3_counted_82 ?_
    exact r_iret hR dX3_counted_85 rfl (rt2 hP h)
  · replace h := it_f c_7 h
    refine r_iload_n hR dX3_counted_10 rfl 1 rfl ?_
    refine r_iload_n hR dX3_counted_11 rfl 3 rfl ?_
    refine r_ishr hR dX3_counted_12 ?_
    refine r_iconst hR dX3_counted_13 kc_iconst_1 ?_
    refine r_iand hR dX3_counted_14 ?_
    refine r_iconst hR dX3_counted_15 kc_iconst_1 ?_
    refine r_icmp_ne hR (tgt := 72) dX3_counted_16 (by decide) (fun c_16 => ?_) (fun c_16 => ?_)
    · replace h := it_f c_16 h
      exact r_sub hR [0, 1, 2, 3] rfl (t3_counted_b72 hR N hP bk4 hbk4 _ _ _ _ h)
    · replace h := it_t c_16 h
      refine r_aload_n hR dX3_counted_19 rfl 0 rfl ?_
      refine g_X3_shelf hR m_1_60 dX3_counted_20 ?_
      refine r_iload_n hR dX3_counted_23 rfl 3 rfl ?_
      obtain ⟨r_24, hc, h⟩ := bd_some h
      refine r_callVi hR (c7_lettersOf hc) (cf_X3_101 (by decide)) ⟨m_2_6, m_2_7⟩ (As := [.int x3]) (q0 := 1) (ci := 5) rfl rfl rfl rfl (rc_X7 ad _) (Nat.le_of_ble_eq_true rfl) rfl dX3_counted_24 ?_
      refine r_istore hR (i := 4) (lv' := [(4, .int r_24), (0, .ref (ad 2)), (1, .int x1), (2, .int x2), (3, .int x3)]) dX3_counted_27 rfl (by decide) rfl ?_
      refine r_aload_n hR dX3_counted_29 rfl 1 rfl ?_
      refine g_X3_boundMask hR m_1_63 dX3_counted_30 ?_
      refine r_iload_n hR dX3_counted_33 rfl 4 rfl ?_
      refine r_iload hR dX3_counted_34 0 rfl ?_
      refine r_iload_n hR dX3_counted_36 rfl 3 rfl ?_
      refine r_iand hR dX3_counted_37 ?_
      obtain ⟨r_38, hc, h⟩ := bd_some h
      refine r_callSi hR (c4_maskOf N hc) (cf_X3_104 (by decide)) m_2_172 (As := [.int (r_24 &&& x2)]) rfl rfl (Nat.le_of_ble_eq_true rfl) rfl dX3_counted_38 ?_
      obtain ⟨hin, h⟩ := ck_some h
      obtain ⟨q_41, hq, h⟩ := bn_some h
      refine sv_X3_boundMask hR dX3_counted_41 hin hq ?_
      refine r_iload_n hR dX3_counted_42 rfl 3 rfl ?_
      refine r_iload hR dX3_counted_43 0 rfl ?_
      refine r_ior hR dX3_counted_45 ?_
      obtain ⟨x2_46, hx, h⟩ := bn_some h
      refine r_istore_n hR (i := 2) (lv' := [(2, .int x2_46), (4, .int r_24), (0, .ref (ad 2)), (1, .int x1), (3, .int x3)]) dX3_counted_46 hx rfl (by decide) rfl ?_
      refine r_aload_n hR dX3_counted_47 rfl 2 rfl ?_
      refine r_iload_n hR dX3_counted_48 rfl 4 rfl ?_
      refine r_iload hR dX3_counted_49 1 rfl ?_
      refine r_aload_n hR dX3_counted_51 rfl 2 rfl ?_
      refine g_X3_shelf hR m_1_60 dX3_counted_52 ?_
      refine r_iload_n hR dX3_counted_55 rfl 3 rfl ?_
      refine r_iconst hR dX3_counted_56 kc_iconst_1 ?_
      refine r_iload_n hR dX3_counted_57 rfl 4 rfl ?_
      refine r_ishl hR dX3_counted_58 ?_
      refine r_iconst hR dX3_counted_59 kc_iconst_m1 ?_
      refine r_ixor hR dX3_counted_60 ?_
      refine r_iand hR dX3_counted_61 ?_
      obtain ⟨r_62, hc, h⟩ := bd_some h
      refine r_callVi hR (c7_lettersOfSet N hc) (cf_X3_107 (by decide)) ⟨m_2_175, m_2_176⟩ (As := [.int (x1 &&& ((jshl (1 : Int32) x3) ^^^ (-1 : Int32)))]) (q0 := 1) (ci := 5) rfl rfl rfl rfl (rc_X7 ad _) (Nat.le_of_ble_eq_true rfl) rfl dX3_counted_62 ?_
      refine r_iand hR dX3_counted_65 ?_
      obtain ⟨r_66, hc, h⟩ := bd_some h
      refine r_callSi hR (c4_maskOf N hc) (cf_X3_104 (by decide)) m_2_172 (As := [.int (r_24 &&& r_62)]) rfl rfl (Nat.le_of_ble_eq_true rfl) rfl dX3_counted_66 ?_
      obtain ⟨q_69, hc, h⟩ := bd_some h
      refine r_callVv hR (c3_weigh N hc) (cf_X3_110 (by decide)) ⟨m_2_180, ms_1_6⟩ (As := [.int x3, .int r_66]) (q0 := 2) (ci := 3) rfl rfl rfl rfl (rc_X3 ad _) (Nat.le_of_ble_eq_true rfl) rfl dX3_counted_69 ?_
      exact r_sub hR [2, 3, 0, 4] rfl (t3_counted_b72 hR N hP bk4 hbk4 _ _ _ _ h)
theorem t3_counted_l4 (hR : Rl wC 10 RX3 cX3_counted 5 (some .int) ad J P) (N : Nat) {r : Int32} {q2 : SS} (hP : P (some (.int r)) q2) : ∀ (n : Nat) (x1 : Int32) (x2 : Int32) (x3 : Int32) (q : SS), f3_counted_l4 N n x1 x2 x3 q = some (r, q2) → J [(0, .ref (ad 2)), (1, .int x1), (2, .int x2), (3, .int x3)] [] q 4 := by
  intro n
  induction n with
  | zero => intro x1 x2 x3 q h; exact mu_noneF h
  | succ n ih => intro x1 x2 x3 q h; exact t3_counted_l4_B hR N hP _ ih x1 x2 x3 q h
theorem t3_counted (hR : Rl wC 10 RX3 cX3_counted 5 (some .int) ad J P) (N : Nat) {r : Int32} {q2 : SS} (hP : P (some (.int r)) q2) (x1 : Int32) (q : SS) (h : f3_counted N x1 q = some (r, q2)) : J [(0, .ref (ad 2)), (1, .int x1)] [] q 0 := by
  unfold f3_counted at h
  refine r_iconst hR dX3_counted_0 kc_iconst_0 ?_
  refine r_istore_n hR (i := 2) (lv' := [(2, .int (0 : Int32)), (0, .ref (ad 2)), (1, .int x1)]) dX3_counted_1 rfl rfl (by decide) rfl ?_
  refine r_iconst hR dX3_counted_2 kc_iconst_0 ?_
  refine r_istore_n hR (i := 3) (lv' := [(3, .int (0 : Int32)), (2, .int (0 : Int32)), (0, .ref (ad 2)), (1, .int x1)]) dX3_counted_3 rfl rfl (by decide) rfl ?_
  exact r_sub hR [2, 3, 1, 0] rfl (t3_counted_l4 hR N hP N _ _ _ _ h)
theorem c3_counted (N : Nat) {x1 : Int32} {q : SS} {r : Int32} {q2 : SS} (h : f3_counted N x1 q = some (r, q2)) : Ct wC 10 yX3_counted cX3_counted 5 (some .int) (fun ad => [.ref (ad 2), .int x1]) q (fun _ => some (.int r)) q2 :=
  ct_of (by decide) (fun _ => Nat.le_of_ble_eq_true rfl) (fun ad J hR => t3_counted hR N ⟨rfl, rfl⟩ x1 q h)
theorem t7_unlikeNumbers_l5_B (hR : Rl wC 2 RX7 cX7_unlikeNumbers 5 (some .int) ad J P) (N : Nat) (q : SS) {r : Int32} (hP : P (some (.int r)) q) (bk5 : Int32 → Int32 → Int32 → Int32 → Option Int32) (hbk5 : ∀ (x1 : Int32) (x2 : Int32) (x3 : Int32) (x4 : Int32), bk5 x1 x2 x3 x4 = some r → J [(0, .ref (ad 1)), (1, .int x1), (2, .int x2), (3, .int x3), (4, .int x4)] [] q 5) (x1 : Int32) (x2 : Int32) (x3 : Int32) (x4 : Int32) (h : f7_unlikeNumbers_l5_B N q bk5 x1 x2 x3 x4 = some r) : J [(0, .ref (ad 1)), (1, .int x1), (2, .int x2), (3, .int x3), (4, .int x4)] [] q 5 := by
  unfold f7_unlikeNumbers_l5_B at h
  refine r_iload hR dX7_unlikeNumbers_5 4 rfl ?_
  refine r_aload_n hR dX7_unlikeNumbers_7 rfl 0 rfl ?_
  refine r_iload_n hR dX7_unlikeNumbers_8 rfl 1 rfl ?_
  obtain ⟨r_9, hc, h⟩ := bd_some h
  refine r_callVi hR (c7_rowsOf hc) (cf_X7_37 (by decide)) ⟨m_2_13, m_2_14⟩ (As := [.int x1]) (q0 := 1) (ci := 5) rfl rfl rfl rfl (rc_X7 ad _) (Nat.le_of_ble_eq_true rfl) rfl dX7_unlikeNumbers_9 ?_
  refine r_icmp_ge hR (tgt := 37) dX7_unlikeNumbers_12 (by decide) (fun c_12 => ?_) (fun c_12 => ?_)
  · replace h := it_t c_12 h
    refine r_iload_n hR dX7_unlikeNumbers_37 rfl 3 rfl ?_
    obtain ⟨r_38, hc, h⟩ := bd_some h
    refine r_callSi hR (cJ6_bitCount hc) (cf_X7_92 (by decide)) m_1_228 (As := [.int x3]) rfl rfl (Nat.le_of_ble_eq_true rfl) rfl dX7_unlikeNumbers_38 ?_
    exact r_iret hR dX7_unlikeNumbers_41 rfl (rt1 hP h)
  · replace h := it_f c_12 h
    refine r_iload_n hR dX7_unlikeNumbers_15 rfl 3 rfl ?_
    refine r_iconst hR dX7_unlikeNumbers_16 kc_iconst_1 ?_
    refine r_aload_n hR dX7_unlikeNumbers_17 rfl 0 rfl ?_
    refine r_iload_n hR dX7_unlikeNumbers_18 rfl 1 rfl ?_
    refine r_iload hR dX7_unlikeNumbers_19 4 rfl ?_
    obtain ⟨r_21, hc, h⟩ := bd_some h
    refine r_callVi hR (c7_codeAt hc) (cf_X7_81 (by decide)) ⟨m_2_72, m_2_73⟩ (As := [.int x1, .int x4]) (q0 := 1) (ci := 5) rfl rfl rfl rfl (rc_X7 ad _) (Nat.le_of_ble_eq_true rfl) rfl dX7_unlikeNumbers_21 ?_
    refine r_iload_n hR dX7_unlikeNumbers_24 rfl 2 rfl ?_
    obtain ⟨r_25, hc, h⟩ := bd_some h
    refine r_callSi hR (c4_numberIn hc) (cf_X7_84 (by decide)) m_2_76 (As := [.int r_21, .int x2]) rfl rfl (Nat.le_of_ble_eq_true rfl) rfl dX7_unlikeNumbers_25 ?_
    refine r_ishl hR dX7_unlikeNumbers_28 ?_
    refine r_ior hR dX7_unlikeNumbers_29 ?_
    obtain ⟨x3_30, hx, h⟩ := bn_some h
    refine r_istore_n hR (i := 3) (lv' := [(3, .int x3_30), (0, .ref (ad 1)), (1, .int x1), (2, .int x2), (4, .int x4)]) dX7_unlikeNumbers_30 hx rfl (by decide) rfl ?_
    obtain ⟨x4_31, hx, h⟩ := bn_some h
    refine r_iinc hR (i := 4) (lv' := [(4, .int x4_31), (3, .int x3_30), (0, .ref (ad 1)), (1, .int x1), (2, .int x2)]) dX7_unlikeNumbers_31 4 rfl (inc_ok hx kc_iconst_1) (by decide) rfl ?_
    refine r_goto hR (tgt := 5) dX7_unlikeNumbers_34 (by decide) ?_
    exact r_sub hR [2, 3, 4, 1, 0] rfl (hbk5 _ _ _ _ h)
theorem t7_unlikeNumbers_l5 (hR : Rl wC 2 RX7 cX7_unlikeNumbers 5 (some .int) ad J P) (N : Nat) (q : SS) {r : Int32} (hP : P (some (.int r)) q) : ∀ (n : Nat) (x1 : Int32) (x2 : Int32) (x3 : Int32) (x4 : Int32), f7_unlikeNumbers_l5 N q n x1 x2 x3 x4 = some r → J [(0, .ref (ad 1)), (1, .int x1), (2, .int x2), (3, .int x3), (4, .int x4)] [] q 5 := by
  intro n
  induction n with
  | zero => intro x1 x2 x3 x4 h; exact mu_noneF h
  | succ n ih => intro x1 x2 x3 x4 h; exact t7_unlikeNumbers_l5_B hR N q hP _ ih x1 x2 x3 x4 h
theorem t7_unlikeNumbers (hR : Rl wC 2 RX7 cX7_unlikeNumbers 5 (some .int) ad J P) (N : Nat) (q : SS) {r : Int32} (hP : P (some (.int r)) q) (x1 : Int32) (x2 : Int32) (h : f7_unlikeNumbers N q x1 x2 = some r) : J [(0, .ref (ad 1)), (1, .int x1), (2, .int x2)] [] q 0 := by
  unfold f7_unlikeNumbers at h
  refine r_iconst hR dX7_unlikeNumbers_0 kc_iconst_0 ?_
  refine r_istore_n hR (i := 3) (lv' := [(3, .int (0 : Int32)), (0, .ref (ad 1)), (1, .int x1), (2, .int x2)]) dX7_unlikeNumbers_1 rfl rfl (by decide) rfl ?_
  refine r_iconst hR dX7_unlikeNumbers_2 kc_iconst_0 ?_
  refine r_istore hR (i := 4) (lv' := [(4, .int (0 : Int32)), (3, .int (0 : Int32)), (0, .ref (ad 1)), (1, .int x1), (2, .int x2)]) dX7_unlikeNumbers_3 rfl (by decide) rfl ?_
  exact r_sub hR [2, 3, 4, 1, 0] rfl (t7_unlikeNumbers_l5 hR N q hP N _ _ _ _ h)
theorem c7_unlikeNumbers (N : Nat) {x1 : Int32} {x2 : Int32} {q : SS} {r : Int32} (h : f7_unlikeNumbers N q x1 x2 = some r) : Ct wC 2 yX7_unlikeNumbers cX7_unlikeNumbers 5 (some .int) (fun ad => [.ref (ad 1), .int x1, .int x2]) q (fun _ => some (.int r)) q :=
  ct_of (by decide) (fun _ => Nat.le_of_ble_eq_true rfl) (fun ad J hR => t7_unlikeNumbers hR N q ⟨rfl, rfl⟩ x1 x2 h)
theorem t3_unlikeButLeast_b75 (hR : Rl wC 3 RX3 cX3_unlikeButLeast 8 (some .long) ad J P) (N : Nat) (q : SS) {r : Int64} (hP : P (some (.long r)) q) (bk8 : Int32 → Int32 → Int64 → Int32 → Int32 → Option Int64) (hbk8 : ∀ (x1 : Int32) (x2 : Int32) (x3 : Int64) (x5 : Int32) (x6 : Int32), bk8 x1 x2 x3 x5 x6 = some r → J [(0, .ref (ad 2)), (1, .int x1), (2, .int x2), (3, .long x3), (5, .int x5), (6, .int x6)] [] q 8) (x1 : Int32) (x2 : Int32) (x3 : Int64) (x5 : Int32) (x6 : Int32) (h : f3_unlikeButLeast_b75 N q bk8 x1 x2 x3 x5 x6 = some r) : J [(0, .ref (ad 2)), (1, .int x1), (2, .int x2), (3, .long x3), (5, .int x5), (6, .int x6)] [] q 75 := by
  unfold f3_unlikeButLeast_b75 at h
  obtain ⟨x6_75, hx, h⟩ := bn_some h
  refine r_iinc hR (i := 6) (lv' := [(6, .int x6_75), (0, .ref (ad 2)), (1, .int x1), (2, .int x2), (3, .long x3), (5, .int x5)]) dX3_unlikeButLeast_75 5 rfl (inc_ok hx kc_iconst_1) (by decide) rfl ?_
  refine r_goto hR (tgt := 8) dX3_unlikeButLeast_78 (by decide) ?_
  exact r_sub hR [1, 2, 3, 4, 5, 0] rfl (hbk8 _ _ _ _ _ h)
theorem t3_unlikeButLeast_b73 (hR : Rl wC 3 RX3 cX3_unlikeButLeast 8 (some .long) ad J P) (N : Nat) (q : SS) {r : Int64} (hP : P (some (.long r)) q) (bk8 : Int32 → Int32 → Int64 → Int32 → Int32 → Option Int64) (hbk8 : ∀ (x1 : Int32) (x2 : Int32) (x3 : Int64) (x5 : Int32) (x6 : Int32), bk8 x1 x2 x3 x5 x6 = some r → J [(0, .ref (ad 2)), (1, .int x1), (2, .int x2), (3, .long x3), (5, .int x5), (6, .int x6)] [] q 8) (x1 : Int32) (x2 : Int32) (x3 : Int64) (x6 : Int32) (s0 : Int32) (h : f3_unlikeButLeast_b73 N q bk8 x1 x2 x3 x6 s0 = some r) : J [(0, .ref (ad 2)), (1, .int x1), (2, .int x2), (3, .long x3), (6, .int x6)] [.int s0] q 73 := by
  unfold f3_unlikeButLeast_b73 at h
  refine r_istore hR (i := 5) (lv' := [(5, .int s0), (0, .ref (ad 2)), (1, .int x1), (2, .int x2), (3, .long x3), (6, .int x6)]) dX3_unlikeButLeast_73 rfl (by decide) rfl ?_
  exact r_sub hR [1, 2, 3, 4, 0, 5] rfl (t3_unlikeButLeast_b75 hR N q hP bk8 hbk8 _ _ _ _ _ h)
theorem t3_unlikeButLeast_l8_B (hR : Rl wC 3 RX3 cX3_unlikeButLeast 8 (some .long) ad J P) (N : Nat) (q : SS) {r : Int64} (hP : P (some (.long r)) q) (bk8 : Int32 → Int32 → Int64 → Int32 → Int32 → Option Int64) (hbk8 : ∀ (x1 : Int32) (x2 : Int32) (x3 : Int64) (x5 : Int32) (x6 : Int32), bk8 x1 x2 x3 x5 x6 = some r → J [(0, .ref (ad 2)), (1, .int x1), (2, .int x2), (3, .long x3), (5, .int x5), (6, .int x6)] [] q 8) (x1 : Int32) (x2 : Int32) (x3 : Int64) (x5 : Int32) (x6 : Int32) (h : f3_unlikeButLeast_l8_B N q bk8 x1 x2 x3 x5 x6 = some r) : J [(0, .ref (ad 2)), (1, .int x1), (2, .int x2), (3, .long x3), (5, .int x5), (6, .int x6)] [] q 8 := by
  unfold f3_unlikeButLeast_l8_B at h
  refine r_iload hR dX3_unlikeButLeast_8 5 rfl ?_
  refine r_bipush hR dX3_unlikeButLeast_10 kc_bipush_6 ?_
  refine r_icmp_ge hR (tgt := 81) dX3_unlikeButLeast_12 (by decide) (fun c_12 => ?_) (fun c_12 => ?_)
  · replace h := it_t c_12 h
    refine r_iload hR dX3_unlikeButLeast_81 4 rfl ?_
    refine r_iconst hR dX3_unlikeButLeast_83 kc_iconst_1 ?_
    refine r_icmp_ge hR (tgt := 91) dX3_unlikeButLeast_84 (by decide) (fun c_84 => ?_) (fun c_84 => ?_)
    · replace h := it_t c_84 h
      refine r_lload_n hR dX3_unlikeButLeast_91 rfl 3 rfl ?_
      refine r_iload hR dX3_unlikeButLeast_92 4 rfl ?_
      refine r_i2l hR dX3_unlikeButLeast_94 ?_
      obtain ⟨hnz, h⟩ := dzl_some h
      refine r_ldiv hR dX3_unlikeButLeast_95 hnz ?_
      exact r_lret hR dX3_unlikeButLeast_96 rfl (rt1l hP h)
    · replace h := it_f c_84 h
      refine r_lconst hR dX3_unlikeButLeast_87 kc_lconst_1 ?_
      refine r_goto hR (tgt := 96) dX3_unlikeButLeast_88 (by decide) ?_
      exact r_lret hR dX3_unlikeButLeast_96 rfl (rt1l hP h)
  · replace h := it_f c_12 h
    refine r_iload_n hR dX3_unlikeButLeast_15 rfl 1 rfl ?_
    refine r_iload hR dX3_unlikeButLeast_16 5 rfl ?_
    refine r_ishr hR dX3_unlikeButLeast_18 ?_
    refine r_iconst hR dX3_unlikeButLeast_19 kc_iconst_1 ?_
    refine r_iand hR dX3_unlikeButLeast_20 ?_
    refine r_iconst hR dX3_unlikeButLeast_21 kc_iconst_1 ?_
    refine r_icmp_ne hR (tgt := 75) dX3_unlikeButLeast_22 (by decide) (fun c_22 => ?_) (fun c_22 => ?_)
    · replace h := it_f c_22 h
      exact r_sub hR [0, 1, 2, 3, 4, 5] rfl (t3_unlikeButLeast_b75 hR N q hP bk8 hbk8 _ _ _ _ _ h)
    · replace h := it_t c_22 h
      refine r_aload_n hR dX3_unlikeButLeast_25 rfl 0 rfl ?_
      refine g_X3_shelf hR m_1_60 dX3_unlikeButLeast_26 ?_
      refine r_iload hR dX3_unlikeButLeast_29 5 rfl ?_
      refine r_iload_n hR dX3_unlikeButLeast_31 rfl 2 rfl ?_
      obtain ⟨r_32, hc, h⟩ := bd_some h
      refine r_callVi hR (c7_hasLetter hc) (cf_X3_71 (by decide)) ⟨m_2_37, m_2_38⟩ (As := [.int x6, .int x2]) (q0 := 1) (ci := 5) rfl rfl rfl rfl (rc_X7 ad _) (Nat.le_of_ble_eq_true rfl) rfl dX3_unlikeButLeast_32 ?_
      refine r_if_eq hR (tgt := 75) dX3_unlikeButLeast_35 (by decide) (fun c_35 => ?_) (fun c_35 => ?_)
      · replace h := it_t c_35 h
        exact r_sub hR [0, 1, 2, 3, 4, 5] rfl (t3_unlikeButLeast_b75 hR N q hP bk8 hbk8 _ _ _ _ _ h)
      · replace h := it_f c_35 h
        refine r_aload_n hR dX3_unlikeButLeast_38 rfl 0 rfl ?_
        refine g_X3_shelf hR m_1_60 dX3_unlikeButLeast_39 ?_
        refine r_iload hR dX3_unlikeButLeast_42 5 rfl ?_
        refine r_iload_n hR dX3_unlikeButLeast_44 rfl 2 rfl ?_
        obtain ⟨r_45, hc, h⟩ := bd_some h
        refine r_callVi hR (c7_unlikeNumbers N hc) (cf_X3_75 (by decide)) ⟨m_2_116, m_2_117⟩ (As := [.int x6, .int x2]) (q0 := 1) (ci := 5) rfl rfl rfl rfl (rc_X7 ad _) (Nat.le_of_ble_eq_true rfl) rfl dX3_unlikeButLeast_45 ?_
        refine r_istore hR (i := 7) (lv' := [(7, .int r_45), (0, .ref (ad 2)), (1, .int x1), (2, .int x2), (3, .long x3), (5, .int x5), (6, .int x6)]) dX3_unlikeButLeast_48 rfl (by decide) rfl ?_
        refine r_lload_n hR dX3_unlikeButLeast_50 rfl 4 rfl ?_
        refine r_iload hR dX3_unlikeButLeast_51 0 rfl ?_
        refine r_i2l hR dX3_unlikeButLeast_53 ?_
        refine r_lmul hR dX3_unlikeButLeast_54 ?_
        obtain ⟨x3_55, hx, h⟩ := bn_some h
        refine r_lstore_n hR (i := 3) (lv' := [(3, .long x3_55), (7, .int r_45), (0, .ref (ad 2)), (1, .int x1), (2, .int x2), (5, .int x5), (6, .int x6)]) dX3_unlikeButLeast_55 hx rfl (by decide) rfl ?_
        refine r_iload hR dX3_unlikeButLeast_56 5 rfl ?_
        refine r_if_ne hR (tgt := 66) dX3_unlikeButLeast_58 (by decide) (fun c_58 => ?_) (fun c_58 => ?_)
        · replace h := it_f c_58 h
          refine r_iload hR dX3_unlikeButLeast_66 5 rfl ?_
          refine r_iload hR dX3_unlikeButLeast_68 1 rfl ?_
          refine r_mmin hR dX3_unlikeButLeast_70 m_2_158 m_2_34 m_1_11 m_2_35 (by decide) (Nat.le_of_ble_eq_true rfl) ?_
          exact r_sub hR [2, 3, 4, 0, 6] rfl (t3_unlikeButLeast_b73 hR N q hP bk8 hbk8 _ _ _ _ _ h)
        · replace h := it_t c_58 h
          refine r_iload hR dX3_unlikeButLeast_61 1 rfl ?_
          refine r_goto hR (tgt := 73) dX3_unlikeButLeast_63 (by decide) ?_
          exact r_sub hR [2, 3, 4, 0, 6] rfl (t3_unlikeButLeast_b73 hR N q hP bk8 hbk8 _ _ _ _ _ h)
theorem t3_unlikeButLeast_l8 (hR : Rl wC 3 RX3 cX3_unlikeButLeast 8 (some .long) ad J P) (N : Nat) (q : SS) {r : Int64} (hP : P (some (.long r)) q) : ∀ (n : Nat) (x1 : Int32) (x2 : Int32) (x3 : Int64) (x5 : Int32) (x6 : Int32), f3_unlikeButLeast_l8 N q n x1 x2 x3 x5 x6 = some r → J [(0, .ref (ad 2)), (1, .int x1), (2, .int x2), (3, .long x3), (5, .int x5), (6, .int x6)] [] q 8 := by
  intro n
  induction n with
  | zero => intro x1 x2 x3 x5 x6 h; exact mu_noneF h
  | succ n ih => intro x1 x2 x3 x5 x6 h; exact t3_unlikeButLeast_l8_B hR N q hP _ ih x1 x2 x3 x5 x6 h
theorem t3_unlikeButLeast (hR : Rl wC 3 RX3 cX3_unlikeButLeast 8 (some .long) ad J P) (N : Nat) (q : SS) {r : Int64} (hP : P (some (.long r)) q) (x1 : Int32) (x2 : Int32) (h : f3_unlikeButLeast N q x1 x2 = some r) : J [(0, .ref (ad 2)), (1, .int x1), (2, .int x2)] [] q 0 := by
  unfold f3_unlikeButLeast at h
  refine r_lconst hR dX3_unlikeButLeast_0 kc_lconst_1 ?_
  refine r_lstore_n hR (i := 3) (lv' := [(3, .long (1 : Int64)), (0, .ref (ad 2)), (1, .int x1), (2, .int x2)]) dX3_unlikeButLeast_1 rfl rfl (by decide) rfl ?_
  refine r_iconst hR dX3_unlikeButLeast_2 kc_iconst_0 ?_
  refine r_istore hR (i := 5) (lv' := [(5, .int (0 : Int32)), (3, .long (1 : Int64)), (0, .ref (ad 2)), (1, .int x1), (2, .int x2)]) dX3_unlikeButLeast_3 rfl (by decide) rfl ?_
  refine r_iconst hR dX3_unlikeButLeast_5 kc_iconst_0 ?_
  refine r_istore hR (i := 6) (lv' := [(6, .int (0 : Int32)), (5, .int (0 : Int32)), (3, .long (1 : Int64)), (0, .ref (ad 2)), (1, .int x1), (2, .int x2)]) dX3_unlikeButLeast_6 rfl (by decide) rfl ?_
  exact r_sub hR [3, 4, 5, 2, 1, 0] rfl (t3_unlikeButLeast_l8 hR N q hP N _ _ _ _ _ h)
theorem c3_unlikeButLeast (N : Nat) {x1 : Int32} {x2 : Int32} {q : SS} {r : Int64} (h : f3_unlikeButLeast N q x1 x2 = some r) : Ct wC 3 yX3_unlikeButLeast cX3_unlikeButLeast 8 (some .long) (fun ad => [.ref (ad 2), .int x1, .int x2]) q (fun _ => some (.long r)) q :=
  ct_of (by decide) (fun _ => Nat.le_of_ble_eq_true rfl) (fun ad J hR => t3_unlikeButLeast hR N q ⟨rfl, rfl⟩ x1 x2 h)
theorem t3_foretold_b85 (hR : Rl wC 4 RX3 cX3_foretold 7 (some .int) ad J P) (N : Nat) (q : SS) {r : Int32} (hP : P (some (.int r)) q) (h : f3_foretold_b85 N q = some r) : J [] [] q 85 := by
  unfold f3_foretold_b85 at h
  refine r_iconst hR dX3_foretold_85 kc_iconst_0 ?_
  refine r_goto hR (tgt := 94) dX3_foretold_86 (by decide) ?_
  exact r_iret hR dX3_foretold_94 rfl (rt1 hP h)
theorem t3_foretold_l47_B (hR : Rl wC 4 RX3 cX3_foretold 7 (some .int) ad J P) (N : Nat) (q : SS) {r : Int32} (hP : P (some (.int r)) q) (bk47 : Int32 → Int64 → Int64 → Int32 → Option Int32) (hbk47 : ∀ (x1 : Int32) (x2 : Int64) (x4 : Int64) (x6 : Int32), bk47 x1 x2 x4 x6 = some r → J [(0, .ref (ad 2)), (1, .int x1), (2, .long x2), (4, .long x4), (6, .int x6)] [] q 47) (x1 : Int32) (x2 : Int64) (x4 : Int64) (x6 : Int32) (h : f3_foretold_l47_B N q bk47 x1 x2 x4 x6 = some r) : J [(0, .ref (ad 2)), (1, .int x1), (2, .long x2), (4, .long x4), (6, .int x6)] [] q 47 := by
  unfold f3_foretold_l47_B at h
  refine r_iload hR dX3_foretold_47 4 rfl ?_
  refine r_bipush hR dX3_foretold_49 kc_bipush_8 ?_
  refine r_icmp_ge hR (tgt := 72) dX3_foretold_51 (by decide) (fun c_51 => ?_) (fun c_51 => ?_)
  · replace h := it_t c_51 h
    refine r_lload_n hR dX3_foretold_72 rfl 2 rfl ?_
    refine r_lconst hR dX3_foretold_73 kc_lconst_1 ?_
    refine r_lcmp hR dX3_foretold_74 ?_
    refine r_if_lt hR (tgt := 85) dX3_foretold_75 (by decide) (fun c_75 => ?_) (fun c_75 => ?_)
    · replace h := it_t ((lg_cmp_lt _ _).mp c_75) h
      exact r_sub hR [] rfl (t3_foretold_b85 hR N q hP h)
    · replace h := it_f (fun z => c_75 ((lg_cmp_lt _ _).mpr z)) h
      refine r_lload hR dX3_foretold_78 3 rfl ?_
      refine r_lconst hR dX3_foretold_80 kc_lconst_1 ?_
      refine r_lcmp hR dX3_foretold_81 ?_
      refine r_if_ge hR (tgt := 89) dX3_foretold_82 (by decide) (fun c_82 => ?_) (fun c_82 => ?_)
      · replace h := it_t ((lg_cmp_ge _ _).mp c_82) h
        refine r_lload_n hR dX3_foretold_89 rfl 2 rfl ?_
        refine r_lload hR dX3_foretold_90 3 rfl ?_
        obtain ⟨hnz, h⟩ := dzl_some h
        refine r_ldiv hR dX3_foretold_92 hnz ?_
        refine r_l2i hR dX3_foretold_93 ?_
        exact r_iret hR dX3_foretold_94 rfl (rt1 hP h)
      · replace h := it_f (fun z => c_82 ((lg_cmp_ge _ _).mpr z)) h
        exact r_sub hR [] rfl (t3_foretold_b85 hR N q hP h)
  · replace h := it_f c_51 h
    refine r_lload hR dX3_foretold_54 3 rfl ?_
    refine r_aload_n hR dX3_foretold_56 rfl 0 rfl ?_
    refine r_iload_n hR dX3_foretold_57 rfl 1 rfl ?_
    refine r_iload hR dX3_foretold_58 4 rfl ?_
    obtain ⟨r_60, hc, h⟩ := bd_some h
    refine r_callVl hR (c3_unlikeButLeast N hc) (cf_X3_67 (by decide)) ⟨m_2_154, ms_1_3⟩ (As := [.int x1, .int x6]) (q0 := 2) (ci := 3) rfl rfl rfl rfl (rc_X3 ad _) (Nat.le_of_ble_eq_true rfl) rfl dX3_foretold_60 ?_
    refine r_lmul hR dX3_foretold_63 ?_
    obtain ⟨x4_64, hx, h⟩ := bn_some h
    refine r_lstore hR (i := 4) (lv' := [(4, .long x4_64), (0, .ref (ad 2)), (1, .int x1), (2, .long x2), (6, .int x6)]) dX3_foretold_64 hx (by decide) rfl ?_
    obtain ⟨x6_66, hx, h⟩ := bn_some h
    refine r_iinc hR (i := 6) (lv' := [(6, .int x6_66), (4, .long x4_64), (0, .ref (ad 2)), (1, .int x1), (2, .long x2)]) dX3_foretold_66 4 rfl (inc_ok hx kc_iconst_1) (by decide) rfl ?_
    refine r_goto hR (tgt := 47) dX3_foretold_69 (by decide) ?_
    exact r_sub hR [2, 3, 4, 1, 0] rfl (hbk47 _ _ _ _ h)
theorem t3_foretold_l47 (hR : Rl wC 4 RX3 cX3_foretold 7 (some .int) ad J P) (N : Nat) (q : SS) {r : Int32} (hP : P (some (.int r)) q) : ∀ (n : Nat) (x1 : Int32) (x2 : Int64) (x4 : Int64) (x6 : Int32), f3_foretold_l47 N q n x1 x2 x4 x6 = some r → J [(0, .ref (ad 2)), (1, .int x1), (2, .long x2), (4, .long x4), (6, .int x6)] [] q 47 := by
  intro n
  induction n with
  | zero => intro x1 x2 x4 x6 h; exact mu_noneF h
  | succ n ih => intro x1 x2 x4 x6 h; exact t3_foretold_l47_B hR N q hP _ ih x1 x2 x4 x6 h
theorem t3_foretold_b35 (hR : Rl wC 4 RX3 cX3_foretold 7 (some .int) ad J P) (N : Nat) (q : SS) {r : Int32} (hP : P (some (.int r)) q) (bk5 : Int32 → Int64 → Int32 → Option Int32) (hbk5 : ∀ (x1 : Int32) (x2 : Int64) (x4 : Int32), bk5 x1 x2 x4 = some r → J [(0, .ref (ad 2)), (1, .int x1), (2, .long x2), (4, .int x4)] [] q 5) (x1 : Int32) (x2 : Int64) (x4 : Int32) (h : f3_foretold_b35 N q bk5 x1 x2 x4 = some r) : J [(0, .ref (ad 2)), (1, .int x1), (2, .long x2), (4, .int x4)] [] q 35 := by
  unfold f3_foretold_b35 at h
  obtain ⟨x4_35, hx, h⟩ := bn_some h
  refine r_iinc hR (i := 4) (lv' := [(4, .int x4_35), (0, .ref (ad 2)), (1, .int x1), (2, .long x2)]) dX3_foretold_35 3 rfl (inc_ok hx kc_iconst_1) (by decide) rfl ?_
  refine r_goto hR (tgt := 5) dX3_foretold_38 (by decide) ?_
  exact r_sub hR [1, 2, 3, 0] rfl (hbk5 _ _ _ h)
theorem t3_foretold_l5_B (hR : Rl wC 4 RX3 cX3_foretold 7 (some .int) ad J P) (N : Nat) (q : SS) {r : Int32} (hP : P (some (.int r)) q) (bk5 : Int32 → Int64 → Int32 → Option Int32) (hbk5 : ∀ (x1 : Int32) (x2 : Int64) (x4 : Int32), bk5 x1 x2 x4 = some r → J [(0, .ref (ad 2)), (1, .int x1), (2, .long x2), (4, .int x4)] [] q 5) (x1 : Int32) (x2 : Int64) (x4 : Int32) (h : f3_foretold_l5_B N q bk5 x1 x2 x4 = some r) : J [(0, .ref (ad 2)), (1, .int x1), (2, .long x2), (4, .int x4)] [] q 5 := by
  unfold f3_foretold_l5_B at h
  refine r_iload hR dX3_foretold_5 3 rfl ?_
  refine r_bipush hR dX3_foretold_7 kc_bipush_6 ?_
  refine r_icmp_ge hR (tgt := 41) dX3_foretold_9 (by decide) (fun c_9 => ?_) (fun c_9 => ?_)
  · replace h := it_t c_9 h
    refine r_lconst hR dX3_foretold_41 kc_lconst_1 ?_
    refine r_lstore hR (i := 4) (lv' := [(4, .long (1 : Int64)), (0, .ref (ad 2)), (1, .int x1), (2, .long x2)]) dX3_foretold_42 rfl (by decide) rfl ?_
    refine r_iconst hR dX3_foretold_44 kc_iconst_0 ?_
    refine r_istore hR (i := 6) (lv' := [(6, .int (0 : Int32)), (4, .long (1 : Int64)), (0, .ref (ad 2)), (1, .int x1), (2, .long x2)]) dX3_foretold_45 rfl (by decide) rfl ?_
    exact r_sub hR [2, 3, 4, 1, 0] rfl (t3_foretold_l47 hR N q hP N _ _ _ _ h)
  · replace h := it_f c_9 h
    refine r_iload_n hR dX3_foretold_12 rfl 1 rfl ?_
    refine r_iload hR dX3_foretold_13 3 rfl ?_
    refine r_ishr hR dX3_foretold_15 ?_
    refine r_iconst hR dX3_foretold_16 kc_iconst_1 ?_
    refine r_iand hR dX3_foretold_17 ?_
    refine r_iconst hR dX3_foretold_18 kc_iconst_1 ?_
    refine r_icmp_ne hR (tgt := 35) dX3_foretold_19 (by decide) (fun c_19 => ?_) (fun c_19 => ?_)
    · replace h := it_f c_19 h
      exact r_sub hR [0, 1, 2, 3] rfl (t3_foretold_b35 hR N q hP bk5 hbk5 _ _ _ h)
    · replace h := it_t c_19 h
      refine r_lload_n hR dX3_foretold_22 rfl 2 rfl ?_
      refine r_aload_n hR dX3_foretold_23 rfl 0 rfl ?_
      refine g_X3_shelf hR m_1_60 dX3_foretold_24 ?_
      refine r_iload hR dX3_foretold_27 3 rfl ?_
      obtain ⟨r_29, hc, h⟩ := bd_some h
      refine r_callVi hR (c7_rowsOf hc) (cf_X3_64 (by decide)) ⟨m_2_13, m_2_14⟩ (As := [.int x4]) (q0 := 1) (ci := 5) rfl rfl rfl rfl (rc_X7 ad _) (Nat.le_of_ble_eq_true rfl) rfl dX3_foretold_29 ?_
      refine r_i2l hR dX3_foretold_32 ?_
      refine r_lmul hR dX3_foretold_33 ?_
      obtain ⟨x2_34, hx, h⟩ := bn_some h
      refine r_lstore_n hR (i := 2) (lv' := [(2, .long x2_34), (0, .ref (ad 2)), (1, .int x1), (4, .int x4)]) dX3_foretold_34 hx rfl (by decide) rfl ?_
      exact r_sub hR [1, 2, 0, 3] rfl (t3_foretold_b35 hR N q hP bk5 hbk5 _ _ _ h)
theorem t3_foretold_l5 (hR : Rl wC 4 RX3 cX3_foretold 7 (some .int) ad J P) (N : Nat) (q : SS) {r : Int32} (hP : P (some (.int r)) q) : ∀ (n : Nat) (x1 : Int32) (x2 : Int64) (x4 : Int32), f3_foretold_l5 N q n x1 x2 x4 = some r → J [(0, .ref (ad 2)), (1, .int x1), (2, .long x2), (4, .int x4)] [] q 5 := by
  intro n
  induction n with
  | zero => intro x1 x2 x4 h; exact mu_noneF h
  | succ n ih => intro x1 x2 x4 h; exact t3_foretold_l5_B hR N q hP _ ih x1 x2 x4 h
theorem t3_foretold (hR : Rl wC 4 RX3 cX3_foretold 7 (some .int) ad J P) (N : Nat) (q : SS) {r : Int32} (hP : P (some (.int r)) q) (x1 : Int32) (h : f3_foretold N q x1 = some r) : J [(0, .ref (ad 2)), (1, .int x1)] [] q 0 := by
  unfold f3_foretold at h
  refine r_lconst hR dX3_foretold_0 kc_lconst_1 ?_
  refine r_lstore_n hR (i := 2) (lv' := [(2, .long (1 : Int64)), (0, .ref (ad 2)), (1, .int x1)]) dX3_foretold_1 rfl rfl (by decide) rfl ?_
  refine r_iconst hR dX3_foretold_2 kc_iconst_0 ?_
  refine r_istore hR (i := 4) (lv' := [(4, .int (0 : Int32)), (2, .long (1 : Int64)), (0, .ref (ad 2)), (1, .int x1)]) dX3_foretold_3 rfl (by decide) rfl ?_
  exact r_sub hR [2, 3, 1, 0] rfl (t3_foretold_l5 hR N q hP N _ _ _ h)
theorem c3_foretold (N : Nat) {x1 : Int32} {q : SS} {r : Int32} (h : f3_foretold N q x1 = some r) : Ct wC 4 yX3_foretold cX3_foretold 7 (some .int) (fun ad => [.ref (ad 2), .int x1]) q (fun _ => some (.int r)) q :=
  ct_of (by decide) (fun _ => Nat.le_of_ble_eq_true rfl) (fun ad J hR => t3_foretold hR N q ⟨rfl, rfl⟩ x1 h)
theorem t3_sizeOf (hR : Rl wC 11 RX3 cX3_sizeOf 3 (some .int) ad J P) (N : Nat) {r : Int32} {q2 : SS} (hP : P (some (.int r)) q2) (x1 : Int32) (x2 : Int32) (q : SS) (h : f3_sizeOf N x1 x2 q = some (r, q2)) : J [(0, .ref (ad 2)), (1, .int x1), (2, .int x2)] [] q 0 := by
  unfold f3_sizeOf at h
  refine r_iload_n hR dX3_sizeOf_0 rfl 2 rfl ?_
  refine r_iconst hR dX3_sizeOf_1 kc_iconst_1 ?_
  refine r_icmp_ne hR (tgt := 11) dX3_sizeOf_2 (by decide) (fun c_2 => ?_) (fun c_2 => ?_)
  · replace h := it_f c_2 h
    refine r_aload_n hR dX3_sizeOf_11 rfl 0 rfl ?_
    obtain ⟨q_12, hc, h⟩ := bd_some h
    refine r_callVv hR (c3_allowAllRows N hc) (cf_X3_58 (by decide)) ⟨m_2_161, ms_1_4⟩ (As := []) (q0 := 2) (ci := 3) rfl rfl rfl rfl (rc_X3 ad _) (Nat.le_of_ble_eq_true rfl) rfl dX3_sizeOf_12 ?_
    refine r_aload_n hR dX3_sizeOf_15 rfl 0 rfl ?_
    refine r_iload_n hR dX3_sizeOf_16 rfl 1 rfl ?_
    obtain ⟨r_17, q_17, hc, h⟩ := bd2_some h
    refine r_callVi hR (c3_counted N hc) (cf_X3_61 (by decide)) ⟨m_2_168, ms_1_5⟩ (As := [.int x1]) (q0 := 2) (ci := 3) rfl rfl rfl rfl (rc_X3 ad _) (Nat.le_of_ble_eq_true rfl) rfl dX3_sizeOf_17 ?_
    exact r_iret hR dX3_sizeOf_20 rfl (rt2 hP h)
  · replace h := it_t c_2 h
    refine r_aload_n hR dX3_sizeOf_5 rfl 0 rfl ?_
    refine r_iload_n hR dX3_sizeOf_6 rfl 1 rfl ?_
    obtain ⟨r_7, hc, h⟩ := bd_some h
    refine r_callVi hR (c3_foretold N hc) (cf_X3_55 (by decide)) ⟨m_2_149, ms_1_2⟩ (As := [.int x1]) (q0 := 2) (ci := 3) rfl rfl rfl rfl (rc_X3 ad _) (Nat.le_of_ble_eq_true rfl) rfl dX3_sizeOf_7 ?_
    exact r_iret hR dX3_sizeOf_10 rfl (rt2 hP h)
theorem c3_sizeOf (N : Nat) {x1 : Int32} {x2 : Int32} {q : SS} {r : Int32} {q2 : SS} (h : f3_sizeOf N x1 x2 q = some (r, q2)) : Ct wC 11 yX3_sizeOf cX3_sizeOf 3 (some .int) (fun ad => [.ref (ad 2), .int x1, .int x2]) q (fun _ => some (.int r)) q2 :=
  ct_of (by decide) (fun _ => Nat.le_of_ble_eq_true rfl) (fun ad J hR => t3_sizeOf hR N ⟨rfl, rfl⟩ x1 x2 q h)
theorem t7_perOf (hR : Rl wC 1 RX7 cX7_perOf 2 (some .int) ad J P) (q : SS) {r : Int32} (hP : P (some (.int r)) q) (x1 : Int32) (h : f7_perOf q x1 = some r) : J [(0, .ref (ad 1)), (1, .int x1)] [] q 0 := by
  unfold f7_perOf at h
  refine r_iload_n hR dX7_perOf_0 rfl 1 rfl ?_
  refine r_if_lt hR (tgt := 21) dX7_perOf_1 (by decide) (fun c_1 => ?_) (fun c_1 => ?_)
  · replace h := it_t c_1 h
    refine r_iconst hR dX7_perOf_21 kc_iconst_0 ?_
    exact r_iret hR dX7_perOf_22 rfl (rt1 hP h)
  · replace h := it_f c_1 h
    refine r_iload_n hR dX7_perOf_4 rfl 1 rfl ?_
    refine r_aload_n hR dX7_perOf_5 rfl 0 rfl ?_
    refine g_X7_made hR m_1_33 dX7_perOf_6 ?_
    refine r_icmp_ge hR (tgt := 21) dX7_perOf_9 (by decide) (fun c_9 => ?_) (fun c_9 => ?_)
    · replace h := it_t c_9 h
      refine r_iconst hR dX7_perOf_21 kc_iconst_0 ?_
      exact r_iret hR dX7_perOf_22 rfl (rt1 hP h)
    · replace h := it_f c_9 h
      refine r_aload_n hR dX7_perOf_12 rfl 0 rfl ?_
      refine g_X7_perPage hR m_1_29 dX7_perOf_13 ?_
      refine r_iload_n hR dX7_perOf_16 rfl 1 rfl ?_
      obtain ⟨hin, h⟩ := ck_some h
      refine ld_X7_perPage hR dX7_perOf_17 hin ?_
      refine r_goto hR (tgt := 22) dX7_perOf_18 (by decide) ?_
      exact r_iret hR dX7_perOf_22 rfl (rt1 hP h)
theorem c7_perOf {x1 : Int32} {q : SS} {r : Int32} (h : f7_perOf q x1 = some r) : Ct wC 1 yX7_perOf cX7_perOf 2 (some .int) (fun ad => [.ref (ad 1), .int x1]) q (fun _ => some (.int r)) q :=
  ct_of (by decide) (fun _ => Nat.le_of_ble_eq_true rfl) (fun ad J hR => t7_perOf hR q ⟨rfl, rfl⟩ x1 h)
theorem t7_pagesOfTable (hR : Rl wC 2 RX7 cX7_pagesOfTable 2 (some .int) ad J P) (q : SS) {r : Int32} (hP : P (some (.int r)) q) (x1 : Int32) (h : f7_pagesOfTable q x1 = some r) : J [(0, .ref (ad 1)), (1, .int x1)] [] q 0 := by
  unfold f7_pagesOfTable at h
  refine r_aload_n hR dX7_pagesOfTable_0 rfl 0 rfl ?_
  refine r_iload_n hR dX7_pagesOfTable_1 rfl 1 rfl ?_
  obtain ⟨r_2, hc, h⟩ := bd_some h
  refine r_callVi hR (c7_rowsOf hc) (cf_X7_37 (by decide)) ⟨m_2_13, m_2_14⟩ (As := [.int x1]) (q0 := 1) (ci := 5) rfl rfl rfl rfl (rc_X7 ad _) (Nat.le_of_ble_eq_true rfl) rfl dX7_pagesOfTable_2 ?_
  refine r_aload_n hR dX7_pagesOfTable_5 rfl 0 rfl ?_
  refine r_iload_n hR dX7_pagesOfTable_6 rfl 1 rfl ?_
  obtain ⟨r_7, hc, h⟩ := bd_some h
  refine r_callVi hR (c7_perOf hc) (cf_X7_41 (by decide)) ⟨m_2_92, m_2_93⟩ (As := [.int x1]) (q0 := 1) (ci := 5) rfl rfl rfl rfl (rc_X7 ad _) (Nat.le_of_ble_eq_true rfl) rfl dX7_pagesOfTable_7 ?_
  obtain ⟨r_10, hc, h⟩ := bd_some h
  refine r_callSi hR (c5_roundedUp hc) (cf_X7_44 (by decide)) m_2_101 (As := [.int r_2, .int r_7]) rfl rfl (Nat.le_of_ble_eq_true rfl) rfl dX7_pagesOfTable_10 ?_
  exact r_iret hR dX7_pagesOfTable_13 rfl (rt1 hP h)
theorem c7_pagesOfTable {x1 : Int32} {q : SS} {r : Int32} (h : f7_pagesOfTable q x1 = some r) : Ct wC 2 yX7_pagesOfTable cX7_pagesOfTable 2 (some .int) (fun ad => [.ref (ad 1), .int x1]) q (fun _ => some (.int r)) q :=
  ct_of (by decide) (fun _ => Nat.le_of_ble_eq_true rfl) (fun ad J hR => t7_pagesOfTable hR q ⟨rfl, rfl⟩ x1 h)
theorem t7_wide (hR : Rl wC 1 RX7 cX7_wide 1 (some .int) ad J P) (q : SS) {r : Int32} (hP : P (some (.int r)) q) (h : f7_wide q = some r) : J [(0, .ref (ad 1))] [] q 0 := by
  unfold f7_wide at h
  refine r_aload_n hR dX7_wide_0 rfl 0 rfl ?_
  refine g_X7_wide hR m_1_34 dX7_wide_1 ?_
  exact r_iret hR dX7_wide_4 rfl (rt1 hP h)
theorem c7_wide {q : SS} {r : Int32} (h : f7_wide q = some r) : Ct wC 1 yX7_wide cX7_wide 1 (some .int) (fun ad => [.ref (ad 1)]) q (fun _ => some (.int r)) q :=
  ct_of (by decide) (fun _ => Nat.le_of_ble_eq_true rfl) (fun ad J hR => t7_wide hR q ⟨rfl, rfl⟩ h)
theorem t3_pagesOf (hR : Rl wC 12 RX3 cX3_pagesOf 3 (some .int) ad J P) (N : Nat) {r : Int32} {q2 : SS} (hP : P (some (.int r)) q2) (x1 : Int32) (x2 : Int32) (q : SS) (h : f3_pagesOf N x1 x2 q = some (r, q2)) : J [(0, .ref (ad 2)), (1, .int x1), (2, .int x2)] [] q 0 := by
  unfold f3_pagesOf at h
  refine r_iload_n hR dX3_pagesOf_0 rfl 1 rfl ?_
  obtain ⟨r_1, hc, h⟩ := bd_some h
  refine r_callSi hR (cJ6_bitCount hc) (cf_X3_28 (by decide)) m_1_228 (As := [.int x1]) rfl rfl (Nat.le_of_ble_eq_true rfl) rfl dX3_pagesOf_1 ?_
  refine r_iconst hR dX3_pagesOf_4 kc_iconst_1 ?_
  refine r_icmp_ne hR (tgt := 20) dX3_pagesOf_5 (by decide) (fun c_5 => ?_) (fun c_5 => ?_)
  · replace h := it_f c_5 h
    refine r_aload_n hR dX3_pagesOf_20 rfl 0 rfl ?_
    refine r_iload_n hR dX3_pagesOf_21 rfl 1 rfl ?_
    refine r_iload_n hR dX3_pagesOf_22 rfl 2 rfl ?_
    obtain ⟨r_23, q_23, hc, h⟩ := bd2_some h
    refine r_callVi hR (c3_sizeOf N hc) (cf_X3_42 (by decide)) ⟨m_2_144, m_2_145⟩ (As := [.int x1, .int x2]) (q0 := 2) (ci := 3) rfl rfl rfl rfl (rc_X3 ad _) (Nat.le_of_ble_eq_true rfl) rfl dX3_pagesOf_23 ?_
    refine r_aload_n hR dX3_pagesOf_26 rfl 0 rfl ?_
    refine g_X3_shelf hR m_1_60 dX3_pagesOf_27 ?_
    obtain ⟨r_30, hc, h⟩ := bd_some h
    refine r_callVi hR (c7_wide hc) (cf_X3_46 (by decide)) ⟨m_2_207, m_2_208⟩ (As := []) (q0 := 1) (ci := 5) rfl rfl rfl rfl (rc_X7 ad _) (Nat.le_of_ble_eq_true rfl) rfl dX3_pagesOf_30 ?_
    obtain ⟨r_33, hc, h⟩ := bd_some h
    refine r_callSi hR (c5_roundedUp hc) (cf_X3_50 (by decide)) m_2_101 (As := [.int r_23, .int r_30]) rfl rfl (Nat.le_of_ble_eq_true rfl) rfl dX3_pagesOf_33 ?_
    exact r_iret hR dX3_pagesOf_36 rfl (rt2 hP h)
  · replace h := it_t c_5 h
    refine r_aload_n hR dX3_pagesOf_8 rfl 0 rfl ?_
    refine g_X3_shelf hR m_1_60 dX3_pagesOf_9 ?_
    refine r_iload_n hR dX3_pagesOf_12 rfl 1 rfl ?_
    obtain ⟨r_13, hc, h⟩ := bd_some h
    refine r_callSi hR (cJ6_numberOfTrailingZeros hc) (cf_X3_34 (by decide)) m_2_201 (As := [.int x1]) rfl rfl (Nat.le_of_ble_eq_true rfl) rfl dX3_pagesOf_13 ?_
    obtain ⟨r_16, hc, h⟩ := bd_some h
    refine r_callVi hR (c7_pagesOfTable hc) (cf_X3_37 (by decide)) ⟨m_2_96, m_2_97⟩ (As := [.int r_13]) (q0 := 1) (ci := 5) rfl rfl rfl rfl (rc_X7 ad _) (Nat.le_of_ble_eq_true rfl) rfl dX3_pagesOf_16 ?_
    exact r_iret hR dX3_pagesOf_19 rfl (rt2 hP h)
theorem c3_pagesOf (N : Nat) {x1 : Int32} {x2 : Int32} {q : SS} {r : Int32} {q2 : SS} (h : f3_pagesOf N x1 x2 q = some (r, q2)) : Ct wC 12 yX3_pagesOf cX3_pagesOf 3 (some .int) (fun ad => [.ref (ad 2), .int x1, .int x2]) q (fun _ => some (.int r)) q2 :=
  ct_of (by decide) (fun _ => Nat.le_of_ble_eq_true rfl) (fun ad J hR => t3_pagesOf hR N ⟨rfl, rfl⟩ x1 x2 q h)
theorem t5_sorting_b39 (hR : Rl wC 2 RX5 cX5_sorting 4 (some .int) ad J P) (N : Nat) {q : SS} {r : Int32} (hP : P (some (.int r)) q) (x0 : Int32) (x3 : Int32) (h : f5_sorting_b39 N x0 x3 = some r) : J [(0, .int x0), (3, .int x3)] [] q 39 := by
  unfold f5_sorting_b39 at h
  refine r_iconst hR dX5_sorting_39 kc_iconst_2 ?_
  refine r_iload_n hR dX5_sorting_40 rfl 0 rfl ?_
  refine r_imul hR dX5_sorting_41 ?_
  refine r_iload_n hR dX5_sorting_42 rfl 1 rfl ?_
  refine r_imul hR dX5_sorting_43 ?_
  exact r_iret hR dX5_sorting_44 rfl (rt1 hP h)
theorem t5_sorting_l14_B (hR : Rl wC 2 RX5 cX5_sorting 4 (some .int) ad J P) (N : Nat) {q : SS} {r : Int32} (hP : P (some (.int r)) q) (bk14 : Int32 → Int32 → Int32 → Int32 → Option Int32) (hbk14 : ∀ (x0 : Int32) (x1 : Int32) (x2 : Int32) (x3 : Int32), bk14 x0 x1 x2 x3 = some r → J [(0, .int x0), (1, .int x1), (2, .int x2), (3, .int x3)] [] q 14) (x0 : Int32) (x1 : Int32) (x2 : Int32) (x3 : Int32) (h : f5_sorting_l14_B N bk14 x0 x1 x2 x3 = some r) : J [(0, .int x0), (1, .int x1), (2, .int x2), (3, .int x3)] [] q 14 := by
  unfold f5_sorting_l14_B at h
  refine r_iload_n hR dX5_sorting_14 rfl 2 rfl ?_
  refine r_iconst hR dX5_sorting_15 kc_iconst_1 ?_
  refine r_icmp_le hR (tgt := 39) dX5_sorting_16 (by decide) (fun c_16 => ?_) (fun c_16 => ?_)
  · replace h := it_t c_16 h
    exact r_sub hR [0, 3] rfl (t5_sorting_b39 hR N hP _ _ h)
  · replace h := it_f c_16 h
    refine r_iload_n hR dX5_sorting_19 rfl 3 rfl ?_
    refine r_bipush hR dX5_sorting_20 kc_bipush_32 ?_
    refine r_icmp_ge hR (tgt := 39) dX5_sorting_22 (by decide) (fun c_22 => ?_) (fun c_22 => ?_)
    · replace h := it_t c_22 h
      exact r_sub hR [0, 3] rfl (t5_sorting_b39 hR N hP _ _ h)
    · replace h := it_f c_22 h
      refine r_iload_n hR dX5_sorting_25 rfl 2 rfl ?_
      refine r_iload_n hR dX5_sorting_26 rfl 1 rfl ?_
      refine r_iconst hR dX5_sorting_27 kc_iconst_1 ?_
      refine r_isub hR dX5_sorting_28 ?_
      obtain ⟨r_29, hc, h⟩ := bd_some h
      refine r_callSi hR (c5_roundedUp hc) (cf_X5_7 (by decide)) m_2_101 (As := [.int x2, .int (x1 - (1 : Int32))]) rfl rfl (Nat.le_of_ble_eq_true rfl) rfl dX5_sorting_29 ?_
      refine r_istore_n hR (i := 2) (lv' := [(2, .int r_29), (0, .int x0), (1, .int x1), (3, .int x3)]) dX5_sorting_32 rfl rfl (by decide) rfl ?_
      obtain ⟨x3_33, hx, h⟩ := bn_some h
      refine r_iinc hR (i := 3) (lv' := [(3, .int x3_33), (2, .int r_29), (0, .int x0), (1, .int x1)]) dX5_sorting_33 3 rfl (inc_ok hx kc_iconst_1) (by decide) rfl ?_
      refine r_goto hR (tgt := 14) dX5_sorting_36 (by decide) ?_
      exact r_sub hR [2, 3, 1, 0] rfl (hbk14 _ _ _ _ h)
theorem t5_sorting_l14 (hR : Rl wC 2 RX5 cX5_sorting 4 (some .int) ad J P) (N : Nat) {q : SS} {r : Int32} (hP : P (some (.int r)) q) : ∀ (n : Nat) (x0 : Int32) (x1 : Int32) (x2 : Int32) (x3 : Int32), f5_sorting_l14 N n x0 x1 x2 x3 = some r → J [(0, .int x0), (1, .int x1), (2, .int x2), (3, .int x3)] [] q 14 := by
  intro n
  induction n with
  | zero => intro x0 x1 x2 x3 h; exact mu_noneF h
  | succ n ih => intro x0 x1 x2 x3 h; exact t5_sorting_l14_B hR N hP _ ih x0 x1 x2 x3 h
theorem t5_sorting (hR : Rl wC 2 RX5 cX5_sorting 4 (some .int) ad J P) (N : Nat) {q : SS} {r : Int32} (hP : P (some (.int r)) q) (x0 : Int32) (x1 : Int32) (h : f5_sorting N x0 x1 = some r) : J [(0, .int x0), (1, .int x1)] [] q 0 := by
  unfold f5_sorting at h
  refine r_iload_n hR dX5_sorting_0 rfl 0 rfl ?_
  refine r_if_gt hR (tgt := 6) dX5_sorting_1 (by decide) (fun c_1 => ?_) (fun c_1 => ?_)
  · replace h := it_t c_1 h
    refine r_iload_n hR dX5_sorting_6 rfl 0 rfl ?_
    refine r_iload_n hR dX5_sorting_7 rfl 1 rfl ?_
    obtain ⟨r_8, hc, h⟩ := bd_some h
    refine r_callSi hR (c5_roundedUp hc) (cf_X5_7 (by decide)) m_2_101 (As := [.int x0, .int x1]) rfl rfl (Nat.le_of_ble_eq_true rfl) rfl dX5_sorting_8 ?_
    refine r_istore_n hR (i := 2) (lv' := [(2, .int r_8), (0, .int x0), (1, .int x1)]) dX5_sorting_11 rfl rfl (by decide) rfl ?_
    refine r_iconst hR dX5_sorting_12 kc_iconst_1 ?_
    refine r_istore_n hR (i := 3) (lv' := [(3, .int (1 : Int32)), (2, .int r_8), (0, .int x0), (1, .int x1)]) dX5_sorting_13 rfl rfl (by decide) rfl ?_
    exact r_sub hR [2, 3, 1, 0] rfl (t5_sorting_l14 hR N hP N _ _ _ _ h)
  · replace h := it_f c_1 h
    refine r_iconst hR dX5_sorting_4 kc_iconst_0 ?_
    exact r_iret hR dX5_sorting_5 rfl (rt1 hP h)
theorem c5_sorting (N : Nat) {x0 : Int32} {x1 : Int32} {q : SS} {r : Int32} (h : f5_sorting N x0 x1 = some r) : Ct wC 2 yX5_sorting cX5_sorting 4 (some .int) (fun ad => [.int x0, .int x1]) q (fun _ => some (.int r)) q :=
  ct_of (by decide) (fun _ => Nat.le_of_ble_eq_true rfl) (fun ad J hR => t5_sorting hR N ⟨rfl, rfl⟩ x0 x1 h)
theorem t0_choose_b97 (hR : Rl wC 13 RX0 cX0_choose 5 none ad J P) (N : Nat) {q2 : SS} (hP : P none q2) (bk3 : Int32 → Int32 → Int32 → Int32 → SS → Option SS) (hbk3 : ∀ (x1 : Int32) (x2 : Int32) (x3 : Int32) (x4 : Int32) (q : SS), bk3 x1 x2 x3 x4 q = some q2 → J [(0, .ref (ad 5)), (1, .int x1), (2, .int x2), (3, .int x3), (4, .int x4)] [] q 3) (x1 : Int32) (x2 : Int32) (x3 : Int32) (x4 : Int32) (q : SS) (h : f0_choose_b97 N bk3 x1 x2 x3 x4 q = some q2) : J [(0, .ref (ad 5)), (1, .int x1), (2, .int x2), (3, .int x3), (4, .int x4)] [] q 97 := by
  unfold f0_choose_b97 at h
  obtain ⟨x4_97, hx, h⟩ := bn_some h
  refine r_iinc hR (i := 4) (lv' := [(4, .int x4_97), (0, .ref (ad 5)), (1, .int x1), (2, .int x2), (3, .int x3)]) dX0_choose_97 4 rfl (inc_ok hx kc_iconst_1) (by decide) rfl ?_
  refine r_goto hR (tgt := 3) dX0_choose_100 (by decide) ?_
  exact r_sub hR [1, 2, 3, 4, 0] rfl (hbk3 _ _ _ _ _ h)
theorem t0_choose_l3_B (hR : Rl wC 13 RX0 cX0_choose 5 none ad J P) (N : Nat) {q2 : SS} (hP : P none q2) (bk3 : Int32 → Int32 → Int32 → Int32 → SS → Option SS) (hbk3 : ∀ (x1 : Int32) (x2 : Int32) (x3 : Int32) (x4 : Int32) (q : SS), bk3 x1 x2 x3 x4 q = some q2 → J [(0, .ref (ad 5)), (1, .int x1), (2, .int x2), (3, .int x3), (4, .int x4)] [] q 3) (x1 : Int32) (x2 : Int32) (x3 : Int32) (x4 : Int32) (q : SS) (h : f0_choose_l3_B N bk3 x1 x2 x3 x4 q = some q2) : J [(0, .ref (ad 5)), (1, .int x1), (2, .int x2), (3, .int x3), (4, .int x4)] [] q 3 := by
  unfold f0_choose_l3_B at h
  refine r_iload hR dX0_choose_3 4 rfl ?_
  refine r_bipush hR dX0_choose_5 kc_bipush_64 ?_
  refine r_icmp_ge hR (tgt := 103) dX0_choose_7 (by decide) (fun c_7 => ?_) (fun c_7 => ?_)
  · replace h := it_t c_7 h
    exact r_vret hR dX0_choose_103 rfl (rtv hP h)
  · replace h := it_f c_7 h
    refine r_iload hR dX0_choose_10 4 rfl ?_
    refine r_iload_n hR dX0_choose_12 rfl 1 rfl ?_
    refine r_icmp_gt hR (tgt := 103) dX0_choose_13 (by decide) (fun c_13 => ?_) (fun c_13 => ?_)
    · replace h := it_t c_13 h
      exact r_vret hR dX0_choose_103 rfl (rtv hP h)
    · replace h := it_f c_13 h
      refine r_iload hR dX0_choose_16 4 rfl ?_
      refine r_iload_n hR dX0_choose_18 rfl 1 rfl ?_
      refine r_iconst hR dX0_choose_19 kc_iconst_m1 ?_
      refine r_ixor hR dX0_choose_20 ?_
      refine r_iand hR dX0_choose_21 ?_
      refine r_if_ne hR (tgt := 97) dX0_choose_22 (by decide) (fun c_22 => ?_) (fun c_22 => ?_)
      · replace h := it_f c_22 h
        exact r_sub hR [0, 1, 2, 3, 4] rfl (t0_choose_b97 hR N hP bk3 hbk3 _ _ _ _ _ h)
      · replace h := it_t c_22 h
        refine r_aload_n hR dX0_choose_25 rfl 0 rfl ?_
        refine g_X0_pageCounts hR m_1_154 dX0_choose_26 ?_
        refine r_iload hR dX0_choose_29 4 rfl ?_
        refine r_aload_n hR dX0_choose_31 rfl 0 rfl ?_
        refine g_X0_matches hR m_1_151 dX0_choose_32 ?_
        refine r_iload hR dX0_choose_35 4 rfl ?_
        refine r_iload_n hR dX0_choose_37 rfl 3 rfl ?_
        obtain ⟨r_38, q_38, hc, h⟩ := bd2_some h
        refine r_callVi hR (c3_pagesOf N hc) (cf_X0_36 (by decide)) ⟨m_2_196, m_2_197⟩ (As := [.int x4, .int x3]) (q0 := 2) (ci := 3) rfl rfl rfl rfl (rc_X3 ad _) (Nat.le_of_ble_eq_true rfl) rfl dX0_choose_38 ?_
        obtain ⟨hin, h⟩ := ck_some h
        obtain ⟨q_41, hq, h⟩ := bn_some h
        refine sv_X0_pageCounts hR dX0_choose_41 hin hq ?_
        refine r_aload_n hR dX0_choose_42 rfl 0 rfl ?_
        refine g_X0_sortings hR m_1_155 dX0_choose_43 ?_
        refine r_iload hR dX0_choose_46 4 rfl ?_
        refine r_aload_n hR dX0_choose_48 rfl 0 rfl ?_
        refine g_X0_pageCounts hR m_1_154 dX0_choose_49 ?_
        refine r_iload hR dX0_choose_52 4 rfl ?_
        obtain ⟨hin, h⟩ := ck_some h
        refine ld_X0_pageCounts hR dX0_choose_54 hin ?_
        refine r_aload_n hR dX0_choose_55 rfl 0 rfl ?_
        refine g_X0_shelf hR m_1_150 dX0_choose_56 ?_
        obtain ⟨r_59, hc, h⟩ := bd_some h
        refine r_callVi hR (c7_memory hc) (cf_X0_42 (by decide)) ⟨m_3_97, m_3_98⟩ (As := []) (q0 := 1) (ci := 5) rfl rfl rfl rfl (rc_X7 ad _) (Nat.le_of_ble_eq_true rfl) rfl dX0_choose_59 ?_
        obtain ⟨r_62, hc, h⟩ := bd_some h
        refine r_callSi hR (c5_sorting N hc) (cf_X0_48 (by decide)) m_3_114 (As := [.int (ar q_41 24 (ix x4)), .int r_59]) rfl rfl (Nat.le_of_ble_eq_true rfl) rfl dX0_choose_62 ?_
        obtain ⟨hin, h⟩ := ck_some h
        obtain ⟨q_65, hq, h⟩ := bn_some h
        refine sv_X0_sortings hR dX0_choose_65 hin hq ?_
        refine r_aload_n hR dX0_choose_66 rfl 0 rfl ?_
        refine r_iload hR dX0_choose_67 4 rfl ?_
        obtain ⟨q_69, hc, h⟩ := bd_some h
        refine r_callVv hR (c0_forget N hc) (cf_X0_53 (by decide)) ⟨m_3_158, ms_2_6⟩ (As := [.int x4]) (q0 := 5) (ci := 0) rfl rfl rfl rfl (rc_X0 ad _) (Nat.le_of_ble_eq_true rfl) rfl dX0_choose_69 ?_
        refine r_iload hR dX0_choose_72 4 rfl ?_
        obtain ⟨r_74, hc, h⟩ := bd_some h
        refine r_callSi hR (cJ6_bitCount hc) (cf_X0_57 (by decide)) m_1_228 (As := [.int x4]) rfl rfl (Nat.le_of_ble_eq_true rfl) rfl dX0_choose_74 ?_
        refine r_iconst hR dX0_choose_77 kc_iconst_1 ?_
        refine r_icmp_ne hR (tgt := 90) dX0_choose_78 (by decide) (fun c_78 => ?_) (fun c_78 => ?_)
        · replace h := it_f c_78 h
          refine r_aload_n hR dX0_choose_90 rfl 0 rfl ?_
          refine r_iload hR dX0_choose_91 4 rfl ?_
          refine r_iload_n hR dX0_choose_93 rfl 2 rfl ?_
          obtain ⟨q_94, hc, h⟩ := bd_some h
          refine r_callVv hR (c0_takeSteps N hc) (cf_X0_66 (by decide)) ⟨m_3_177, ms_2_10⟩ (As := [.int x4, .int x2]) (q0 := 5) (ci := 0) rfl rfl rfl rfl (rc_X0 ad _) (Nat.le_of_ble_eq_true rfl) rfl dX0_choose_94 ?_
          exact r_sub hR [0, 1, 2, 3, 4] rfl (t0_choose_b97 hR N hP bk3 hbk3 _ _ _ _ _ h)
        · replace h := it_t c_78 h
          refine r_aload_n hR dX0_choose_81 rfl 0 rfl ?_
          refine r_iload hR dX0_choose_82 4 rfl ?_
          obtain ⟨q_84, hc, h⟩ := bd_some h
          refine r_callVv hR (c0_takeTable N hc) (cf_X0_63 (by decide)) ⟨m_3_163, ms_2_7⟩ (As := [.int x4]) (q0 := 5) (ci := 0) rfl rfl rfl rfl (rc_X0 ad _) (Nat.le_of_ble_eq_true rfl) rfl dX0_choose_84 ?_
          refine r_goto hR (tgt := 97) dX0_choose_87 (by decide) ?_
          exact r_sub hR [0, 1, 2, 3, 4] rfl (t0_choose_b97 hR N hP bk3 hbk3 _ _ _ _ _ h)
theorem t0_choose_l3 (hR : Rl wC 13 RX0 cX0_choose 5 none ad J P) (N : Nat) {q2 : SS} (hP : P none q2) : ∀ (n : Nat) (x1 : Int32) (x2 : Int32) (x3 : Int32) (x4 : Int32) (q : SS), f0_choose_l3 N n x1 x2 x3 x4 q = some q2 → J [(0, .ref (ad 5)), (1, .int x1), (2, .int x2), (3, .int x3), (4, .int x4)] [] q 3 := by
  intro n
  induction n with
  | zero => intro x1 x2 x3 x4 q h; exact mu_noneF h
  | succ n ih => intro x1 x2 x3 x4 q h; exact t0_choose_l3_B hR N hP _ ih x1 x2 x3 x4 q h
theorem t0_choose (hR : Rl wC 13 RX0 cX0_choose 5 none ad J P) (N : Nat) {q2 : SS} (hP : P none q2) (x1 : Int32) (x2 : Int32) (x3 : Int32) (q : SS) (h : f0_choose N x1 x2 x3 q = some q2) : J [(0, .ref (ad 5)), (1, .int x1), (2, .int x2), (3, .int x3)] [] q 0 := by
  unfold f0_choose at h
  refine r_iconst hR dX0_choose_0 kc_iconst_1 ?_
  refine r_istore hR (i := 4) (lv' := [(4, .int (1 : Int32)), (0, .ref (ad 5)), (1, .int x1), (2, .int x2), (3, .int x3)]) dX0_choose_1 rfl (by decide) rfl ?_
  exact r_sub hR [1, 2, 3, 4, 0] rfl (t0_choose_l3 hR N hP N _ _ _ _ _ h)
theorem c0_choose (N : Nat) {x1 : Int32} {x2 : Int32} {x3 : Int32} {q : SS} {q2 : SS} (h : f0_choose N x1 x2 x3 q = some q2) : Ct wC 13 yX0_choose cX0_choose 5 none (fun ad => [.ref (ad 5), .int x1, .int x2, .int x3]) q (fun _ => none) q2 :=
  ct_of (by decide) (fun _ => Nat.le_of_ble_eq_true rfl) (fun ad J hR => t0_choose hR N ⟨rfl, rfl⟩ x1 x2 x3 q h)
theorem t0_codeOf (hR : Rl wC 1 RX0 cX0_codeOf 1 (some .int) ad J P) {q : SS} {r : Int32} (hP : P (some (.int r)) q) (x0 : Int32) (h : f0_codeOf x0 = some r) : J [(0, .int x0)] [] q 0 := by
  unfold f0_codeOf at h
  refine r_iload_n hR dX0_codeOf_0 rfl 0 rfl ?_
  by_cases c_1_1 : x0 = (1 : Int32)
  · replace h := it_t c_1_1 h
    refine r_tableIn hR (off := 55) (tgt := 56) dX0_codeOf_1 (by rw [c_1_1]; decide) (by rw [c_1_1]; decide) (by rw [c_1_1]; decide) (by decide) ?_
    refine r_bipush hR dX0_codeOf_56 kc_bipush_40 ?_
    exact r_iret hR dX0_codeOf_58 rfl (rt1 hP h)
  · replace h := it_f c_1_1 h
    by_cases c_1_8 : x0 = (8 : Int32)
    · replace h := it_t c_1_8 h
      refine r_tableIn hR (off := 58) (tgt := 59) dX0_codeOf_1 (by rw [c_1_8]; decide) (by rw [c_1_8]; decide) (by rw [c_1_8]; decide) (by decide) ?_
      refine r_bipush hR dX0_codeOf_59 kc_bipush_108 ?_
      exact r_iret hR dX0_codeOf_61 rfl (rt1 hP h)
    · replace h := it_f c_1_8 h
      by_cases c_1_9 : x0 = (9 : Int32)
      · replace h := it_t c_1_9 h
        refine r_tableIn hR (off := 61) (tgt := 62) dX0_codeOf_1 (by rw [c_1_9]; decide) (by rw [c_1_9]; decide) (by rw [c_1_9]; decide) (by decide) ?_
        refine r_bipush hR dX0_codeOf_62 kc_bipush_112 ?_
        exact r_iret hR dX0_codeOf_64 rfl (rt1 hP h)
      · replace h := it_f c_1_9 h
        by_cases c_1_10 : x0 = (10 : Int32)
        · replace h := it_t c_1_10 h
          refine r_tableIn hR (off := 64) (tgt := 65) dX0_codeOf_1 (by rw [c_1_10]; decide) (by rw [c_1_10]; decide) (by rw [c_1_10]; decide) (by decide) ?_
          refine r_bipush hR dX0_codeOf_65 kc_bipush_115 ?_
          exact r_iret hR dX0_codeOf_67 rfl (rt1 hP h)
        · replace h := it_f c_1_10 h
          by_cases c_1_2 : x0 = (2 : Int32)
          · refine r_tableIn hR (off := 67) (tgt := 68) dX0_codeOf_1 (by rw [c_1_2]; decide) (by rw [c_1_2]; decide) (by rw [c_1_2]; decide) (by decide) ?_
            refine r_bipush hR dX0_codeOf_68 kc_bipush_48 ?_
            refine r_iload_n hR dX0_codeOf_70 rfl 0 rfl ?_
            refine r_iadd hR dX0_codeOf_71 ?_
            refine r_iconst hR dX0_codeOf_72 kc_iconst_2 ?_
            refine r_isub hR dX0_codeOf_73 ?_
            exact r_iret hR dX0_codeOf_74 rfl (rt1 hP h)
          skip
          by_cases c_1_3 : x0 = (3 : Int32)
          · refine r_tableIn hR (off := 67) (tgt := 68) dX0_codeOf_1 (by rw [c_1_3]; decide) (by rw [c_1_3]; decide) (by rw [c_1_3]; decide) (by decide) ?_
            refine r_bipush hR dX0_codeOf_68 kc_bipush_48 ?_
            refine r_iload_n hR dX0_codeOf_70 rfl 0 rfl ?_
            refine r_iadd hR dX0_codeOf_71 ?_
            refine r_iconst hR dX0_codeOf_72 kc_iconst_2 ?_
            refine r_isub hR dX0_codeOf_73 ?_
            exact r_iret hR dX0_codeOf_74 rfl (rt1 hP h)
          skip
          by_cases c_1_4 : x0 = (4 : Int32)
          · refine r_tableIn hR (off := 67) (tgt := 68) dX0_codeOf_1 (by rw [c_1_4]; decide) (by rw [c_1_4]; decide) (by rw [c_1_4]; decide) (by decide) ?_
            refine r_bipush hR dX0_codeOf_68 kc_bipush_48 ?_
            refine r_iload_n hR dX0_codeOf_70 rfl 0 rfl ?_
            refine r_iadd hR dX0_codeOf_71 ?_
            refine r_iconst hR dX0_codeOf_72 kc_iconst_2 ?_
            refine r_isub hR dX0_codeOf_73 ?_
            exact r_iret hR dX0_codeOf_74 rfl (rt1 hP h)
          skip
          by_cases c_1_5 : x0 = (5 : Int32)
          · refine r_tableIn hR (off := 67) (tgt := 68) dX0_codeOf_1 (by rw [c_1_5]; decide) (by rw [c_1_5]; decide) (by rw [c_1_5]; decide) (by decide) ?_
            refine r_bipush hR dX0_codeOf_68 kc_bipush_48 ?_
            refine r_iload_n hR dX0_codeOf_70 rfl 0 rfl ?_
            refine r_iadd hR dX0_codeOf_71 ?_
            refine r_iconst hR dX0_codeOf_72 kc_iconst_2 ?_
            refine r_isub hR dX0_codeOf_73 ?_
            exact r_iret hR dX0_codeOf_74 rfl (rt1 hP h)
          skip
          by_cases c_1_6 : x0 = (6 : Int32)
          · refine r_tableIn hR (off := 67) (tgt := 68) dX0_codeOf_1 (by rw [c_1_6]; decide) (by rw [c_1_6]; decide) (by rw [c_1_6]; decide) (by decide) ?_
            refine r_bipush hR dX0_codeOf_68 kc_bipush_48 ?_
            refine r_iload_n hR dX0_codeOf_70 rfl 0 rfl ?_
            refine r_iadd hR dX0_codeOf_71 ?_
            refine r_iconst hR dX0_codeOf_72 kc_iconst_2 ?_
            refine r_isub hR dX0_codeOf_73 ?_
            exact r_iret hR dX0_codeOf_74 rfl (rt1 hP h)
          skip
          by_cases c_1_7 : x0 = (7 : Int32)
          · refine r_tableIn hR (off := 67) (tgt := 68) dX0_codeOf_1 (by rw [c_1_7]; decide) (by rw [c_1_7]; decide) (by rw [c_1_7]; decide) (by decide) ?_
            refine r_bipush hR dX0_codeOf_68 kc_bipush_48 ?_
            refine r_iload_n hR dX0_codeOf_70 rfl 0 rfl ?_
            refine r_iadd hR dX0_codeOf_71 ?_
            refine r_iconst hR dX0_codeOf_72 kc_iconst_2 ?_
            refine r_isub hR dX0_codeOf_73 ?_
            exact r_iret hR dX0_codeOf_74 rfl (rt1 hP h)
          skip
          have n_1 : ¬ (x0).toInt = 1 := lv_neT c_1_1 (by decide)
          have n_2 : ¬ (x0).toInt = 2 := lv_neT c_1_2 (by decide)
          have n_3 : ¬ (x0).toInt = 3 := lv_neT c_1_3 (by decide)
          have n_4 : ¬ (x0).toInt = 4 := lv_neT c_1_4 (by decide)
          have n_5 : ¬ (x0).toInt = 5 := lv_neT c_1_5 (by decide)
          have n_6 : ¬ (x0).toInt = 6 := lv_neT c_1_6 (by decide)
          have n_7 : ¬ (x0).toInt = 7 := lv_neT c_1_7 (by decide)
          have n_8 : ¬ (x0).toInt = 8 := lv_neT c_1_8 (by decide)
          have n_9 : ¬ (x0).toInt = 9 := lv_neT c_1_9 (by decide)
          have n_10 : ¬ (x0).toInt = 10 := lv_neT c_1_10 (by decide)
          refine r_tableOut hR (tgt := 68) dX0_codeOf_1 (by omega) (by decide) ?_
          refine r_bipush hR dX0_codeOf_68 kc_bipush_48 ?_
          refine r_iload_n hR dX0_codeOf_70 rfl 0 rfl ?_
          refine r_iadd hR dX0_codeOf_71 ?_
          refine r_iconst hR dX0_codeOf_72 kc_iconst_2 ?_
          refine r_isub hR dX0_codeOf_73 ?_
          exact r_iret hR dX0_codeOf_74 rfl (rt1 hP h)
theorem c0_codeOf {x0 : Int32} {q : SS} {r : Int32} (h : f0_codeOf x0 = some r) : Ct wC 1 yX0_codeOf cX0_codeOf 1 (some .int) (fun ad => [.int x0]) q (fun _ => some (.int r)) q :=
  ct_of (by decide) (fun _ => Nat.le_of_ble_eq_true rfl) (fun ad J hR => t0_codeOf hR ⟨rfl, rfl⟩ x0 h)
theorem t0_put (hR : Rl wC 1 RX0 cX0_put 2 none ad J P) {q2 : SS} (hP : P none q2) (x1 : Int32) (q : SS) (h : f0_put x1 q = some q2) : J [(0, .ref (ad 5)), (1, .int x1)] [] q 0 := by
  unfold f0_put at h
  refine r_aload_n hR dX0_put_0 rfl 0 rfl ?_
  refine g_X0_length hR m_1_157 dX0_put_1 ?_
  refine r_if_lt hR (tgt := 36) dX0_put_4 (by decide) (fun c_4 => ?_) (fun c_4 => ?_)
  · replace h := it_t c_4 h
    exact r_vret hR dX0_put_36 rfl (rtv hP h)
  · replace h := it_f c_4 h
    refine r_aload_n hR dX0_put_7 rfl 0 rfl ?_
    refine g_X0_length hR m_1_157 dX0_put_8 ?_
    refine r_bipush hR dX0_put_11 kc_bipush_21 ?_
    refine r_icmp_ge hR (tgt := 36) dX0_put_13 (by decide) (fun c_13 => ?_) (fun c_13 => ?_)
    · replace h := it_t c_13 h
      exact r_vret hR dX0_put_36 rfl (rtv hP h)
    · replace h := it_f c_13 h
      refine r_aload_n hR dX0_put_16 rfl 0 rfl ?_
      refine g_X0_text hR m_1_156 dX0_put_17 ?_
      refine r_aload_n hR dX0_put_20 rfl 0 rfl ?_
      refine g_X0_length hR m_1_157 dX0_put_21 ?_
      refine r_iload_n hR dX0_put_24 rfl 1 rfl ?_
      obtain ⟨hin, h⟩ := ck_some h
      obtain ⟨q_25, hq, h⟩ := bn_some h
      refine sv_X0_text hR dX0_put_25 hin hq ?_
      refine r_aload_n hR dX0_put_26 rfl 0 rfl ?_
      refine r_dup hR dX0_put_27 rfl ?_
      refine g_X0_length hR m_1_157 dX0_put_28 ?_
      refine r_iconst hR dX0_put_31 kc_iconst_1 ?_
      refine r_iadd hR dX0_put_32 ?_
      obtain ⟨q_33, hq, h⟩ := bn_some h
      refine p_X0_length hR m_1_157 dX0_put_33 hq ?_
      exact r_vret hR dX0_put_36 rfl (rtv hP h)
theorem c0_put {x1 : Int32} {q : SS} {q2 : SS} (h : f0_put x1 q = some q2) : Ct wC 1 yX0_put cX0_put 2 none (fun ad => [.ref (ad 5), .int x1]) q (fun _ => none) q2 :=
  ct_of (by decide) (fun _ => Nat.le_of_ble_eq_true rfl) (fun ad J hR => t0_put hR ⟨rfl, rfl⟩ x1 q h)
theorem t0_write_b118 (hR : Rl wC 4 RX0 cX0_write 9 (some .int) ad J P) (N : Nat) {r : Int32} {q2 : SS} (hP : P (some (.int r)) q2) (bk26 : Int64 → Int32 → Int32 → Int32 → SS → Option (Int32 × SS)) (hbk26 : ∀ (x3 : Int64) (x5 : Int32) (x6 : Int32) (x7 : Int32) (q : SS), bk26 x3 x5 x6 x7 q = some (r, q2) → J [(0, .ref (ad 5)), (3, .long x3), (5, .int x5), (6, .int x6), (7, .int x7)] [] q 26) (x3 : Int64) (x5 : Int32) (x6 : Int32) (x7 : Int32) (q : SS) (h : f0_write_b118 N bk26 x3 x5 x6 x7 q = some (r, q2)) : J [(0, .ref (ad 5)), (3, .long x3), (5, .int x5), (6, .int x6), (7, .int x7)] [] q 118 := by
  unfold f0_write_b118 at h
  obtain ⟨x7_118, hx, h⟩ := bn_some h
  refine r_iinc hR (i := 7) (lv' := [(7, .int x7_118), (0, .ref (ad 5)), (3, .long x3), (5, .int x5), (6, .int x6)]) dX0_write_118 4 rfl (inc_ok hx kc_iconst_m1) (by decide) rfl ?_
  refine r_goto hR (tgt := 26) dX0_write_121 (by decide) ?_
  exact r_sub hR [1, 2, 3, 4, 0] rfl (hbk26 _ _ _ _ _ h)
theorem t0_write_l87_B (hR : Rl wC 4 RX0 cX0_write 9 (some .int) ad J P) (N : Nat) {r : Int32} {q2 : SS} (hP : P (some (.int r)) q2) (bk26 : Int64 → Int32 → Int32 → Int32 → SS → Option (Int32 × SS)) (hbk26 : ∀ (x3 : Int64) (x5 : Int32) (x6 : Int32) (x7 : Int32) (q : SS), bk26 x3 x5 x6 x7 q = some (r, q2) → J [(0, .ref (ad 5)), (3, .long x3), (5, .int x5), (6, .int x6), (7, .int x7)] [] q 26) (bk87 : Int64 → Int32 → Int32 → Int32 → SS → Option (Int32 × SS)) (hbk87 : ∀ (x3 : Int64) (x5 : Int32) (x6 : Int32) (x7 : Int32) (q : SS), bk87 x3 x5 x6 x7 q = some (r, q2) → J [(0, .ref (ad 5)), (3, .long x3), (5, .int x5), (6, .int x6), (7, .int x7)] [] q 87) (x3 : Int64) (x5 : Int32) (x6 : Int32) (x7 : Int32) (q : SS) (h : f0_write_l87_B N bk26 bk87 x3 x5 x6 x7 q = some (r, q2)) : J [(0, .ref (ad 5)), (3, .long x3), (5, .int x5), (6, .int x6), (7, .int x7)] [] q 87 := by
  unfold f0_write_l87_B at h
  refine r_iload hR dX0_write_87 2 rfl ?_
  refine r_if_le hR (tgt := 118) dX0_write_89 (by decide) (fun c_89 => ?_) (fun c_89 => ?_)
  · replace h := it_t c_89 h
    exact r_sub hR [0, 1, 2, 3, 4] rfl (t0_write_b118 hR N hP bk26 hbk26 _ _ _ _ _ h)
  · replace h := it_f c_89 h
    refine r_iload hR dX0_write_92 3 rfl ?_
    refine r_iconst hR dX0_write_94 kc_iconst_1 ?_
    refine r_iand hR dX0_write_95 ?_
    refine r_iconst hR dX0_write_96 kc_iconst_1 ?_
    refine r_icmp_ne hR (tgt := 118) dX0_write_97 (by decide) (fun c_97 => ?_) (fun c_97 => ?_)
    · replace h := it_f c_97 h
      exact r_sub hR [0, 1, 2, 3, 4] rfl (t0_write_b118 hR N hP bk26 hbk26 _ _ _ _ _ h)
    · replace h := it_t c_97 h
      refine r_aload_n hR dX0_write_100 rfl 0 rfl ?_
      refine r_bipush hR dX0_write_101 kc_bipush_41 ?_
      obtain ⟨q_103, hc, h⟩ := bd_some h
      refine r_callVv hR (c0_put hc) (cf_X0_134 (by decide)) ⟨m_3_228, ms_3_0⟩ (As := [.int (41 : Int32)]) (q0 := 5) (ci := 0) rfl rfl rfl rfl (rc_X0 ad _) (Nat.le_of_ble_eq_true rfl) rfl dX0_write_103 ?_
      obtain ⟨x5_106, hx, h⟩ := bn_some h
      refine r_iinc hR (i := 5) (lv' := [(5, .int x5_106), (0, .ref (ad 5)), (3, .long x3), (6, .int x6), (7, .int x7)]) dX0_write_106 2 rfl (inc_ok hx kc_iconst_m1) (by decide) rfl ?_
      refine r_iload hR dX0_write_109 3 rfl ?_
      refine r_iconst hR dX0_write_111 kc_iconst_1 ?_
      refine r_ishr hR dX0_write_112 ?_
      obtain ⟨x6_113, hx, h⟩ := bn_some h
      refine r_istore hR (i := 6) (lv' := [(6, .int x6_113), (5, .int x5_106), (0, .ref (ad 5)), (3, .long x3), (7, .int x7)]) dX0_write_113 hx (by decide) rfl ?_
      refine r_goto hR (tgt := 87) dX0_write_115 (by decide) ?_
      exact r_sub hR [2, 3, 1, 0, 4] rfl (hbk87 _ _ _ _ _ h)
theorem t0_write_l87 (hR : Rl wC 4 RX0 cX0_write 9 (some .int) ad J P) (N : Nat) {r : Int32} {q2 : SS} (hP : P (some (.int r)) q2) (bk26 : Int64 → Int32 → Int32 → Int32 → SS → Option (Int32 × SS)) (hbk26 : ∀ (x3 : Int64) (x5 : Int32) (x6 : Int32) (x7 : Int32) (q : SS), bk26 x3 x5 x6 x7 q = some (r, q2) → J [(0, .ref (ad 5)), (3, .long x3), (5, .int x5), (6, .int x6), (7, .int x7)] [] q 26) : ∀ (n : Nat) (x3 : Int64) (x5 : Int32) (x6 : Int32) (x7 : Int32) (q : SS), f0_write_l87 N bk26 n x3 x5 x6 x7 q = some (r, q2) → J [(0, .ref (ad 5)), (3, .long x3), (5, .int x5), (6, .int x6), (7, .int x7)] [] q 87 := by
  intro n
  induction n with
  | zero => intro x3 x5 x6 x7 q h; exact mu_noneF h
  | succ n ih => intro x3 x5 x6 x7 q h; exact t0_write_l87_B hR N hP bk26 hbk26 _ ih x3 x5 x6 x7 q h
theorem t0_write_l26_B (hR : Rl wC 4 RX0 cX0_write 9 (some .int) ad J P) (N : Nat) {r : Int32} {q2 : SS} (hP : P (some (.int r)) q2) (bk26 : Int64 → Int32 → Int32 → Int32 → SS → Option (Int32 × SS)) (hbk26 : ∀ (x3 : Int64) (x5 : Int32) (x6 : Int32) (x7 : Int32) (q : SS), bk26 x3 x5 x6 x7 q = some (r, q2) → J [(0, .ref (ad 5)), (3, .long x3), (5, .int x5), (6, .int x6), (7, .int x7)] [] q 26) (x3 : Int64) (x5 : Int32) (x6 : Int32) (x7 : Int32) (q : SS) (h : f0_write_l26_B N bk26 x3 x5 x6 x7 q = some (r, q2)) : J [(0, .ref (ad 5)), (3, .long x3), (5, .int x5), (6, .int x6), (7, .int x7)] [] q 26 := by
  unfold f0_write_l26_B at h
  refine r_iload hR dX0_write_26 4 rfl ?_
  refine r_if_lt hR (tgt := 124) dX0_write_28 (by decide) (fun c_28 => ?_) (fun c_28 => ?_)
  · replace h := it_t c_28 h
    refine r_aload_n hR dX0_write_124 rfl 0 rfl ?_
    refine g_X0_length hR m_1_157 dX0_write_125 ?_
    exact r_iret hR dX0_write_128 rfl (rt2 hP h)
  · replace h := it_f c_28 h
    refine r_lload_n hR dX0_write_31 rfl 1 rfl ?_
    refine r_iconst hR dX0_write_32 kc_iconst_4 ?_
    refine r_iload hR dX0_write_33 4 rfl ?_
    refine r_imul hR dX0_write_35 ?_
    refine r_lushr hR dX0_write_36 ?_
    refine r_ldc2 hR dX0_write_37 m_3_222 ?_
    refine r_land hR dX0_write_40 ?_
    refine r_l2i hR dX0_write_41 ?_
    obtain ⟨x8_42, hx, h⟩ := bn_some h
    refine r_istore hR (i := 8) (lv' := [(8, .int x8_42), (0, .ref (ad 5)), (3, .long x3), (5, .int x5), (6, .int x6), (7, .int x7)]) dX0_write_42 hx (by decide) rfl ?_
    refine r_aload_n hR dX0_write_44 rfl 1 rfl ?_
    refine r_iload hR dX0_write_45 0 rfl ?_
    obtain ⟨r_47, hc, h⟩ := bd_some h
    refine r_callSi hR (c0_codeOf hc) (cf_X0_131 (by decide)) m_3_224 (As := [.int x8_42]) rfl rfl (Nat.le_of_ble_eq_true rfl) rfl dX0_write_47 ?_
    obtain ⟨q_50, hc, h⟩ := bd_some h
    refine r_callVv hR (c0_put hc) (cf_X0_134 (by decide)) ⟨m_3_228, ms_3_0⟩ (As := [.int r_47]) (q0 := 5) (ci := 0) rfl rfl rfl rfl (rc_X0 ad _) (Nat.le_of_ble_eq_true rfl) rfl dX0_write_50 ?_
    refine r_iload hR dX0_write_53 0 rfl ?_
    refine r_iconst hR dX0_write_55 kc_iconst_1 ?_
    refine r_icmp_ne hR (tgt := 71) dX0_write_56 (by decide) (fun c_56 => ?_) (fun c_56 => ?_)
    · replace h := it_f c_56 h
      refine r_iload hR dX0_write_71 0 rfl ?_
      refine r_bipush hR dX0_write_73 kc_bipush_8 ?_
      refine r_icmp_lt hR (tgt := 87) dX0_write_75 (by decide) (fun c_75 => ?_) (fun c_75 => ?_)
      · replace h := it_t c_75 h
        exact r_sub hR [1, 2, 3, 4, 5] rfl (t0_write_l87 hR N hP bk26 hbk26 N _ _ _ _ _ h)
      · replace h := it_f c_75 h
        refine r_iload hR dX0_write_78 4 rfl ?_
        refine r_iconst hR dX0_write_80 kc_iconst_1 ?_
        refine r_ior hR dX0_write_81 ?_
        obtain ⟨x6_82, hx, h⟩ := bn_some h
        refine r_istore hR (i := 6) (lv' := [(6, .int x6_82), (8, .int x8_42), (0, .ref (ad 5)), (3, .long x3), (5, .int x5), (7, .int x7)]) dX0_write_82 hx (by decide) rfl ?_
        refine r_goto hR (tgt := 118) dX0_write_84 (by decide) ?_
        exact r_sub hR [2, 3, 4, 0, 5] rfl (t0_write_b118 hR N hP bk26 hbk26 _ _ _ _ _ h)
    · replace h := it_t c_56 h
      obtain ⟨x5_59, hx, h⟩ := bn_some h
      refine r_iinc hR (i := 5) (lv' := [(5, .int x5_59), (8, .int x8_42), (0, .ref (ad 5)), (3, .long x3), (6, .int x6), (7, .int x7)]) dX0_write_59 3 rfl (inc_ok hx kc_iconst_1) (by decide) rfl ?_
      refine r_iload hR dX0_write_62 4 rfl ?_
      refine r_iconst hR dX0_write_64 kc_iconst_1 ?_
      refine r_ishl hR dX0_write_65 ?_
      obtain ⟨x6_66, hx, h⟩ := bn_some h
      refine r_istore hR (i := 6) (lv' := [(6, .int x6_66), (5, .int x5_59), (8, .int x8_42), (0, .ref (ad 5)), (3, .long x3), (7, .int x7)]) dX0_write_66 hx (by decide) rfl ?_
      refine r_goto hR (tgt := 118) dX0_write_68 (by decide) ?_
      exact r_sub hR [3, 4, 1, 0, 5] rfl (t0_write_b118 hR N hP bk26 hbk26 _ _ _ _ _ h)
theorem t0_write_l26 (hR : Rl wC 4 RX0 cX0_write 9 (some .int) ad J P) (N : Nat) {r : Int32} {q2 : SS} (hP : P (some (.int r)) q2) : ∀ (n : Nat) (x3 : Int64) (x5 : Int32) (x6 : Int32) (x7 : Int32) (q : SS), f0_write_l26 N n x3 x5 x6 x7 q = some (r, q2) → J [(0, .ref (ad 5)), (3, .long x3), (5, .int x5), (6, .int x6), (7, .int x7)] [] q 26 := by
  intro n
  induction n with
  | zero => intro x3 x5 x6 x7 q h; exact mu_noneF h
  | succ n ih => intro x3 x5 x6 x7 q h; exact t0_write_l26_B hR N hP _ ih x3 x5 x6 x7 q h
theorem t0_write (hR : Rl wC 4 RX0 cX0_write 9 (some .int) ad J P) (N : Nat) {r : Int32} {q2 : SS} (hP : P (some (.int r)) q2) (x1 : Int32) (x2 : Int32) (q : SS) (h : f0_write N x1 x2 q = some (r, q2)) : J [(0, .ref (ad 5)), (1, .int x1), (2, .int x2)] [] q 0 := by
  unfold f0_write at h
  refine r_aload_n hR dX0_write_0 rfl 0 rfl ?_
  refine r_iload_n hR dX0_write_1 rfl 1 rfl ?_
  refine r_iload_n hR dX0_write_2 rfl 2 rfl ?_
  obtain ⟨r_3, hc, h⟩ := bd_some h
  refine r_callVl hR (c0_keyFor hc) (cf_X0_107 (by decide)) ⟨m_3_211, ms_2_15⟩ (As := [.int x1, .int x2]) (q0 := 5) (ci := 0) rfl rfl rfl rfl (rc_X0 ad _) (Nat.le_of_ble_eq_true rfl) rfl dX0_write_3 ?_
  refine r_lstore_n hR (i := 3) (lv' := [(3, .long r_3), (0, .ref (ad 5)), (1, .int x1), (2, .int x2)]) dX0_write_6 rfl rfl (by decide) rfl ?_
  refine r_iconst hR dX0_write_7 kc_iconst_0 ?_
  refine r_istore hR (i := 5) (lv' := [(5, .int (0 : Int32)), (3, .long r_3), (0, .ref (ad 5)), (1, .int x1), (2, .int x2)]) dX0_write_8 rfl (by decide) rfl ?_
  refine r_iconst hR dX0_write_10 kc_iconst_0 ?_
  refine r_istore hR (i := 6) (lv' := [(6, .int (0 : Int32)), (5, .int (0 : Int32)), (3, .long r_3), (0, .ref (ad 5)), (1, .int x1), (2, .int x2)]) dX0_write_11 rfl (by decide) rfl ?_
  refine r_aload_n hR dX0_write_13 rfl 3 rfl ?_
  refine r_iconst hR dX0_write_14 kc_iconst_0 ?_
  obtain ⟨q_15, hq, h⟩ := bn_some h
  refine p_X0_length hR m_1_157 dX0_write_15 hq ?_
  refine r_iload_n hR dX0_write_18 rfl 4 rfl ?_
  obtain ⟨r_19, hc, h⟩ := bd_some h
  refine r_callSi hR (c0_keySigns hc) (cf_X0_111 (by decide)) m_3_188 (As := [.int x1]) rfl rfl (Nat.le_of_ble_eq_true rfl) rfl dX0_write_19 ?_
  refine r_iconst hR dX0_write_22 kc_iconst_1 ?_
  refine r_isub hR dX0_write_23 ?_
  obtain ⟨x7_24, hx, h⟩ := bn_some h
  refine r_istore hR (i := 7) (lv' := [(7, .int x7_24), (6, .int (0 : Int32)), (5, .int (0 : Int32)), (3, .long r_3), (0, .ref (ad 5)), (1, .int x1), (2, .int x2)]) dX0_write_24 hx (by decide) rfl ?_
  exact r_sub hR [4, 3, 2, 1, 0] rfl (t0_write_l26 hR N hP N _ _ _ _ _ h)
theorem c0_write (N : Nat) {x1 : Int32} {x2 : Int32} {q : SS} {r : Int32} {q2 : SS} (h : f0_write N x1 x2 q = some (r, q2)) : Ct wC 4 yX0_write cX0_write 9 (some .int) (fun ad => [.ref (ad 5), .int x1, .int x2]) q (fun _ => some (.int r)) q2 :=
  ct_of (by decide) (fun _ => Nat.le_of_ble_eq_true rfl) (fun ad J hR => t0_write hR N ⟨rfl, rfl⟩ x1 x2 q h)
theorem t0_signs (hR : Rl wC 1 RX0 cX0_signs 1 (some (.array .int)) ad J P) (q : SS) (hP : P (some (.ref (ad 26))) q) (h : f0_signs q = some ()) : J [(0, .ref (ad 5))] [] q 0 := by
  unfold f0_signs at h
  refine r_aload_n hR dX0_signs_0 rfl 0 rfl ?_
  refine g_X0_text hR m_1_156 dX0_signs_1 ?_
  exact r_aret hR dX0_signs_4 rfl hP
theorem c0_signs {q : SS} : Ct wC 1 yX0_signs cX0_signs 1 (some (.array .int)) (fun ad => [.ref (ad 5)]) q (fun ad => some (.ref (ad 26))) q :=
  ct_of (by decide) (fun _ => Nat.le_of_ble_eq_true rfl) (fun ad J hR => t0_signs hR q (hP := ⟨rfl, rfl⟩) rfl)
theorem t0_signAt (hR : Rl wC 1 RX0 cX0_signAt 2 (some .int) ad J P) (q : SS) {r : Int32} (hP : P (some (.int r)) q) (x1 : Int32) (h : f0_signAt q x1 = some r) : J [(0, .ref (ad 5)), (1, .int x1)] [] q 0 := by
  unfold f0_signAt at h
  refine r_iload_n hR dX0_signAt_0 rfl 1 rfl ?_
  refine r_if_lt hR (tgt := 21) dX0_signAt_1 (by decide) (fun c_1 => ?_) (fun c_1 => ?_)
  · replace h := it_t c_1 h
    refine r_iconst hR dX0_signAt_21 kc_iconst_m1 ?_
    exact r_iret hR dX0_signAt_22 rfl (rt1 hP h)
  · replace h := it_f c_1 h
    refine r_iload_n hR dX0_signAt_4 rfl 1 rfl ?_
    refine r_aload_n hR dX0_signAt_5 rfl 0 rfl ?_
    refine g_X0_length hR m_1_157 dX0_signAt_6 ?_
    refine r_icmp_ge hR (tgt := 21) dX0_signAt_9 (by decide) (fun c_9 => ?_) (fun c_9 => ?_)
    · replace h := it_t c_9 h
      refine r_iconst hR dX0_signAt_21 kc_iconst_m1 ?_
      exact r_iret hR dX0_signAt_22 rfl (rt1 hP h)
    · replace h := it_f c_9 h
      refine r_aload_n hR dX0_signAt_12 rfl 0 rfl ?_
      refine g_X0_text hR m_1_156 dX0_signAt_13 ?_
      refine r_iload_n hR dX0_signAt_16 rfl 1 rfl ?_
      obtain ⟨hin, h⟩ := ck_some h
      refine ld_X0_text hR dX0_signAt_17 hin ?_
      refine r_goto hR (tgt := 22) dX0_signAt_18 (by decide) ?_
      exact r_iret hR dX0_signAt_22 rfl (rt1 hP h)
theorem c0_signAt {x1 : Int32} {q : SS} {r : Int32} (h : f0_signAt q x1 = some r) : Ct wC 1 yX0_signAt cX0_signAt 2 (some .int) (fun ad => [.ref (ad 5), .int x1]) q (fun _ => some (.int r)) q :=
  ct_of (by decide) (fun _ => Nat.le_of_ble_eq_true rfl) (fun ad J hR => t0_signAt hR q ⟨rfl, rfl⟩ x1 h)
theorem tJ7_fill_v28_l5_B (hR : Rl wC 1 RJ7 cJ7_fill_53178 4 none ad J P) (N : Nat) {q2 : SS} (hP : P none q2) (bk5 : Int32 → Int32 → Int32 → SS → Option SS) (hbk5 : ∀ (x1 : Int32) (x2 : Int32) (x3 : Int32) (q : SS), bk5 x1 x2 x3 q = some q2 → J [(0, .ref (ad 28)), (1, .int x1), (2, .int x2), (3, .int x3)] [] q 5) (x1 : Int32) (x2 : Int32) (x3 : Int32) (q : SS) (h : fJ7_fill_v28_l5_B N bk5 x1 x2 x3 q = some q2) : J [(0, .ref (ad 28)), (1, .int x1), (2, .int x2), (3, .int x3)] [] q 5 := by
  unfold fJ7_fill_v28_l5_B at h
  refine r_iload_n hR dJ7_fill_53178_5 rfl 2 rfl ?_
  refine r_iload_n hR dJ7_fill_53178_6 rfl 3 rfl ?_
  refine r_icmp_ge hR (tgt := 20) dJ7_fill_53178_7 (by decide) (fun c_7 => ?_) (fun c_7 => ?_)
  · replace h := it_t c_7 h
    exact r_vret hR dJ7_fill_53178_20 rfl (rtv hP h)
  · replace h := it_f c_7 h
    refine r_aload_n hR dJ7_fill_53178_10 rfl 0 rfl ?_
    refine r_iload_n hR dJ7_fill_53178_11 rfl 2 rfl ?_
    refine r_iload_n hR dJ7_fill_53178_12 rfl 1 rfl ?_
    obtain ⟨hin, h⟩ := ck_some h
    obtain ⟨q_13, hq, h⟩ := bn_some h
    refine sv_X1_hooks hR dJ7_fill_53178_13 hin hq ?_
    obtain ⟨x2_14, hx, h⟩ := bn_some h
    refine r_iinc hR (i := 2) (lv' := [(2, .int x2_14), (0, .ref (ad 28)), (1, .int x1), (3, .int x3)]) dJ7_fill_53178_14 2 rfl (inc_ok hx kc_iconst_1) (by decide) rfl ?_
    refine r_goto hR (tgt := 5) dJ7_fill_53178_17 (by decide) ?_
    exact r_sub hR [1, 2, 0, 3] rfl (hbk5 _ _ _ _ h)
theorem tJ7_fill_v28_l5 (hR : Rl wC 1 RJ7 cJ7_fill_53178 4 none ad J P) (N : Nat) {q2 : SS} (hP : P none q2) : ∀ (n : Nat) (x1 : Int32) (x2 : Int32) (x3 : Int32) (q : SS), fJ7_fill_v28_l5 N n x1 x2 x3 q = some q2 → J [(0, .ref (ad 28)), (1, .int x1), (2, .int x2), (3, .int x3)] [] q 5 := by
  intro n
  induction n with
  | zero => intro x1 x2 x3 q h; exact mu_noneF h
  | succ n ih => intro x1 x2 x3 q h; exact tJ7_fill_v28_l5_B hR N hP _ ih x1 x2 x3 q h
theorem tJ7_fill_v28 (hR : Rl wC 1 RJ7 cJ7_fill_53178 4 none ad J P) (N : Nat) {q2 : SS} (hP : P none q2) (x1 : Int32) (q : SS) (h : fJ7_fill_v28 N x1 q = some q2) : J [(0, .ref (ad 28)), (1, .int x1)] [] q 0 := by
  unfold fJ7_fill_v28 at h
  refine r_iconst hR dJ7_fill_53178_0 kc_iconst_0 ?_
  refine r_istore_n hR (i := 2) (lv' := [(2, .int (0 : Int32)), (0, .ref (ad 28)), (1, .int x1)]) dJ7_fill_53178_1 rfl rfl (by decide) rfl ?_
  refine r_aload_n hR dJ7_fill_53178_2 rfl 1 rfl ?_
  refine al_X1_hooks hR dJ7_fill_53178_3 ?_
  refine r_istore_n hR (i := 3) (lv' := [(3, .int (6 : Int32)), (2, .int (0 : Int32)), (0, .ref (ad 28)), (1, .int x1)]) dJ7_fill_53178_4 rfl rfl (by decide) rfl ?_
  exact r_sub hR [2, 3, 1, 0] rfl (tJ7_fill_v28_l5 hR N hP N _ _ _ _ h)
theorem cJ7_fill_v28 (N : Nat) {x1 : Int32} {q : SS} {q2 : SS} (h : fJ7_fill_v28 N x1 q = some q2) : Ct wC 1 yJ7_fill_53178 cJ7_fill_53178 4 none (fun ad => [.ref (ad 28), .int x1]) q (fun _ => none) q2 :=
  ct_of (by decide) (fun _ => Nat.le_of_ble_eq_true rfl) (fun ad J hR => tJ7_fill_v28 hR N ⟨rfl, rfl⟩ x1 q h)
theorem t1_hookAmong_b67 (hR : Rl wC 2 RX1 cX1_hookAmong 6 (some .int) ad J P) (N : Nat) (q : SS) {r : Int32} (hP : P (some (.int r)) q) (bk30 : Int32 → Int32 → Int32 → Option Int32) (hbk30 : ∀ (x3 : Int32) (x4 : Int32) (x5 : Int32), bk30 x3 x4 x5 = some r → J [(0, .ref (ad 6)), (3, .int x3), (4, .int x4), (5, .int x5)] [] q 30) (x3 : Int32) (x4 : Int32) (x5 : Int32) (h : f1_hookAmong_b67 N q bk30 x3 x4 x5 = some r) : J [(0, .ref (ad 6)), (3, .int x3), (4, .int x4), (5, .int x5)] [] q 67 := by
  unfold f1_hookAmong_b67 at h
  obtain ⟨x5_67, hx, h⟩ := bn_some h
  refine r_iinc hR (i := 5) (lv' := [(5, .int x5_67), (0, .ref (ad 6)), (3, .int x3), (4, .int x4)]) dX1_hookAmong_67 3 rfl (inc_ok hx kc_iconst_1) (by decide) rfl ?_
  refine r_goto hR (tgt := 30) dX1_hookAmong_70 (by decide) ?_
  exact r_sub hR [1, 2, 3, 0] rfl (hbk30 _ _ _ h)
theorem t1_hookAmong_l30_B (hR : Rl wC 2 RX1 cX1_hookAmong 6 (some .int) ad J P) (N : Nat) (q : SS) {r : Int32} (hP : P (some (.int r)) q) (bk30 : Int32 → Int32 → Int32 → Option Int32) (hbk30 : ∀ (x3 : Int32) (x4 : Int32) (x5 : Int32), bk30 x3 x4 x5 = some r → J [(0, .ref (ad 6)), (3, .int x3), (4, .int x4), (5, .int x5)] [] q 30) (x3 : Int32) (x4 : Int32) (x5 : Int32) (h : f1_hookAmong_l30_B N q bk30 x3 x4 x5 = some r) : J [(0, .ref (ad 6)), (3, .int x3), (4, .int x4), (5, .int x5)] [] q 30 := by
  unfold f1_hookAmong_l30_B at h
  refine r_iload hR dX1_hookAmong_30 3 rfl ?_
  refine r_bipush hR dX1_hookAmong_32 kc_bipush_6 ?_
  refine r_icmp_ge hR (tgt := 73) dX1_hookAmong_34 (by decide) (fun c_34 => ?_) (fun c_34 => ?_)
  · replace h := it_t c_34 h
    refine r_iconst hR dX1_hookAmong_73 kc_iconst_m1 ?_
    exact r_iret hR dX1_hookAmong_74 rfl (rt1 hP h)
  · replace h := it_f c_34 h
    refine r_iload_n hR dX1_hookAmong_37 rfl 1 rfl ?_
    refine r_iload hR dX1_hookAmong_38 3 rfl ?_
    refine r_ishr hR dX1_hookAmong_40 ?_
    refine r_iconst hR dX1_hookAmong_41 kc_iconst_1 ?_
    refine r_iand hR dX1_hookAmong_42 ?_
    refine r_iconst hR dX1_hookAmong_43 kc_iconst_1 ?_
    refine r_icmp_ne hR (tgt := 67) dX1_hookAmong_44 (by decide) (fun c_44 => ?_) (fun c_44 => ?_)
    · replace h := it_f c_44 h
      exact r_sub hR [0, 1, 2, 3] rfl (t1_hookAmong_b67 hR N q hP bk30 hbk30 _ _ _ h)
    · replace h := it_t c_44 h
      refine r_iload hR dX1_hookAmong_47 2 rfl ?_
      refine r_aload_n hR dX1_hookAmong_49 rfl 0 rfl ?_
      refine g_X1_shelf hR m_1_182 dX1_hookAmong_50 ?_
      refine r_iload hR dX1_hookAmong_53 3 rfl ?_
      obtain ⟨r_55, hc, h⟩ := bd_some h
      refine r_callVi hR (c7_lettersOf hc) (cf_X1_43 (by decide)) ⟨m_2_6, m_2_7⟩ (As := [.int x5]) (q0 := 1) (ci := 5) rfl rfl rfl rfl (rc_X7 ad _) (Nat.le_of_ble_eq_true rfl) rfl dX1_hookAmong_55 ?_
      refine r_iconst hR dX1_hookAmong_58 kc_iconst_m1 ?_
      refine r_ixor hR dX1_hookAmong_59 ?_
      refine r_iand hR dX1_hookAmong_60 ?_
      refine r_if_ne hR (tgt := 67) dX1_hookAmong_61 (by decide) (fun c_61 => ?_) (fun c_61 => ?_)
      · replace h := it_f c_61 h
        exact r_sub hR [0, 1, 2, 3] rfl (t1_hookAmong_b67 hR N q hP bk30 hbk30 _ _ _ h)
      · replace h := it_t c_61 h
        refine r_iload hR dX1_hookAmong_64 3 rfl ?_
        exact r_iret hR dX1_hookAmong_66 rfl (rt1 hP h)
theorem t1_hookAmong_l30 (hR : Rl wC 2 RX1 cX1_hookAmong 6 (some .int) ad J P) (N : Nat) (q : SS) {r : Int32} (hP : P (some (.int r)) q) : ∀ (n : Nat) (x3 : Int32) (x4 : Int32) (x5 : Int32), f1_hookAmong_l30 N q n x3 x4 x5 = some r → J [(0, .ref (ad 6)), (3, .int x3), (4, .int x4), (5, .int x5)] [] q 30 := by
  intro n
  induction n with
  | zero => intro x3 x4 x5 h; exact mu_noneF h
  | succ n ih => intro x3 x4 x5 h; exact t1_hookAmong_l30_B hR N q hP _ ih x3 x4 x5 h
theorem t1_hookAmong (hR : Rl wC 2 RX1 cX1_hookAmong 6 (some .int) ad J P) (N : Nat) (q : SS) {r : Int32} (hP : P (some (.int r)) q) (x1 : Int32) (x2 : Int32) (h : f1_hookAmong N q x1 x2 = some r) : J [(0, .ref (ad 6)), (1, .int x1), (2, .int x2)] [] q 0 := by
  unfold f1_hookAmong at h
  refine r_iload_n hR dX1_hookAmong_0 rfl 1 rfl ?_
  refine r_iconst hR dX1_hookAmong_1 kc_iconst_1 ?_
  refine r_iload_n hR dX1_hookAmong_2 rfl 2 rfl ?_
  refine r_ishl hR dX1_hookAmong_3 ?_
  refine r_iconst hR dX1_hookAmong_4 kc_iconst_m1 ?_
  refine r_ixor hR dX1_hookAmong_5 ?_
  refine r_iand hR dX1_hookAmong_6 ?_
  obtain ⟨x3_7, hx, h⟩ := bn_some h
  refine r_istore_n hR (i := 3) (lv' := [(3, .int x3_7), (0, .ref (ad 6)), (1, .int x1), (2, .int x2)]) dX1_hookAmong_7 hx rfl (by decide) rfl ?_
  refine r_aload_n hR dX1_hookAmong_8 rfl 1 rfl ?_
  refine g_X1_shelf hR m_1_182 dX1_hookAmong_9 ?_
  refine r_iload_n hR dX1_hookAmong_12 rfl 3 rfl ?_
  obtain ⟨r_13, hc, h⟩ := bd_some h
  refine r_callVi hR (c7_lettersOf hc) (cf_X1_43 (by decide)) ⟨m_2_6, m_2_7⟩ (As := [.int x2]) (q0 := 1) (ci := 5) rfl rfl rfl rfl (rc_X7 ad _) (Nat.le_of_ble_eq_true rfl) rfl dX1_hookAmong_13 ?_
  refine r_aload_n hR dX1_hookAmong_16 rfl 1 rfl ?_
  refine g_X1_shelf hR m_1_182 dX1_hookAmong_17 ?_
  refine r_iload_n hR dX1_hookAmong_20 rfl 0 rfl ?_
  obtain ⟨r_21, hc, h⟩ := bd_some h
  refine r_callVi hR (c7_lettersOfSet N hc) (cf_X1_48 (by decide)) ⟨m_2_175, m_2_176⟩ (As := [.int x3_7]) (q0 := 1) (ci := 5) rfl rfl rfl rfl (rc_X7 ad _) (Nat.le_of_ble_eq_true rfl) rfl dX1_hookAmong_21 ?_
  refine r_iand hR dX1_hookAmong_24 ?_
  obtain ⟨x4_25, hx, h⟩ := bn_some h
  refine r_istore hR (i := 4) (lv' := [(4, .int x4_25), (3, .int x3_7), (0, .ref (ad 6)), (1, .int x1), (2, .int x2)]) dX1_hookAmong_25 hx (by decide) rfl ?_
  refine r_iconst hR dX1_hookAmong_27 kc_iconst_0 ?_
  refine r_istore hR (i := 5) (lv' := [(5, .int (0 : Int32)), (4, .int x4_25), (3, .int x3_7), (0, .ref (ad 6)), (1, .int x1), (2, .int x2)]) dX1_hookAmong_28 rfl (by decide) rfl ?_
  exact r_sub hR [3, 2, 1, 0] rfl (t1_hookAmong_l30 hR N q hP N _ _ _ h)
theorem c1_hookAmong (N : Nat) {x1 : Int32} {x2 : Int32} {q : SS} {r : Int32} (h : f1_hookAmong N q x1 x2 = some r) : Ct wC 2 yX1_hookAmong cX1_hookAmong 6 (some .int) (fun ad => [.ref (ad 6), .int x1, .int x2]) q (fun _ => some (.int r)) q :=
  ct_of (by decide) (fun _ => Nat.le_of_ble_eq_true rfl) (fun ad J hR => t1_hookAmong hR N q ⟨rfl, rfl⟩ x1 x2 h)
theorem t1_nextToGo_b46 (hR : Rl wC 3 RX1 cX1_nextToGo 4 (some .int) ad J P) (N : Nat) (q : SS) {r : Int32} (hP : P (some (.int r)) q) (bk2 : Int32 → Int32 → Option Int32) (hbk2 : ∀ (x1 : Int32) (x2 : Int32), bk2 x1 x2 = some r → J [(0, .ref (ad 6)), (1, .int x1), (2, .int x2)] [] q 2) (x1 : Int32) (x2 : Int32) (h : f1_nextToGo_b46 N q bk2 x1 x2 = some r) : J [(0, .ref (ad 6)), (1, .int x1), (2, .int x2)] [] q 46 := by
  unfold f1_nextToGo_b46 at h
  obtain ⟨x2_46, hx, h⟩ := bn_some h
  refine r_iinc hR (i := 2) (lv' := [(2, .int x2_46), (0, .ref (ad 6)), (1, .int x1)]) dX1_nextToGo_46 2 rfl (inc_ok hx kc_iconst_1) (by decide) rfl ?_
  refine r_goto hR (tgt := 2) dX1_nextToGo_49 (by decide) ?_
  exact r_sub hR [1, 2, 0] rfl (hbk2 _ _ h)
theorem t1_nextToGo_b22 (hR : Rl wC 3 RX1 cX1_nextToGo 4 (some .int) ad J P) (N : Nat) (q : SS) {r : Int32} (hP : P (some (.int r)) q) (bk2 : Int32 → Int32 → Option Int32) (hbk2 : ∀ (x1 : Int32) (x2 : Int32), bk2 x1 x2 = some r → J [(0, .ref (ad 6)), (1, .int x1), (2, .int x2)] [] q 2) (x1 : Int32) (x2 : Int32) (s0 : Int32) (h : f1_nextToGo_b22 N q bk2 x1 x2 s0 = some r) : J [(0, .ref (ad 6)), (1, .int x1), (2, .int x2)] [.int s0] q 22 := by
  unfold f1_nextToGo_b22 at h
  refine r_istore_n hR (i := 3) (lv' := [(3, .int s0), (0, .ref (ad 6)), (1, .int x1), (2, .int x2)]) dX1_nextToGo_22 rfl rfl (by decide) rfl ?_
  refine r_iload_n hR dX1_nextToGo_23 rfl 0 rfl ?_
  refine r_if_eq hR (tgt := 46) dX1_nextToGo_24 (by decide) (fun c_24 => ?_) (fun c_24 => ?_)
  · replace h := it_t c_24 h
    exact r_sub hR [1, 2, 3] rfl (t1_nextToGo_b46 hR N q hP bk2 hbk2 _ _ h)
  · replace h := it_f c_24 h
    refine r_iload_n hR dX1_nextToGo_27 rfl 2 rfl ?_
    refine r_iconst hR dX1_nextToGo_28 kc_iconst_1 ?_
    refine r_iload_n hR dX1_nextToGo_29 rfl 3 rfl ?_
    refine r_ishl hR dX1_nextToGo_30 ?_
    refine r_icmp_eq hR (tgt := 44) dX1_nextToGo_31 (by decide) (fun c_31 => ?_) (fun c_31 => ?_)
    · replace h := it_t c_31 h
      refine r_iload_n hR dX1_nextToGo_44 rfl 3 rfl ?_
      exact r_iret hR dX1_nextToGo_45 rfl (rt1 hP h)
    · replace h := it_f c_31 h
      refine r_aload_n hR dX1_nextToGo_34 rfl 1 rfl ?_
      refine r_iload_n hR dX1_nextToGo_35 rfl 2 rfl ?_
      refine r_iload_n hR dX1_nextToGo_36 rfl 3 rfl ?_
      obtain ⟨r_37, hc, h⟩ := bd_some h
      refine r_callVi hR (c1_hookAmong N hc) (cf_X1_39 (by decide)) ⟨m_4_17, ms_3_2⟩ (As := [.int x1, .int x2]) (q0 := 6) (ci := 1) rfl rfl rfl rfl (rc_X1 ad _) (Nat.le_of_ble_eq_true rfl) rfl dX1_nextToGo_37 ?_
      refine r_iconst hR dX1_nextToGo_40 kc_iconst_m1 ?_
      refine r_icmp_eq hR (tgt := 46) dX1_nextToGo_41 (by decide) (fun c_41 => ?_) (fun c_41 => ?_)
      · replace h := it_t c_41 h
        exact r_sub hR [1, 2, 3] rfl (t1_nextToGo_b46 hR N q hP bk2 hbk2 _ _ h)
      · replace h := it_f c_41 h
        refine r_iload_n hR dX1_nextToGo_44 rfl 3 rfl ?_
        exact r_iret hR dX1_nextToGo_45 rfl (rt1 hP h)
theorem t1_nextToGo_l2_B (hR : Rl wC 3 RX1 cX1_nextToGo 4 (some .int) ad J P) (N : Nat) (q : SS) {r : Int32} (hP : P (some (.int r)) q) (bk2 : Int32 → Int32 → Option Int32) (hbk2 : ∀ (x1 : Int32) (x2 : Int32), bk2 x1 x2 = some r → J [(0, .ref (ad 6)), (1, .int x1), (2, .int x2)] [] q 2) (x1 : Int32) (x2 : Int32) (h : f1_nextToGo_l2_B N q bk2 x1 x2 = some r) : J [(0, .ref (ad 6)), (1, .int x1), (2, .int x2)] [] q 2 := by
  unfold f1_nextToGo_l2_B at h
  refine r_iload_n hR dX1_nextToGo_2 rfl 2 rfl ?_
  refine r_bipush hR dX1_nextToGo_3 kc_bipush_6 ?_
  refine r_icmp_ge hR (tgt := 52) dX1_nextToGo_5 (by decide) (fun c_5 => ?_) (fun c_5 => ?_)
  · replace h := it_t c_5 h
    refine r_iconst hR dX1_nextToGo_52 kc_iconst_m1 ?_
    exact r_iret hR dX1_nextToGo_53 rfl (rt1 hP h)
  · replace h := it_f c_5 h
    refine r_iload_n hR dX1_nextToGo_8 rfl 1 rfl ?_
    refine r_iload_n hR dX1_nextToGo_9 rfl 2 rfl ?_
    refine r_ishr hR dX1_nextToGo_10 ?_
    refine r_iconst hR dX1_nextToGo_11 kc_iconst_1 ?_
    refine r_iand hR dX1_nextToGo_12 ?_
    refine r_iconst hR dX1_nextToGo_13 kc_iconst_1 ?_
    refine r_icmp_ne hR (tgt := 21) dX1_nextToGo_14 (by decide) (fun c_14 => ?_) (fun c_14 => ?_)
    · replace h := it_f c_14 h
      refine r_iconst hR dX1_nextToGo_21 kc_iconst_0 ?_
      exact r_sub hR [0, 1, 2] rfl (t1_nextToGo_b22 hR N q hP bk2 hbk2 _ _ _ h)
    · replace h := it_t c_14 h
      refine r_iconst hR dX1_nextToGo_17 kc_iconst_1 ?_
      refine r_goto hR (tgt := 22) dX1_nextToGo_18 (by decide) ?_
      exact r_sub hR [0, 1, 2] rfl (t1_nextToGo_b22 hR N q hP bk2 hbk2 _ _ _ h)
theorem t1_nextToGo_l2 (hR : Rl wC 3 RX1 cX1_nextToGo 4 (some .int) ad J P) (N : Nat) (q : SS) {r : Int32} (hP : P (some (.int r)) q) : ∀ (n : Nat) (x1 : Int32) (x2 : Int32), f1_nextToGo_l2 N q n x1 x2 = some r → J [(0, .ref (ad 6)), (1, .int x1), (2, .int x2)] [] q 2 := by
  intro n
  induction n with
  | zero => intro x1 x2 h; exact mu_noneF h
  | succ n ih => intro x1 x2 h; exact t1_nextToGo_l2_B hR N q hP _ ih x1 x2 h
theorem t1_nextToGo (hR : Rl wC 3 RX1 cX1_nextToGo 4 (some .int) ad J P) (N : Nat) (q : SS) {r : Int32} (hP : P (some (.int r)) q) (x1 : Int32) (h : f1_nextToGo N q x1 = some r) : J [(0, .ref (ad 6)), (1, .int x1)] [] q 0 := by
  unfold f1_nextToGo at h
  refine r_iconst hR dX1_nextToGo_0 kc_iconst_0 ?_
  refine r_istore_n hR (i := 2) (lv' := [(2, .int (0 : Int32)), (0, .ref (ad 6)), (1, .int x1)]) dX1_nextToGo_1 rfl rfl (by decide) rfl ?_
  exact r_sub hR [1, 2, 0] rfl (t1_nextToGo_l2 hR N q hP N _ _ h)
theorem c1_nextToGo (N : Nat) {x1 : Int32} {q : SS} {r : Int32} (h : f1_nextToGo N q x1 = some r) : Ct wC 3 yX1_nextToGo cX1_nextToGo 4 (some .int) (fun ad => [.ref (ad 6), .int x1]) q (fun _ => some (.int r)) q :=
  ct_of (by decide) (fun _ => Nat.le_of_ble_eq_true rfl) (fun ad J hR => t1_nextToGo hR N q ⟨rfl, rfl⟩ x1 h)
theorem t1_takeAway_b86 (hR : Rl wC 4 RX1 cX1_takeAway 5 (some .boolean) ad J P) (N : Nat) {r : Int32} {q2 : SS} (hP : P (some (.int r)) q2) (x2 : Int32) (q : SS) (h : f1_takeAway_b86 N x2 q = some (r, q2)) : J [(2, .int x2)] [] q 86 := by
  unfold f1_takeAway_b86 at h
  refine r_iload_n hR dX1_takeAway_86 rfl 0 rfl ?_
  refine r_if_ne hR (tgt := 94) dX1_takeAway_87 (by decide) (fun c_87 => ?_) (fun c_87 => ?_)
  · replace h := it_f c_87 h
    refine r_iconst hR dX1_takeAway_94 kc_iconst_0 ?_
    exact r_zret hR dX1_takeAway_95 rfl (Or.inl rfl) (rt2 hP h)
  · replace h := it_t c_87 h
    refine r_iconst hR dX1_takeAway_90 kc_iconst_1 ?_
    refine r_goto hR (tgt := 95) dX1_takeAway_91 (by decide) ?_
    exact r_zret hR dX1_takeAway_95 rfl (Or.inr rfl) (rt2 hP h)
theorem t1_takeAway_l17_B (hR : Rl wC 4 RX1 cX1_takeAway 5 (some .boolean) ad J P) (N : Nat) {r : Int32} {q2 : SS} (hP : P (some (.int r)) q2) (bk17 : Int32 → Int32 → SS → Option (Int32 × SS)) (hbk17 : ∀ (x2 : Int32) (x3 : Int32) (q : SS), bk17 x2 x3 q = some (r, q2) → J [(0, .ref (ad 6)), (2, .int x2), (3, .int x3)] [] q 17) (x2 : Int32) (x3 : Int32) (q : SS) (h : f1_takeAway_l17_B N bk17 x2 x3 q = some (r, q2)) : J [(0, .ref (ad 6)), (2, .int x2), (3, .int x3)] [] q 17 := by
  unfold f1_takeAway_l17_B at h
  refine r_iload_n hR dX1_takeAway_17 rfl 2 rfl ?_
  refine r_bipush hR dX1_takeAway_18 kc_bipush_6 ?_
  refine r_icmp_ge hR (tgt := 86) dX1_takeAway_20 (by decide) (fun c_20 => ?_) (fun c_20 => ?_)
  · replace h := it_t c_20 h
    exact r_sub hR [1] rfl (t1_takeAway_b86 hR N hP _ _ h)
  · replace h := it_f c_20 h
    refine r_iload_n hR dX1_takeAway_23 rfl 1 rfl ?_
    refine r_if_eq hR (tgt := 86) dX1_takeAway_24 (by decide) (fun c_24 => ?_) (fun c_24 => ?_)
    · replace h := it_t c_24 h
      exact r_sub hR [1] rfl (t1_takeAway_b86 hR N hP _ _ h)
    · replace h := it_f c_24 h
      refine r_aload_n hR dX1_takeAway_27 rfl 0 rfl ?_
      refine r_iload_n hR dX1_takeAway_28 rfl 1 rfl ?_
      obtain ⟨r_29, hc, h⟩ := bd_some h
      refine r_callVi hR (c1_nextToGo N hc) (cf_X1_35 (by decide)) ⟨m_4_13, ms_3_1⟩ (As := [.int x2]) (q0 := 6) (ci := 1) rfl rfl rfl rfl (rc_X1 ad _) (Nat.le_of_ble_eq_true rfl) rfl dX1_takeAway_29 ?_
      refine r_istore hR (i := 4) (lv' := [(4, .int r_29), (0, .ref (ad 6)), (2, .int x2), (3, .int x3)]) dX1_takeAway_32 rfl (by decide) rfl ?_
      refine r_iload hR dX1_takeAway_34 0 rfl ?_
      refine r_iconst hR dX1_takeAway_36 kc_iconst_m1 ?_
      refine r_icmp_ne hR (tgt := 42) dX1_takeAway_37 (by decide) (fun c_37 => ?_) (fun c_37 => ?_)
      · replace h := it_f c_37 h
        refine r_aload_n hR dX1_takeAway_42 rfl 1 rfl ?_
        refine g_X1_order hR m_1_183 dX1_takeAway_43 ?_
        refine r_iload_n hR dX1_takeAway_46 rfl 3 rfl ?_
        refine r_iload hR dX1_takeAway_47 0 rfl ?_
        obtain ⟨hin, h⟩ := ck_some h
        obtain ⟨q_49, hq, h⟩ := bn_some h
        refine sv_X1_order hR dX1_takeAway_49 hin hq ?_
        refine r_aload_n hR dX1_takeAway_50 rfl 1 rfl ?_
        refine g_X1_hooks hR m_1_184 dX1_takeAway_51 ?_
        refine r_iload hR dX1_takeAway_54 0 rfl ?_
        refine r_aload_n hR dX1_takeAway_56 rfl 1 rfl ?_
        refine r_iload_n hR dX1_takeAway_57 rfl 2 rfl ?_
        refine r_iload hR dX1_takeAway_58 0 rfl ?_
        obtain ⟨r_60, hc, h⟩ := bd_some h
        refine r_callVi hR (c1_hookAmong N hc) (cf_X1_39 (by decide)) ⟨m_4_17, ms_3_2⟩ (As := [.int x2, .int r_29]) (q0 := 6) (ci := 1) rfl rfl rfl rfl (rc_X1 ad _) (Nat.le_of_ble_eq_true rfl) rfl dX1_takeAway_60 ?_
        obtain ⟨hin, h⟩ := ck_some h
        obtain ⟨q_63, hq, h⟩ := bn_some h
        refine sv_X1_hooks hR dX1_takeAway_63 hin hq ?_
        refine r_aload_n hR dX1_takeAway_64 rfl 1 rfl ?_
        refine r_iload_n hR dX1_takeAway_65 rfl 3 rfl ?_
        refine r_iconst hR dX1_takeAway_66 kc_iconst_1 ?_
        refine r_iadd hR dX1_takeAway_67 ?_
        obtain ⟨q_68, hq, h⟩ := bn_some h
        refine p_X1_gone hR m_1_186 dX1_takeAway_68 hq ?_
        refine r_iload_n hR dX1_takeAway_71 rfl 2 rfl ?_
        refine r_iconst hR dX1_takeAway_72 kc_iconst_1 ?_
        refine r_iload hR dX1_takeAway_73 0 rfl ?_
        refine r_ishl hR dX1_takeAway_75 ?_
        refine r_iconst hR dX1_takeAway_76 kc_iconst_m1 ?_
        refine r_ixor hR dX1_takeAway_77 ?_
        refine r_iand hR dX1_takeAway_78 ?_
        obtain ⟨x2_79, hx, h⟩ := bn_some h
        refine r_istore_n hR (i := 2) (lv' := [(2, .int x2_79), (4, .int r_29), (0, .ref (ad 6)), (3, .int x3)]) dX1_takeAway_79 hx rfl (by decide) rfl ?_
        obtain ⟨x3_80, hx, h⟩ := bn_some h
        refine r_iinc hR (i := 3) (lv' := [(3, .int x3_80), (2, .int x2_79), (4, .int r_29), (0, .ref (ad 6))]) dX1_takeAway_80 3 rfl (inc_ok hx kc_iconst_1) (by decide) rfl ?_
        refine r_goto hR (tgt := 17) dX1_takeAway_83 (by decide) ?_
        exact r_sub hR [3, 1, 0] rfl (hbk17 _ _ _ h)
      · replace h := it_t c_37 h
        refine r_iconst hR dX1_takeAway_40 kc_iconst_0 ?_
        exact r_zret hR dX1_takeAway_41 rfl (Or.inl rfl) (rt2 hP h)
theorem t1_takeAway_l17 (hR : Rl wC 4 RX1 cX1_takeAway 5 (some .boolean) ad J P) (N : Nat) {r : Int32} {q2 : SS} (hP : P (some (.int r)) q2) : ∀ (n : Nat) (x2 : Int32) (x3 : Int32) (q : SS), f1_takeAway_l17 N n x2 x3 q = some (r, q2) → J [(0, .ref (ad 6)), (2, .int x2), (3, .int x3)] [] q 17 := by
  intro n
  induction n with
  | zero => intro x2 x3 q h; exact mu_noneF h
  | succ n ih => intro x2 x3 q h; exact t1_takeAway_l17_B hR N hP _ ih x2 x3 q h
theorem t1_takeAway (hR : Rl wC 4 RX1 cX1_takeAway 5 (some .boolean) ad J P) (N : Nat) {r : Int32} {q2 : SS} (hP : P (some (.int r)) q2) (x1 : Int32) (q : SS) (h : f1_takeAway N x1 q = some (r, q2)) : J [(0, .ref (ad 6)), (1, .int x1)] [] q 0 := by
  unfold f1_takeAway at h
  refine r_aload_n hR dX1_takeAway_0 rfl 0 rfl ?_
  refine r_iconst hR dX1_takeAway_1 kc_iconst_0 ?_
  obtain ⟨q_2, hq, h⟩ := bn_some h
  refine p_X1_gone hR m_1_186 dX1_takeAway_2 hq ?_
  refine r_aload_n hR dX1_takeAway_5 rfl 0 rfl ?_
  refine g_X1_hooks hR m_1_184 dX1_takeAway_6 ?_
  refine r_iconst hR dX1_takeAway_9 kc_iconst_m1 ?_
  obtain ⟨q_10, hc, h⟩ := bd_some h
  refine r_callSv hR (cJ7_fill_v28 N hc) (cf_X1_29 (by decide)) m_2_164 (As := [.ref (ad 28), .int (-1 : Int32)]) rfl rfl (Nat.le_of_ble_eq_true rfl) rfl dX1_takeAway_10 ?_
  refine r_iload_n hR dX1_takeAway_13 rfl 1 rfl ?_
  refine r_istore_n hR (i := 2) (lv' := [(2, .int x1), (0, .ref (ad 6)), (1, .int x1)]) dX1_takeAway_14 rfl rfl (by decide) rfl ?_
  refine r_iconst hR dX1_takeAway_15 kc_iconst_0 ?_
  refine r_istore_n hR (i := 3) (lv' := [(3, .int (0 : Int32)), (2, .int x1), (0, .ref (ad 6)), (1, .int x1)]) dX1_takeAway_16 rfl rfl (by decide) rfl ?_
  exact r_sub hR [2, 1, 0] rfl (t1_takeAway_l17 hR N hP N _ _ _ h)
theorem c1_takeAway (N : Nat) {x1 : Int32} {q : SS} {r : Int32} {q2 : SS} (h : f1_takeAway N x1 q = some (r, q2)) : Ct wC 4 yX1_takeAway cX1_takeAway 5 (some .boolean) (fun ad => [.ref (ad 6), .int x1]) q (fun _ => some (.int r)) q2 :=
  ct_of (by decide) (fun _ => Nat.le_of_ble_eq_true rfl) (fun ad J hR => t1_takeAway hR N ⟨rfl, rfl⟩ x1 q h)
theorem t1_goneAt (hR : Rl wC 1 RX1 cX1_goneAt 2 (some .int) ad J P) (q : SS) {r : Int32} (hP : P (some (.int r)) q) (x1 : Int32) (h : f1_goneAt q x1 = some r) : J [(0, .ref (ad 6)), (1, .int x1)] [] q 0 := by
  unfold f1_goneAt at h
  refine r_iload_n hR dX1_goneAt_0 rfl 1 rfl ?_
  refine r_if_lt hR (tgt := 21) dX1_goneAt_1 (by decide) (fun c_1 => ?_) (fun c_1 => ?_)
  · replace h := it_t c_1 h
    refine r_iconst hR dX1_goneAt_21 kc_iconst_m1 ?_
    exact r_iret hR dX1_goneAt_22 rfl (rt1 hP h)
  · replace h := it_f c_1 h
    refine r_iload_n hR dX1_goneAt_4 rfl 1 rfl ?_
    refine r_aload_n hR dX1_goneAt_5 rfl 0 rfl ?_
    refine g_X1_gone hR m_1_186 dX1_goneAt_6 ?_
    refine r_icmp_ge hR (tgt := 21) dX1_goneAt_9 (by decide) (fun c_9 => ?_) (fun c_9 => ?_)
    · replace h := it_t c_9 h
      refine r_iconst hR dX1_goneAt_21 kc_iconst_m1 ?_
      exact r_iret hR dX1_goneAt_22 rfl (rt1 hP h)
    · replace h := it_f c_9 h
      refine r_aload_n hR dX1_goneAt_12 rfl 0 rfl ?_
      refine g_X1_order hR m_1_183 dX1_goneAt_13 ?_
      refine r_iload_n hR dX1_goneAt_16 rfl 1 rfl ?_
      obtain ⟨hin, h⟩ := ck_some h
      refine ld_X1_order hR dX1_goneAt_17 hin ?_
      refine r_goto hR (tgt := 22) dX1_goneAt_18 (by decide) ?_
      exact r_iret hR dX1_goneAt_22 rfl (rt1 hP h)
theorem c1_goneAt {x1 : Int32} {q : SS} {r : Int32} (h : f1_goneAt q x1 = some r) : Ct wC 1 yX1_goneAt cX1_goneAt 2 (some .int) (fun ad => [.ref (ad 6), .int x1]) q (fun _ => some (.int r)) q :=
  ct_of (by decide) (fun _ => Nat.le_of_ble_eq_true rfl) (fun ad J hR => t1_goneAt hR q ⟨rfl, rfl⟩ x1 h)
theorem t1_hookOf (hR : Rl wC 1 RX1 cX1_hookOf 2 (some .int) ad J P) (q : SS) {r : Int32} (hP : P (some (.int r)) q) (x1 : Int32) (h : f1_hookOf q x1 = some r) : J [(0, .ref (ad 6)), (1, .int x1)] [] q 0 := by
  unfold f1_hookOf at h
  refine r_iload_n hR dX1_hookOf_0 rfl 1 rfl ?_
  refine r_if_lt hR (tgt := 19) dX1_hookOf_1 (by decide) (fun c_1 => ?_) (fun c_1 => ?_)
  · replace h := it_t c_1 h
    refine r_iconst hR dX1_hookOf_19 kc_iconst_m1 ?_
    exact r_iret hR dX1_hookOf_20 rfl (rt1 hP h)
  · replace h := it_f c_1 h
    refine r_iload_n hR dX1_hookOf_4 rfl 1 rfl ?_
    refine r_bipush hR dX1_hookOf_5 kc_bipush_6 ?_
    refine r_icmp_ge hR (tgt := 19) dX1_hookOf_7 (by decide) (fun c_7 => ?_) (fun c_7 => ?_)
    · replace h := it_t c_7 h
      refine r_iconst hR dX1_hookOf_19 kc_iconst_m1 ?_
      exact r_iret hR dX1_hookOf_20 rfl (rt1 hP h)
    · replace h := it_f c_7 h
      refine r_aload_n hR dX1_hookOf_10 rfl 0 rfl ?_
      refine g_X1_hooks hR m_1_184 dX1_hookOf_11 ?_
      refine r_iload_n hR dX1_hookOf_14 rfl 1 rfl ?_
      obtain ⟨hin, h⟩ := ck_some h
      refine ld_X1_hooks hR dX1_hookOf_15 hin ?_
      refine r_goto hR (tgt := 20) dX1_hookOf_16 (by decide) ?_
      exact r_iret hR dX1_hookOf_20 rfl (rt1 hP h)
theorem c1_hookOf {x1 : Int32} {q : SS} {r : Int32} (h : f1_hookOf q x1 = some r) : Ct wC 1 yX1_hookOf cX1_hookOf 2 (some .int) (fun ad => [.ref (ad 6), .int x1]) q (fun _ => some (.int r)) q :=
  ct_of (by decide) (fun _ => Nat.le_of_ble_eq_true rfl) (fun ad J hR => t1_hookOf hR q ⟨rfl, rfl⟩ x1 h)
theorem t1_fitsSome_b56 (hR : Rl wC 2 RX1 cX1_fitsSome 6 (some .boolean) ad J P) (N : Nat) (q : SS) {r : Int32} (hP : P (some (.int r)) q) (bk3 : Int32 → Int32 → Int32 → Int32 → Option Int32) (hbk3 : ∀ (x1 : Int32) (x2 : Int32) (x3 : Int32) (x4 : Int32), bk3 x1 x2 x3 x4 = some r → J [(0, .ref (ad 6)), (1, .int x1), (2, .int x2), (3, .int x3), (4, .int x4)] [] q 3) (x1 : Int32) (x2 : Int32) (x3 : Int32) (x4 : Int32) (h : f1_fitsSome_b56 N q bk3 x1 x2 x3 x4 = some r) : J [(0, .ref (ad 6)), (1, .int x1), (2, .int x2), (3, .int x3), (4, .int x4)] [] q 56 := by
  unfold f1_fitsSome_b56 at h
  obtain ⟨x4_56, hx, h⟩ := bn_some h
  refine r_iinc hR (i := 4) (lv' := [(4, .int x4_56), (0, .ref (ad 6)), (1, .int x1), (2, .int x2), (3, .int x3)]) dX1_fitsSome_56 4 rfl (inc_ok hx kc_iconst_1) (by decide) rfl ?_
  refine r_goto hR (tgt := 3) dX1_fitsSome_59 (by decide) ?_
  exact r_sub hR [1, 2, 3, 4, 0] rfl (hbk3 _ _ _ _ h)
theorem t1_fitsSome_b30 (hR : Rl wC 2 RX1 cX1_fitsSome 6 (some .boolean) ad J P) (N : Nat) (q : SS) {r : Int32} (hP : P (some (.int r)) q) (bk3 : Int32 → Int32 → Int32 → Int32 → Option Int32) (hbk3 : ∀ (x1 : Int32) (x2 : Int32) (x3 : Int32) (x4 : Int32), bk3 x1 x2 x3 x4 = some r → J [(0, .ref (ad 6)), (1, .int x1), (2, .int x2), (3, .int x3), (4, .int x4)] [] q 3) (x1 : Int32) (x2 : Int32) (x3 : Int32) (x4 : Int32) (s0 : Int32) (h : f1_fitsSome_b30 N q bk3 x1 x2 x3 x4 s0 = some r) : J [(0, .ref (ad 6)), (1, .int x1), (2, .int x2), (3, .int x3), (4, .int x4)] [.int s0] q 30 := by
  unfold f1_fitsSome_b30 at h
  refine r_istore hR (i := 5) (lv' := [(5, .int s0), (0, .ref (ad 6)), (1, .int x1), (2, .int x2), (3, .int x3), (4, .int x4)]) dX1_fitsSome_30 rfl (by decide) rfl ?_
  refine r_iload hR dX1_fitsSome_32 0 rfl ?_
  refine r_if_eq hR (tgt := 56) dX1_fitsSome_34 (by decide) (fun c_34 => ?_) (fun c_34 => ?_)
  · replace h := it_t c_34 h
    exact r_sub hR [1, 2, 3, 4, 5] rfl (t1_fitsSome_b56 hR N q hP bk3 hbk3 _ _ _ _ h)
  · replace h := it_f c_34 h
    refine r_iload_n hR dX1_fitsSome_37 rfl 2 rfl ?_
    refine r_aload_n hR dX1_fitsSome_38 rfl 1 rfl ?_
    refine g_X1_shelf hR m_1_182 dX1_fitsSome_39 ?_
    refine r_iload_n hR dX1_fitsSome_42 rfl 3 rfl ?_
    refine r_iload hR dX1_fitsSome_43 5 rfl ?_
    obtain ⟨r_45, hc, h⟩ := bd_some h
    refine r_callVi hR (c7_codeAt hc) (cf_X1_76 (by decide)) ⟨m_2_72, m_2_73⟩ (As := [.int x2, .int x4]) (q0 := 1) (ci := 5) rfl rfl rfl rfl (rc_X7 ad _) (Nat.le_of_ble_eq_true rfl) rfl dX1_fitsSome_45 ?_
    refine r_ixor hR dX1_fitsSome_48 ?_
    refine r_iload_n hR dX1_fitsSome_49 rfl 4 rfl ?_
    refine r_iand hR dX1_fitsSome_50 ?_
    refine r_if_ne hR (tgt := 56) dX1_fitsSome_51 (by decide) (fun c_51 => ?_) (fun c_51 => ?_)
    · replace h := it_f c_51 h
      exact r_sub hR [1, 2, 3, 4, 5] rfl (t1_fitsSome_b56 hR N q hP bk3 hbk3 _ _ _ _ h)
    · replace h := it_t c_51 h
      refine r_iconst hR dX1_fitsSome_54 kc_iconst_1 ?_
      exact r_zret hR dX1_fitsSome_55 rfl (Or.inr rfl) (rt1 hP h)
theorem t1_fitsSome_l3_B (hR : Rl wC 2 RX1 cX1_fitsSome 6 (some .boolean) ad J P) (N : Nat) (q : SS) {r : Int32} (hP : P (some (.int r)) q) (bk3 : Int32 → Int32 → Int32 → Int32 → Option Int32) (hbk3 : ∀ (x1 : Int32) (x2 : Int32) (x3 : Int32) (x4 : Int32), bk3 x1 x2 x3 x4 = some r → J [(0, .ref (ad 6)), (1, .int x1), (2, .int x2), (3, .int x3), (4, .int x4)] [] q 3) (x1 : Int32) (x2 : Int32) (x3 : Int32) (x4 : Int32) (h : f1_fitsSome_l3_B N q bk3 x1 x2 x3 x4 = some r) : J [(0, .ref (ad 6)), (1, .int x1), (2, .int x2), (3, .int x3), (4, .int x4)] [] q 3 := by
  unfold f1_fitsSome_l3_B at h
  refine r_iload hR dX1_fitsSome_3 4 rfl ?_
  refine r_bipush hR dX1_fitsSome_5 kc_bipush_8 ?_
  refine r_icmp_ge hR (tgt := 62) dX1_fitsSome_7 (by decide) (fun c_7 => ?_) (fun c_7 => ?_)
  · replace h := it_t c_7 h
    refine r_iconst hR dX1_fitsSome_62 kc_iconst_0 ?_
    exact r_zret hR dX1_fitsSome_63 rfl (Or.inl rfl) (rt1 hP h)
  · replace h := it_f c_7 h
    refine r_aload_n hR dX1_fitsSome_10 rfl 0 rfl ?_
    refine g_X1_rowBits hR m_1_185 dX1_fitsSome_11 ?_
    refine r_iload_n hR dX1_fitsSome_14 rfl 2 rfl ?_
    obtain ⟨hin, h⟩ := ck_some h
    refine ld_X1_rowBits hR dX1_fitsSome_15 hin ?_
    refine r_iload hR dX1_fitsSome_16 4 rfl ?_
    refine r_ishr hR dX1_fitsSome_18 ?_
    refine r_iconst hR dX1_fitsSome_19 kc_iconst_1 ?_
    refine r_iand hR dX1_fitsSome_20 ?_
    refine r_iconst hR dX1_fitsSome_21 kc_iconst_1 ?_
    refine r_icmp_ne hR (tgt := 29) dX1_fitsSome_22 (by decide) (fun c_22 => ?_) (fun c_22 => ?_)
    · replace h := it_f c_22 h
      refine r_iconst hR dX1_fitsSome_29 kc_iconst_0 ?_
      exact r_sub hR [0, 1, 2, 3, 4] rfl (t1_fitsSome_b30 hR N q hP bk3 hbk3 _ _ _ _ _ h)
    · replace h := it_t c_22 h
      refine r_iconst hR dX1_fitsSome_25 kc_iconst_1 ?_
      refine r_goto hR (tgt := 30) dX1_fitsSome_26 (by decide) ?_
      exact r_sub hR [0, 1, 2, 3, 4] rfl (t1_fitsSome_b30 hR N q hP bk3 hbk3 _ _ _ _ _ h)
theorem t1_fitsSome_l3 (hR : Rl wC 2 RX1 cX1_fitsSome 6 (some .boolean) ad J P) (N : Nat) (q : SS) {r : Int32} (hP : P (some (.int r)) q) : ∀ (n : Nat) (x1 : Int32) (x2 : Int32) (x3 : Int32) (x4 : Int32), f1_fitsSome_l3 N q n x1 x2 x3 x4 = some r → J [(0, .ref (ad 6)), (1, .int x1), (2, .int x2), (3, .int x3), (4, .int x4)] [] q 3 := by
  intro n
  induction n with
  | zero => intro x1 x2 x3 x4 h; exact mu_noneF h
  | succ n ih => intro x1 x2 x3 x4 h; exact t1_fitsSome_l3_B hR N q hP _ ih x1 x2 x3 x4 h
theorem t1_fitsSome (hR : Rl wC 2 RX1 cX1_fitsSome 6 (some .boolean) ad J P) (N : Nat) (q : SS) {r : Int32} (hP : P (some (.int r)) q) (x1 : Int32) (x2 : Int32) (x3 : Int32) (h : f1_fitsSome N q x1 x2 x3 = some r) : J [(0, .ref (ad 6)), (1, .int x1), (2, .int x2), (3, .int x3)] [] q 0 := by
  unfold f1_fitsSome at h
  refine r_iconst hR dX1_fitsSome_0 kc_iconst_0 ?_
  refine r_istore hR (i := 4) (lv' := [(4, .int (0 : Int32)), (0, .ref (ad 6)), (1, .int x1), (2, .int x2), (3, .int x3)]) dX1_fitsSome_1 rfl (by decide) rfl ?_
  exact r_sub hR [1, 2, 3, 4, 0] rfl (t1_fitsSome_l3 hR N q hP N _ _ _ _ h)
theorem c1_fitsSome (N : Nat) {x1 : Int32} {x2 : Int32} {x3 : Int32} {q : SS} {r : Int32} (h : f1_fitsSome N q x1 x2 x3 = some r) : Ct wC 2 yX1_fitsSome cX1_fitsSome 6 (some .boolean) (fun ad => [.ref (ad 6), .int x1, .int x2, .int x3]) q (fun _ => some (.int r)) q :=
  ct_of (by decide) (fun _ => Nat.le_of_ble_eq_true rfl) (fun ad J hR => t1_fitsSome hR N q ⟨rfl, rfl⟩ x1 x2 x3 h)
theorem t7_holds (hR : Rl wC 1 RX7 cX7_holds 2 (some .boolean) ad J P) (q : SS) {r : Int32} (hP : P (some (.int r)) q) (x1 : Int32) (h : f7_holds q x1 = some r) : J [(0, .ref (ad 1)), (1, .int x1)] [] q 0 := by
  unfold f7_holds at h
  refine r_iload_n hR dX7_holds_0 rfl 1 rfl ?_
  refine r_if_lt hR (tgt := 16) dX7_holds_1 (by decide) (fun c_1 => ?_) (fun c_1 => ?_)
  · replace h := it_t c_1 h
    refine r_iconst hR dX7_holds_16 kc_iconst_0 ?_
    exact r_zret hR dX7_holds_17 rfl (Or.inl rfl) (rt1 hP h)
  · replace h := it_f c_1 h
    refine r_iload_n hR dX7_holds_4 rfl 1 rfl ?_
    refine r_aload_n hR dX7_holds_5 rfl 0 rfl ?_
    refine g_X7_made hR m_1_33 dX7_holds_6 ?_
    refine r_icmp_ge hR (tgt := 16) dX7_holds_9 (by decide) (fun c_9 => ?_) (fun c_9 => ?_)
    · replace h := it_t c_9 h
      refine r_iconst hR dX7_holds_16 kc_iconst_0 ?_
      exact r_zret hR dX7_holds_17 rfl (Or.inl rfl) (rt1 hP h)
    · replace h := it_f c_9 h
      refine r_iconst hR dX7_holds_12 kc_iconst_1 ?_
      refine r_goto hR (tgt := 17) dX7_holds_13 (by decide) ?_
      exact r_zret hR dX7_holds_17 rfl (Or.inr rfl) (rt1 hP h)
theorem c7_holds {x1 : Int32} {q : SS} {r : Int32} (h : f7_holds q x1 = some r) : Ct wC 1 yX7_holds cX7_holds 2 (some .boolean) (fun ad => [.ref (ad 1), .int x1]) q (fun _ => some (.int r)) q :=
  ct_of (by decide) (fun _ => Nat.le_of_ble_eq_true rfl) (fun ad J hR => t7_holds hR q ⟨rfl, rfl⟩ x1 h)
theorem t1_cut_b125 (hR : Rl wC 3 RX1 cX1_cut 6 none ad J P) (N : Nat) {q2 : SS} (hP : P none q2) (bk47 : Int32 → Int32 → Int32 → Int32 → SS → Option SS) (hbk47 : ∀ (x1 : Int32) (x2 : Int32) (x3 : Int32) (x4 : Int32) (q : SS), bk47 x1 x2 x3 x4 q = some q2 → J [(0, .ref (ad 6)), (1, .int x1), (2, .int x2), (3, .int x3), (4, .int x4)] [] q 47) (x1 : Int32) (x2 : Int32) (x3 : Int32) (x4 : Int32) (q : SS) (h : f1_cut_b125 N bk47 x1 x2 x3 x4 q = some q2) : J [(0, .ref (ad 6)), (1, .int x1), (2, .int x2), (3, .int x3), (4, .int x4)] [] q 125 := by
  unfold f1_cut_b125 at h
  obtain ⟨x4_125, hx, h⟩ := bn_some h
  refine r_iinc hR (i := 4) (lv' := [(4, .int x4_125), (0, .ref (ad 6)), (1, .int x1), (2, .int x2), (3, .int x3)]) dX1_cut_125 4 rfl (inc_ok hx kc_iconst_1) (by decide) rfl ?_
  refine r_goto hR (tgt := 47) dX1_cut_128 (by decide) ?_
  exact r_sub hR [1, 2, 3, 4, 0] rfl (hbk47 _ _ _ _ _ h)
theorem t1_cut_b74 (hR : Rl wC 3 RX1 cX1_cut 6 none ad J P) (N : Nat) {q2 : SS} (hP : P none q2) (bk47 : Int32 → Int32 → Int32 → Int32 → SS → Option SS) (hbk47 : ∀ (x1 : Int32) (x2 : Int32) (x3 : Int32) (x4 : Int32) (q : SS), bk47 x1 x2 x3 x4 q = some q2 → J [(0, .ref (ad 6)), (1, .int x1), (2, .int x2), (3, .int x3), (4, .int x4)] [] q 47) (x1 : Int32) (x2 : Int32) (x3 : Int32) (x4 : Int32) (s0 : Int32) (q : SS) (h : f1_cut_b74 N bk47 x1 x2 x3 x4 s0 q = some q2) : J [(0, .ref (ad 6)), (1, .int x1), (2, .int x2), (3, .int x3), (4, .int x4)] [.int s0] q 74 := by
  unfold f1_cut_b74 at h
  refine r_istore hR (i := 5) (lv' := [(5, .int s0), (0, .ref (ad 6)), (1, .int x1), (2, .int x2), (3, .int x3), (4, .int x4)]) dX1_cut_74 rfl (by decide) rfl ?_
  refine r_iload hR dX1_cut_76 0 rfl ?_
  refine r_if_eq hR (tgt := 125) dX1_cut_78 (by decide) (fun c_78 => ?_) (fun c_78 => ?_)
  · replace h := it_t c_78 h
    exact r_sub hR [1, 2, 3, 4, 5] rfl (t1_cut_b125 hR N hP bk47 hbk47 _ _ _ _ _ h)
  · replace h := it_f c_78 h
    refine r_aload_n hR dX1_cut_81 rfl 1 rfl ?_
    refine r_aload_n hR dX1_cut_82 rfl 1 rfl ?_
    refine g_X1_shelf hR m_1_182 dX1_cut_83 ?_
    refine r_iload_n hR dX1_cut_86 rfl 2 rfl ?_
    refine r_iload hR dX1_cut_87 5 rfl ?_
    obtain ⟨r_89, hc, h⟩ := bd_some h
    refine r_callVi hR (c7_codeAt hc) (cf_X1_76 (by decide)) ⟨m_2_72, m_2_73⟩ (As := [.int x1, .int x4]) (q0 := 1) (ci := 5) rfl rfl rfl rfl (rc_X7 ad _) (Nat.le_of_ble_eq_true rfl) rfl dX1_cut_89 ?_
    refine r_iload_n hR dX1_cut_92 rfl 3 rfl ?_
    refine r_iload_n hR dX1_cut_93 rfl 4 rfl ?_
    obtain ⟨r_94, hc, h⟩ := bd_some h
    refine r_callVi hR (c1_fitsSome N hc) (cf_X1_79 (by decide)) ⟨m_4_57, ms_3_4⟩ (As := [.int r_89, .int x2, .int x3]) (q0 := 6) (ci := 1) rfl rfl rfl rfl (rc_X1 ad _) (Nat.le_of_ble_eq_true rfl) rfl dX1_cut_94 ?_
    refine r_if_ne hR (tgt := 125) dX1_cut_97 (by decide) (fun c_97 => ?_) (fun c_97 => ?_)
    · replace h := it_f c_97 h
      exact r_sub hR [1, 2, 3, 4, 5] rfl (t1_cut_b125 hR N hP bk47 hbk47 _ _ _ _ _ h)
    · replace h := it_t c_97 h
      refine r_aload_n hR dX1_cut_100 rfl 1 rfl ?_
      refine g_X1_rowBits hR m_1_185 dX1_cut_101 ?_
      refine r_iload_n hR dX1_cut_104 rfl 2 rfl ?_
      refine r_dup2 hR dX1_cut_105 rfl rfl ?_
      obtain ⟨hin, h⟩ := ck_some h
      refine ld_X1_rowBits hR dX1_cut_106 hin ?_
      refine r_iconst hR dX1_cut_107 kc_iconst_1 ?_
      refine r_iload hR dX1_cut_108 5 rfl ?_
      refine r_ishl hR dX1_cut_110 ?_
      refine r_iconst hR dX1_cut_111 kc_iconst_m1 ?_
      refine r_ixor hR dX1_cut_112 ?_
      refine r_iand hR dX1_cut_113 ?_
      obtain ⟨hin, h⟩ := ck_some h
      obtain ⟨q_114, hq, h⟩ := bn_some h
      refine sv_X1_rowBits hR dX1_cut_114 hin hq ?_
      refine r_aload_n hR dX1_cut_115 rfl 1 rfl ?_
      refine r_dup hR dX1_cut_116 rfl ?_
      refine g_X1_cutRows hR m_1_187 dX1_cut_117 ?_
      refine r_iconst hR dX1_cut_120 kc_iconst_1 ?_
      refine r_iadd hR dX1_cut_121 ?_
      obtain ⟨q_122, hq, h⟩ := bn_some h
      refine p_X1_cutRows hR m_1_187 dX1_cut_122 hq ?_
      exact r_sub hR [1, 2, 3, 4, 5] rfl (t1_cut_b125 hR N hP bk47 hbk47 _ _ _ _ _ h)
theorem t1_cut_l47_B (hR : Rl wC 3 RX1 cX1_cut 6 none ad J P) (N : Nat) {q2 : SS} (hP : P none q2) (bk47 : Int32 → Int32 → Int32 → Int32 → SS → Option SS) (hbk47 : ∀ (x1 : Int32) (x2 : Int32) (x3 : Int32) (x4 : Int32) (q : SS), bk47 x1 x2 x3 x4 q = some q2 → J [(0, .ref (ad 6)), (1, .int x1), (2, .int x2), (3, .int x3), (4, .int x4)] [] q 47) (x1 : Int32) (x2 : Int32) (x3 : Int32) (x4 : Int32) (q : SS) (h : f1_cut_l47_B N bk47 x1 x2 x3 x4 q = some q2) : J [(0, .ref (ad 6)), (1, .int x1), (2, .int x2), (3, .int x3), (4, .int x4)] [] q 47 := by
  unfold f1_cut_l47_B at h
  refine r_iload hR dX1_cut_47 4 rfl ?_
  refine r_bipush hR dX1_cut_49 kc_bipush_8 ?_
  refine r_icmp_ge hR (tgt := 131) dX1_cut_51 (by decide) (fun c_51 => ?_) (fun c_51 => ?_)
  · replace h := it_t c_51 h
    exact r_vret hR dX1_cut_131 rfl (rtv hP h)
  · replace h := it_f c_51 h
    refine r_aload_n hR dX1_cut_54 rfl 0 rfl ?_
    refine g_X1_rowBits hR m_1_185 dX1_cut_55 ?_
    refine r_iload_n hR dX1_cut_58 rfl 1 rfl ?_
    obtain ⟨hin, h⟩ := ck_some h
    refine ld_X1_rowBits hR dX1_cut_59 hin ?_
    refine r_iload hR dX1_cut_60 4 rfl ?_
    refine r_ishr hR dX1_cut_62 ?_
    refine r_iconst hR dX1_cut_63 kc_iconst_1 ?_
    refine r_iand hR dX1_cut_64 ?_
    refine r_iconst hR dX1_cut_65 kc_iconst_1 ?_
    refine r_icmp_ne hR (tgt := 73) dX1_cut_66 (by decide) (fun c_66 => ?_) (fun c_66 => ?_)
    · replace h := it_f c_66 h
      refine r_iconst hR dX1_cut_73 kc_iconst_0 ?_
      exact r_sub hR [0, 1, 2, 3, 4] rfl (t1_cut_b74 hR N hP bk47 hbk47 _ _ _ _ _ _ h)
    · replace h := it_t c_66 h
      refine r_iconst hR dX1_cut_69 kc_iconst_1 ?_
      refine r_goto hR (tgt := 74) dX1_cut_70 (by decide) ?_
      exact r_sub hR [0, 1, 2, 3, 4] rfl (t1_cut_b74 hR N hP bk47 hbk47 _ _ _ _ _ _ h)
theorem t1_cut_l47 (hR : Rl wC 3 RX1 cX1_cut 6 none ad J P) (N : Nat) {q2 : SS} (hP : P none q2) : ∀ (n : Nat) (x1 : Int32) (x2 : Int32) (x3 : Int32) (x4 : Int32) (q : SS), f1_cut_l47 N n x1 x2 x3 x4 q = some q2 → J [(0, .ref (ad 6)), (1, .int x1), (2, .int x2), (3, .int x3), (4, .int x4)] [] q 47 := by
  intro n
  induction n with
  | zero => intro x1 x2 x3 x4 q h; exact mu_noneF h
  | succ n ih => intro x1 x2 x3 x4 q h; exact t1_cut_l47_B hR N hP _ ih x1 x2 x3 x4 q h
theorem t1_cut (hR : Rl wC 3 RX1 cX1_cut 6 none ad J P) (N : Nat) {q2 : SS} (hP : P none q2) (x1 : Int32) (x2 : Int32) (q : SS) (h : f1_cut N x1 x2 q = some q2) : J [(0, .ref (ad 6)), (1, .int x1), (2, .int x2)] [] q 0 := by
  unfold f1_cut at h
  refine r_aload_n hR dX1_cut_0 rfl 0 rfl ?_
  refine g_X1_shelf hR m_1_182 dX1_cut_1 ?_
  refine r_iload_n hR dX1_cut_4 rfl 1 rfl ?_
  obtain ⟨r_5, hc, h⟩ := bd_some h
  refine r_callVi hR (c7_holds hc) (cf_X1_68 (by decide)) ⟨m_2_2, m_2_3⟩ (As := [.int x1]) (q0 := 1) (ci := 5) rfl rfl rfl rfl (rc_X7 ad _) (Nat.le_of_ble_eq_true rfl) rfl dX1_cut_5 ?_
  refine r_if_eq hR (tgt := 22) dX1_cut_8 (by decide) (fun c_8 => ?_) (fun c_8 => ?_)
  · replace h := it_t c_8 h
    exact r_vret hR dX1_cut_22 rfl (rtv hP h)
  · replace h := it_f c_8 h
    refine r_aload_n hR dX1_cut_11 rfl 0 rfl ?_
    refine g_X1_shelf hR m_1_182 dX1_cut_12 ?_
    refine r_iload_n hR dX1_cut_15 rfl 2 rfl ?_
    obtain ⟨r_16, hc, h⟩ := bd_some h
    refine r_callVi hR (c7_holds hc) (cf_X1_68 (by decide)) ⟨m_2_2, m_2_3⟩ (As := [.int x2]) (q0 := 1) (ci := 5) rfl rfl rfl rfl (rc_X7 ad _) (Nat.le_of_ble_eq_true rfl) rfl dX1_cut_16 ?_
    refine r_if_ne hR (tgt := 23) dX1_cut_19 (by decide) (fun c_19 => ?_) (fun c_19 => ?_)
    · replace h := it_f c_19 h
      refine r_aload_n hR dX1_cut_23 rfl 0 rfl ?_
      refine g_X1_shelf hR m_1_182 dX1_cut_24 ?_
      refine r_iload_n hR dX1_cut_27 rfl 1 rfl ?_
      obtain ⟨r_28, hc, h⟩ := bd_some h
      refine r_callVi hR (c7_lettersOf hc) (cf_X1_43 (by decide)) ⟨m_2_6, m_2_7⟩ (As := [.int x1]) (q0 := 1) (ci := 5) rfl rfl rfl rfl (rc_X7 ad _) (Nat.le_of_ble_eq_true rfl) rfl dX1_cut_28 ?_
      refine r_aload_n hR dX1_cut_31 rfl 0 rfl ?_
      refine g_X1_shelf hR m_1_182 dX1_cut_32 ?_
      refine r_iload_n hR dX1_cut_35 rfl 2 rfl ?_
      obtain ⟨r_36, hc, h⟩ := bd_some h
      refine r_callVi hR (c7_lettersOf hc) (cf_X1_43 (by decide)) ⟨m_2_6, m_2_7⟩ (As := [.int x2]) (q0 := 1) (ci := 5) rfl rfl rfl rfl (rc_X7 ad _) (Nat.le_of_ble_eq_true rfl) rfl dX1_cut_36 ?_
      refine r_iand hR dX1_cut_39 ?_
      obtain ⟨r_40, hc, h⟩ := bd_some h
      refine r_callSi hR (c4_maskOf N hc) (cf_X1_71 (by decide)) m_2_172 (As := [.int (r_28 &&& r_36)]) rfl rfl (Nat.le_of_ble_eq_true rfl) rfl dX1_cut_40 ?_
      refine r_istore_n hR (i := 3) (lv' := [(3, .int r_40), (0, .ref (ad 6)), (1, .int x1), (2, .int x2)]) dX1_cut_43 rfl rfl (by decide) rfl ?_
      refine r_iconst hR dX1_cut_44 kc_iconst_0 ?_
      refine r_istore hR (i := 4) (lv' := [(4, .int (0 : Int32)), (3, .int r_40), (0, .ref (ad 6)), (1, .int x1), (2, .int x2)]) dX1_cut_45 rfl (by decide) rfl ?_
      exact r_sub hR [2, 3, 4, 1, 0] rfl (t1_cut_l47 hR N hP N _ _ _ _ _ h)
    · replace h := it_t c_19 h
      exact r_vret hR dX1_cut_22 rfl (rtv hP h)
theorem c1_cut (N : Nat) {x1 : Int32} {x2 : Int32} {q : SS} {q2 : SS} (h : f1_cut N x1 x2 q = some q2) : Ct wC 3 yX1_cut cX1_cut 6 none (fun ad => [.ref (ad 6), .int x1, .int x2]) q (fun _ => none) q2 :=
  ct_of (by decide) (fun _ => Nat.le_of_ble_eq_true rfl) (fun ad J hR => t1_cut hR N ⟨rfl, rfl⟩ x1 x2 q h)
end
