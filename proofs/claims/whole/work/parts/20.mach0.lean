section
variable {ad : Nat → Nat} {J : JT} {P : PT} {ld : Nat}
theorem tJ6_bitCount (hR : Rl wC 1 RJ6 cJ6_bitCount_0f7a4 1 (some .int) ad J P) {q : SS} {r : Int32} (hP : P (some (.int r)) q) (x0 : Int32) (h : fJ6_bitCount x0 = some r) : J [(0, .int x0)] [] q 0 := by
  unfold fJ6_bitCount at h
  refine r_iload_n hR dJ6_bitCount_0f7a4_0 rfl 0 rfl ?_
  refine r_iload_n hR dJ6_bitCount_0f7a4_1 rfl 0 rfl ?_
  refine r_iconst hR dJ6_bitCount_0f7a4_2 kc_iconst_1 ?_
  refine r_iushr hR dJ6_bitCount_0f7a4_3 ?_
  refine r_ldcw hR dJ6_bitCount_0f7a4_4 m_1_230 ?_
  refine r_iand hR dJ6_bitCount_0f7a4_7 ?_
  refine r_isub hR dJ6_bitCount_0f7a4_8 ?_
  obtain ⟨x0_9, hx, h⟩ := bn_some h
  refine r_istore_n hR (i := 0) (lv' := [(0, .int x0_9)]) dJ6_bitCount_0f7a4_9 hx rfl (by decide) rfl ?_
  refine r_iload_n hR dJ6_bitCount_0f7a4_10 rfl 0 rfl ?_
  refine r_ldcw hR dJ6_bitCount_0f7a4_11 m_1_231 ?_
  refine r_iand hR dJ6_bitCount_0f7a4_14 ?_
  refine r_iload_n hR dJ6_bitCount_0f7a4_15 rfl 0 rfl ?_
  refine r_iconst hR dJ6_bitCount_0f7a4_16 kc_iconst_2 ?_
  refine r_iushr hR dJ6_bitCount_0f7a4_17 ?_
  refine r_ldcw hR dJ6_bitCount_0f7a4_18 m_1_231 ?_
  refine r_iand hR dJ6_bitCount_0f7a4_21 ?_
  refine r_iadd hR dJ6_bitCount_0f7a4_22 ?_
  obtain ⟨x0_23, hx, h⟩ := bn_some h
  refine r_istore_n hR (i := 0) (lv' := [(0, .int x0_23)]) dJ6_bitCount_0f7a4_23 hx rfl (by decide) rfl ?_
  refine r_iload_n hR dJ6_bitCount_0f7a4_24 rfl 0 rfl ?_
  refine r_iload_n hR dJ6_bitCount_0f7a4_25 rfl 0 rfl ?_
  refine r_iconst hR dJ6_bitCount_0f7a4_26 kc_iconst_4 ?_
  refine r_iushr hR dJ6_bitCount_0f7a4_27 ?_
  refine r_iadd hR dJ6_bitCount_0f7a4_28 ?_
  refine r_ldcw hR dJ6_bitCount_0f7a4_29 m_1_232 ?_
  refine r_iand hR dJ6_bitCount_0f7a4_32 ?_
  obtain ⟨x0_33, hx, h⟩ := bn_some h
  refine r_istore_n hR (i := 0) (lv' := [(0, .int x0_33)]) dJ6_bitCount_0f7a4_33 hx rfl (by decide) rfl ?_
  refine r_iload_n hR dJ6_bitCount_0f7a4_34 rfl 0 rfl ?_
  refine r_iload_n hR dJ6_bitCount_0f7a4_35 rfl 0 rfl ?_
  refine r_bipush hR dJ6_bitCount_0f7a4_36 kc_bipush_8 ?_
  refine r_iushr hR dJ6_bitCount_0f7a4_38 ?_
  refine r_iadd hR dJ6_bitCount_0f7a4_39 ?_
  obtain ⟨x0_40, hx, h⟩ := bn_some h
  refine r_istore_n hR (i := 0) (lv' := [(0, .int x0_40)]) dJ6_bitCount_0f7a4_40 hx rfl (by decide) rfl ?_
  refine r_iload_n hR dJ6_bitCount_0f7a4_41 rfl 0 rfl ?_
  refine r_iload_n hR dJ6_bitCount_0f7a4_42 rfl 0 rfl ?_
  refine r_bipush hR dJ6_bitCount_0f7a4_43 kc_bipush_16 ?_
  refine r_iushr hR dJ6_bitCount_0f7a4_45 ?_
  refine r_iadd hR dJ6_bitCount_0f7a4_46 ?_
  obtain ⟨x0_47, hx, h⟩ := bn_some h
  refine r_istore_n hR (i := 0) (lv' := [(0, .int x0_47)]) dJ6_bitCount_0f7a4_47 hx rfl (by decide) rfl ?_
  refine r_iload_n hR dJ6_bitCount_0f7a4_48 rfl 0 rfl ?_
  refine r_bipush hR dJ6_bitCount_0f7a4_49 kc_bipush_63 ?_
  refine r_iand hR dJ6_bitCount_0f7a4_51 ?_
  exact r_iret hR dJ6_bitCount_0f7a4_52 rfl (rt1 hP h)
theorem cJ6_bitCount {x0 : Int32} {q : SS} {r : Int32} (h : fJ6_bitCount x0 = some r) : Ct wC 1 yJ6_bitCount_0f7a4 cJ6_bitCount_0f7a4 1 (some .int) (fun ad => [.int x0]) q (fun _ => some (.int r)) q :=
  ct_of (by decide) (fun _ => Nat.le_of_ble_eq_true rfl) (fun ad J hR => tJ6_bitCount hR ⟨rfl, rfl⟩ x0 h)
theorem t0_forget_l2_B (hR : Rl wC 1 RX0 cX0_forget 3 none ad J P) (N : Nat) {q2 : SS} (hP : P none q2) (bk2 : Int32 → Int32 → SS → Option SS) (hbk2 : ∀ (x1 : Int32) (x2 : Int32) (q : SS), bk2 x1 x2 q = some q2 → J [(0, .ref (ad 5)), (1, .int x1), (2, .int x2)] [] q 2) (x1 : Int32) (x2 : Int32) (q : SS) (h : f0_forget_l2_B N bk2 x1 x2 q = some q2) : J [(0, .ref (ad 5)), (1, .int x1), (2, .int x2)] [] q 2 := by
  unfold f0_forget_l2_B at h
  refine r_iload_n hR dX0_forget_2 rfl 2 rfl ?_
  refine r_bipush hR dX0_forget_3 kc_bipush_9 ?_
  refine r_icmp_ge hR (tgt := 26) dX0_forget_5 (by decide) (fun c_5 => ?_) (fun c_5 => ?_)
  · replace h := it_t c_5 h
    exact r_vret hR dX0_forget_26 rfl (rtv hP h)
  · replace h := it_f c_5 h
    refine r_aload_n hR dX0_forget_8 rfl 0 rfl ?_
    refine g_X0_costs hR m_1_152 dX0_forget_9 ?_
    refine r_iload_n hR dX0_forget_12 rfl 1 rfl ?_
    refine r_bipush hR dX0_forget_13 kc_bipush_9 ?_
    refine r_imul hR dX0_forget_15 ?_
    refine r_iload_n hR dX0_forget_16 rfl 2 rfl ?_
    refine r_iadd hR dX0_forget_17 ?_
    refine r_iconst hR dX0_forget_18 kc_iconst_m1 ?_
    obtain ⟨hin, h⟩ := ck_some h
    obtain ⟨q_19, hq, h⟩ := bn_some h
    refine sv_X0_costs hR dX0_forget_19 hin hq ?_
    obtain ⟨x2_20, hx, h⟩ := bn_some h
    refine r_iinc hR (i := 2) (lv' := [(2, .int x2_20), (0, .ref (ad 5)), (1, .int x1)]) dX0_forget_20 2 rfl (inc_ok hx kc_iconst_1) (by decide) rfl ?_
    refine r_goto hR (tgt := 2) dX0_forget_23 (by decide) ?_
    exact r_sub hR [1, 2, 0] rfl (hbk2 _ _ _ h)
theorem t0_forget_l2 (hR : Rl wC 1 RX0 cX0_forget 3 none ad J P) (N : Nat) {q2 : SS} (hP : P none q2) : ∀ (n : Nat) (x1 : Int32) (x2 : Int32) (q : SS), f0_forget_l2 N n x1 x2 q = some q2 → J [(0, .ref (ad 5)), (1, .int x1), (2, .int x2)] [] q 2 := by
  intro n
  induction n with
  | zero => intro x1 x2 q h; exact mu_noneF h
  | succ n ih => intro x1 x2 q h; exact t0_forget_l2_B hR N hP _ ih x1 x2 q h
theorem t0_forget (hR : Rl wC 1 RX0 cX0_forget 3 none ad J P) (N : Nat) {q2 : SS} (hP : P none q2) (x1 : Int32) (q : SS) (h : f0_forget N x1 q = some q2) : J [(0, .ref (ad 5)), (1, .int x1)] [] q 0 := by
  unfold f0_forget at h
  refine r_iconst hR dX0_forget_0 kc_iconst_0 ?_
  refine r_istore_n hR (i := 2) (lv' := [(2, .int (0 : Int32)), (0, .ref (ad 5)), (1, .int x1)]) dX0_forget_1 rfl rfl (by decide) rfl ?_
  exact r_sub hR [1, 2, 0] rfl (t0_forget_l2 hR N hP N _ _ _ h)
theorem c0_forget (N : Nat) {x1 : Int32} {q : SS} {q2 : SS} (h : f0_forget N x1 q = some q2) : Ct wC 1 yX0_forget cX0_forget 3 none (fun ad => [.ref (ad 5), .int x1]) q (fun _ => none) q2 :=
  ct_of (by decide) (fun _ => Nat.le_of_ble_eq_true rfl) (fun ad J hR => t0_forget hR N ⟨rfl, rfl⟩ x1 q h)
theorem tJ6_numberOfTrailingZeros_b74 (hR : Rl wC 1 RJ6 cJ6_numberOfTrailingZeros_0f7a4 2 (some .int) ad J P) {q : SS} {r : Int32} (hP : P (some (.int r)) q) (x0 : Int32) (x1 : Int32) (h : fJ6_numberOfTrailingZeros_b74 x0 x1 = some r) : J [(0, .int x0), (1, .int x1)] [] q 74 := by
  unfold fJ6_numberOfTrailingZeros_b74 at h
  refine r_iload_n hR dJ6_numberOfTrailingZeros_0f7a4_74 rfl 1 rfl ?_
  refine r_iload_n hR dJ6_numberOfTrailingZeros_0f7a4_75 rfl 0 rfl ?_
  refine r_iconst hR dJ6_numberOfTrailingZeros_0f7a4_76 kc_iconst_1 ?_
  refine r_iushr hR dJ6_numberOfTrailingZeros_0f7a4_77 ?_
  refine r_iadd hR dJ6_numberOfTrailingZeros_0f7a4_78 ?_
  exact r_iret hR dJ6_numberOfTrailingZeros_0f7a4_79 rfl (rt1 hP h)
theorem tJ6_numberOfTrailingZeros_b62 (hR : Rl wC 1 RJ6 cJ6_numberOfTrailingZeros_0f7a4 2 (some .int) ad J P) {q : SS} {r : Int32} (hP : P (some (.int r)) q) (x0 : Int32) (x1 : Int32) (h : fJ6_numberOfTrailingZeros_b62 x0 x1 = some r) : J [(0, .int x0), (1, .int x1)] [] q 62 := by
  unfold fJ6_numberOfTrailingZeros_b62 at h
  refine r_iload_n hR dJ6_numberOfTrailingZeros_0f7a4_62 rfl 0 rfl ?_
  refine r_iconst hR dJ6_numberOfTrailingZeros_0f7a4_63 kc_iconst_4 ?_
  refine r_icmp_le hR (tgt := 74) dJ6_numberOfTrailingZeros_0f7a4_64 (by decide) (fun c_64 => ?_) (fun c_64 => ?_)
  · replace h := it_t c_64 h
    exact r_sub hR [0, 1] rfl (tJ6_numberOfTrailingZeros_b74 hR hP _ _ h)
  · replace h := it_f c_64 h
    obtain ⟨x1_67, hx, h⟩ := bn_some h
    refine r_iinc hR (i := 1) (lv' := [(1, .int x1_67), (0, .int x0)]) dJ6_numberOfTrailingZeros_0f7a4_67 1 rfl (inc_ok hx kc_iconst_2) (by decide) rfl ?_
    refine r_iload_n hR dJ6_numberOfTrailingZeros_0f7a4_70 rfl 1 rfl ?_
    refine r_iconst hR dJ6_numberOfTrailingZeros_0f7a4_71 kc_iconst_2 ?_
    refine r_iushr hR dJ6_numberOfTrailingZeros_0f7a4_72 ?_
    obtain ⟨x0_73, hx, h⟩ := bn_some h
    refine r_istore_n hR (i := 0) (lv' := [(0, .int x0_73), (1, .int x1_67)]) dJ6_numberOfTrailingZeros_0f7a4_73 hx rfl (by decide) rfl ?_
    exact r_sub hR [0, 1] rfl (tJ6_numberOfTrailingZeros_b74 hR hP _ _ h)
theorem tJ6_numberOfTrailingZeros_b49 (hR : Rl wC 1 RJ6 cJ6_numberOfTrailingZeros_0f7a4 2 (some .int) ad J P) {q : SS} {r : Int32} (hP : P (some (.int r)) q) (x0 : Int32) (x1 : Int32) (h : fJ6_numberOfTrailingZeros_b49 x0 x1 = some r) : J [(0, .int x0), (1, .int x1)] [] q 49 := by
  unfold fJ6_numberOfTrailingZeros_b49 at h
  refine r_iload_n hR dJ6_numberOfTrailingZeros_0f7a4_49 rfl 0 rfl ?_
  refine r_bipush hR dJ6_numberOfTrailingZeros_0f7a4_50 kc_bipush_16 ?_
  refine r_icmp_le hR (tgt := 62) dJ6_numberOfTrailingZeros_0f7a4_52 (by decide) (fun c_52 => ?_) (fun c_52 => ?_)
  · replace h := it_t c_52 h
    exact r_sub hR [0, 1] rfl (tJ6_numberOfTrailingZeros_b62 hR hP _ _ h)
  · replace h := it_f c_52 h
    obtain ⟨x1_55, hx, h⟩ := bn_some h
    refine r_iinc hR (i := 1) (lv' := [(1, .int x1_55), (0, .int x0)]) dJ6_numberOfTrailingZeros_0f7a4_55 1 rfl (inc_ok hx kc_iconst_4) (by decide) rfl ?_
    refine r_iload_n hR dJ6_numberOfTrailingZeros_0f7a4_58 rfl 1 rfl ?_
    refine r_iconst hR dJ6_numberOfTrailingZeros_0f7a4_59 kc_iconst_4 ?_
    refine r_iushr hR dJ6_numberOfTrailingZeros_0f7a4_60 ?_
    obtain ⟨x0_61, hx, h⟩ := bn_some h
    refine r_istore_n hR (i := 0) (lv' := [(0, .int x0_61), (1, .int x1_55)]) dJ6_numberOfTrailingZeros_0f7a4_61 hx rfl (by decide) rfl ?_
    exact r_sub hR [0, 1] rfl (tJ6_numberOfTrailingZeros_b62 hR hP _ _ h)
theorem tJ6_numberOfTrailingZeros_b34 (hR : Rl wC 1 RJ6 cJ6_numberOfTrailingZeros_0f7a4 2 (some .int) ad J P) {q : SS} {r : Int32} (hP : P (some (.int r)) q) (x0 : Int32) (x1 : Int32) (h : fJ6_numberOfTrailingZeros_b34 x0 x1 = some r) : J [(0, .int x0), (1, .int x1)] [] q 34 := by
  unfold fJ6_numberOfTrailingZeros_b34 at h
  refine r_iload_n hR dJ6_numberOfTrailingZeros_0f7a4_34 rfl 0 rfl ?_
  refine r_sipush hR dJ6_numberOfTrailingZeros_0f7a4_35 kc_sipush_256 ?_
  refine r_icmp_le hR (tgt := 49) dJ6_numberOfTrailingZeros_0f7a4_38 (by decide) (fun c_38 => ?_) (fun c_38 => ?_)
  · replace h := it_t c_38 h
    exact r_sub hR [0, 1] rfl (tJ6_numberOfTrailingZeros_b49 hR hP _ _ h)
  · replace h := it_f c_38 h
    obtain ⟨x1_41, hx, h⟩ := bn_some h
    refine r_iinc hR (i := 1) (lv' := [(1, .int x1_41), (0, .int x0)]) dJ6_numberOfTrailingZeros_0f7a4_41 1 rfl (inc_ok hx kc_iconst_8) (by decide) rfl ?_
    refine r_iload_n hR dJ6_numberOfTrailingZeros_0f7a4_44 rfl 1 rfl ?_
    refine r_bipush hR dJ6_numberOfTrailingZeros_0f7a4_45 kc_bipush_8 ?_
    refine r_iushr hR dJ6_numberOfTrailingZeros_0f7a4_47 ?_
    obtain ⟨x0_48, hx, h⟩ := bn_some h
    refine r_istore_n hR (i := 0) (lv' := [(0, .int x0_48), (1, .int x1_41)]) dJ6_numberOfTrailingZeros_0f7a4_48 hx rfl (by decide) rfl ?_
    exact r_sub hR [0, 1] rfl (tJ6_numberOfTrailingZeros_b49 hR hP _ _ h)
theorem tJ6_numberOfTrailingZeros (hR : Rl wC 1 RJ6 cJ6_numberOfTrailingZeros_0f7a4 2 (some .int) ad J P) {q : SS} {r : Int32} (hP : P (some (.int r)) q) (x0 : Int32) (h : fJ6_numberOfTrailingZeros x0 = some r) : J [(0, .int x0)] [] q 0 := by
  unfold fJ6_numberOfTrailingZeros at h
  refine r_iload_n hR dJ6_numberOfTrailingZeros_0f7a4_0 rfl 0 rfl ?_
  refine r_iconst hR dJ6_numberOfTrailingZeros_0f7a4_1 kc_iconst_m1 ?_
  refine r_ixor hR dJ6_numberOfTrailingZeros_0f7a4_2 ?_
  refine r_iload_n hR dJ6_numberOfTrailingZeros_0f7a4_3 rfl 0 rfl ?_
  refine r_iconst hR dJ6_numberOfTrailingZeros_0f7a4_4 kc_iconst_1 ?_
  refine r_isub hR dJ6_numberOfTrailingZeros_0f7a4_5 ?_
  refine r_iand hR dJ6_numberOfTrailingZeros_0f7a4_6 ?_
  obtain ⟨x0_7, hx, h⟩ := bn_some h
  refine r_istore_n hR (i := 0) (lv' := [(0, .int x0_7)]) dJ6_numberOfTrailingZeros_0f7a4_7 hx rfl (by decide) rfl ?_
  refine r_iload_n hR dJ6_numberOfTrailingZeros_0f7a4_8 rfl 0 rfl ?_
  refine r_if_gt hR (tgt := 17) dJ6_numberOfTrailingZeros_0f7a4_9 (by decide) (fun c_9 => ?_) (fun c_9 => ?_)
  · replace h := it_t c_9 h
    refine r_iconst hR dJ6_numberOfTrailingZeros_0f7a4_17 kc_iconst_1 ?_
    refine r_istore_n hR (i := 1) (lv' := [(1, .int (1 : Int32)), (0, .int x0_7)]) dJ6_numberOfTrailingZeros_0f7a4_18 rfl rfl (by decide) rfl ?_
    refine r_iload_n hR dJ6_numberOfTrailingZeros_0f7a4_19 rfl 1 rfl ?_
    refine r_ldcw hR dJ6_numberOfTrailingZeros_0f7a4_20 m_2_203 ?_
    refine r_icmp_le hR (tgt := 34) dJ6_numberOfTrailingZeros_0f7a4_23 (by decide) (fun c_23 => ?_) (fun c_23 => ?_)
    · replace h := it_t c_23 h
      exact r_sub hR [1, 0] rfl (tJ6_numberOfTrailingZeros_b34 hR hP _ _ h)
    · replace h := it_f c_23 h
      obtain ⟨x1_26, hx, h⟩ := bn_some h
      refine r_iinc hR (i := 1) (lv' := [(1, .int x1_26), (0, .int x0_7)]) dJ6_numberOfTrailingZeros_0f7a4_26 0 rfl (inc_ok hx kc_iconst_16) (by decide) rfl ?_
      refine r_iload_n hR dJ6_numberOfTrailingZeros_0f7a4_29 rfl 1 rfl ?_
      refine r_bipush hR dJ6_numberOfTrailingZeros_0f7a4_30 kc_bipush_16 ?_
      refine r_iushr hR dJ6_numberOfTrailingZeros_0f7a4_32 ?_
      obtain ⟨x0_33, hx, h⟩ := bn_some h
      refine r_istore_n hR (i := 0) (lv' := [(0, .int x0_33), (1, .int x1_26)]) dJ6_numberOfTrailingZeros_0f7a4_33 hx rfl (by decide) rfl ?_
      exact r_sub hR [0, 1] rfl (tJ6_numberOfTrailingZeros_b34 hR hP _ _ h)
  · replace h := it_f c_9 h
    refine r_iload_n hR dJ6_numberOfTrailingZeros_0f7a4_12 rfl 0 rfl ?_
    refine r_bipush hR dJ6_numberOfTrailingZeros_0f7a4_13 kc_bipush_32 ?_
    refine r_iand hR dJ6_numberOfTrailingZeros_0f7a4_15 ?_
    exact r_iret hR dJ6_numberOfTrailingZeros_0f7a4_16 rfl (rt1 hP h)
theorem cJ6_numberOfTrailingZeros {x0 : Int32} {q : SS} {r : Int32} (h : fJ6_numberOfTrailingZeros x0 = some r) : Ct wC 1 yJ6_numberOfTrailingZeros_0f7a4 cJ6_numberOfTrailingZeros_0f7a4 2 (some .int) (fun ad => [.int x0]) q (fun _ => some (.int r)) q :=
  ct_of (by decide) (fun _ => Nat.le_of_ble_eq_true rfl) (fun ad J hR => tJ6_numberOfTrailingZeros hR ⟨rfl, rfl⟩ x0 h)
theorem t0_keySigns (hR : Rl wC 2 RX0 cX0_keySigns 1 (some .int) ad J P) {q : SS} {r : Int32} (hP : P (some (.int r)) q) (x0 : Int32) (h : f0_keySigns x0 = some r) : J [(0, .int x0)] [] q 0 := by
  unfold f0_keySigns at h
  refine r_iconst hR dX0_keySigns_0 kc_iconst_3 ?_
  refine r_iload_n hR dX0_keySigns_1 rfl 0 rfl ?_
  obtain ⟨r_2, hc, h⟩ := bd_some h
  refine r_callSi hR (cJ6_bitCount hc) (cf_X0_57 (by decide)) m_1_228 (As := [.int x0]) rfl rfl (Nat.le_of_ble_eq_true rfl) rfl dX0_keySigns_2 ?_
  refine r_imul hR dX0_keySigns_5 ?_
  refine r_iconst hR dX0_keySigns_6 kc_iconst_2 ?_
  refine r_isub hR dX0_keySigns_7 ?_
  exact r_iret hR dX0_keySigns_8 rfl (rt1 hP h)
theorem c0_keySigns {x0 : Int32} {q : SS} {r : Int32} (h : f0_keySigns x0 = some r) : Ct wC 2 yX0_keySigns cX0_keySigns 1 (some .int) (fun ad => [.int x0]) q (fun _ => some (.int r)) q :=
  ct_of (by decide) (fun _ => Nat.le_of_ble_eq_true rfl) (fun ad J hR => t0_keySigns hR ⟨rfl, rfl⟩ x0 h)
theorem t0_keyOfStep (hR : Rl wC 3 RX0 cX0_keyOfStep 9 (some .long) ad J P) {q : SS} {r : Int64} (hP : P (some (.long r)) q) (x0 : Int32) (x1 : Int64) (x3 : Int32) (x4 : Int32) (x5 : Int64) (h : f0_keyOfStep x0 x1 x3 x4 x5 = some r) : J [(0, .int x0), (1, .long x1), (3, .int x3), (4, .int x4), (5, .long x5)] [] q 0 := by
  unfold f0_keyOfStep at h
  refine r_lconst hR dX0_keyOfStep_0 kc_lconst_1 ?_
  refine r_iconst hR dX0_keyOfStep_1 kc_iconst_4 ?_
  refine r_iload_n hR dX0_keyOfStep_2 rfl 0 rfl ?_
  obtain ⟨r_3, hc, h⟩ := bd_some h
  refine r_callSi hR (c0_keySigns hc) (cf_X0_111 (by decide)) m_3_188 (As := [.int x0]) rfl rfl (Nat.le_of_ble_eq_true rfl) rfl dX0_keyOfStep_3 ?_
  refine r_imul hR dX0_keyOfStep_6 ?_
  refine r_lshl hR dX0_keyOfStep_7 ?_
  refine r_lload_n hR dX0_keyOfStep_8 rfl 1 rfl ?_
  refine r_lor hR dX0_keyOfStep_9 ?_
  obtain ⟨x7_10, hx, h⟩ := bn_some h
  refine r_lstore hR (i := 7) (lv' := [(7, .long x7_10), (0, .int x0), (1, .long x1), (3, .int x3), (4, .int x4), (5, .long x5)]) dX0_keyOfStep_10 hx (by decide) rfl ?_
  refine r_lload hR dX0_keyOfStep_12 0 rfl ?_
  refine r_iconst hR dX0_keyOfStep_14 kc_iconst_4 ?_
  refine r_lshl hR dX0_keyOfStep_15 ?_
  refine r_iload_n hR dX0_keyOfStep_16 rfl 3 rfl ?_
  refine r_i2l hR dX0_keyOfStep_17 ?_
  refine r_lor hR dX0_keyOfStep_18 ?_
  refine r_iconst hR dX0_keyOfStep_19 kc_iconst_4 ?_
  refine r_iload hR dX0_keyOfStep_20 4 rfl ?_
  obtain ⟨r_22, hc, h⟩ := bd_some h
  refine r_callSi hR (c0_keySigns hc) (cf_X0_111 (by decide)) m_3_188 (As := [.int x4]) rfl rfl (Nat.le_of_ble_eq_true rfl) rfl dX0_keyOfStep_22 ?_
  refine r_imul hR dX0_keyOfStep_25 ?_
  refine r_lshl hR dX0_keyOfStep_26 ?_
  refine r_lload hR dX0_keyOfStep_27 5 rfl ?_
  refine r_lor hR dX0_keyOfStep_29 ?_
  exact r_lret hR dX0_keyOfStep_30 rfl (rt1l hP h)
theorem c0_keyOfStep {x0 : Int32} {x1 : Int64} {x3 : Int32} {x4 : Int32} {x5 : Int64} {q : SS} {r : Int64} (h : f0_keyOfStep x0 x1 x3 x4 x5 = some r) : Ct wC 3 yX0_keyOfStep cX0_keyOfStep 9 (some .long) (fun ad => [.int x0, .long x1, .int x3, .int x4, .long x5]) q (fun _ => some (.long r)) q :=
  ct_of (by decide) (fun _ => Nat.le_of_ble_eq_true rfl) (fun ad J hR => t0_keyOfStep hR ⟨rfl, rfl⟩ x0 x1 x3 x4 x5 h)
theorem t0_putIfBetter_b67 (hR : Rl wC 1 RX0 cX0_putIfBetter 6 none ad J P) {q2 : SS} (hP : P none q2) (x1 : Int32) (x2 : Int32) (x3 : Int64) (q : SS) (h : f0_putIfBetter_b67 x1 x2 x3 q = some q2) : J [(0, .ref (ad 5)), (1, .int x1), (2, .int x2), (3, .long x3)] [] q 67 := by
  unfold f0_putIfBetter_b67 at h
  refine r_aload_n hR dX0_putIfBetter_67 rfl 0 rfl ?_
  refine g_X0_costs hR m_1_152 dX0_putIfBetter_68 ?_
  refine r_iload_n hR dX0_putIfBetter_71 rfl 1 rfl ?_
  refine r_iload_n hR dX0_putIfBetter_72 rfl 2 rfl ?_
  obtain ⟨hin, h⟩ := ck_some h
  obtain ⟨q_73, hq, h⟩ := bn_some h
  refine sv_X0_costs hR dX0_putIfBetter_73 hin hq ?_
  refine r_aload_n hR dX0_putIfBetter_74 rfl 0 rfl ?_
  refine g_X0_keys hR m_1_153 dX0_putIfBetter_75 ?_
  refine r_iload_n hR dX0_putIfBetter_78 rfl 1 rfl ?_
  refine r_lload_n hR dX0_putIfBetter_79 rfl 3 rfl ?_
  obtain ⟨hin, h⟩ := ck_some h
  obtain ⟨q_80, hq, h⟩ := bn_some h
  refine sv_X0_keys hR dX0_putIfBetter_80 hin hq ?_
  exact r_vret hR dX0_putIfBetter_81 rfl (rtv hP h)
theorem t0_putIfBetter_b29 (hR : Rl wC 1 RX0 cX0_putIfBetter 6 none ad J P) {q2 : SS} (hP : P none q2) (x1 : Int32) (x2 : Int32) (x3 : Int64) (s0 : Int32) (q : SS) (h : f0_putIfBetter_b29 x1 x2 x3 s0 q = some q2) : J [(0, .ref (ad 5)), (1, .int x1), (2, .int x2), (3, .long x3)] [.int s0] q 29 := by
  unfold f0_putIfBetter_b29 at h
  refine r_istore hR (i := 5) (lv' := [(5, .int s0), (0, .ref (ad 5)), (1, .int x1), (2, .int x2), (3, .long x3)]) dX0_putIfBetter_29 rfl (by decide) rfl ?_
  refine r_iload hR dX0_putIfBetter_31 0 rfl ?_
  refine r_if_ne hR (tgt := 67) dX0_putIfBetter_33 (by decide) (fun c_33 => ?_) (fun c_33 => ?_)
  · replace h := it_f c_33 h
    exact r_sub hR [1, 2, 3, 4] rfl (t0_putIfBetter_b67 hR hP _ _ _ _ h)
  · replace h := it_t c_33 h
    refine r_iload_n hR dX0_putIfBetter_36 rfl 3 rfl ?_
    refine r_aload_n hR dX0_putIfBetter_37 rfl 1 rfl ?_
    refine g_X0_costs hR m_1_152 dX0_putIfBetter_38 ?_
    refine r_iload_n hR dX0_putIfBetter_41 rfl 2 rfl ?_
    obtain ⟨hin, h⟩ := ck_some h
    refine ld_X0_costs hR dX0_putIfBetter_42 hin ?_
    refine r_icmp_lt hR (tgt := 67) dX0_putIfBetter_43 (by decide) (fun c_43 => ?_) (fun c_43 => ?_)
    · replace h := it_t c_43 h
      exact r_sub hR [1, 2, 3, 4] rfl (t0_putIfBetter_b67 hR hP _ _ _ _ h)
    · replace h := it_f c_43 h
      refine r_iload_n hR dX0_putIfBetter_46 rfl 3 rfl ?_
      refine r_aload_n hR dX0_putIfBetter_47 rfl 1 rfl ?_
      refine g_X0_costs hR m_1_152 dX0_putIfBetter_48 ?_
      refine r_iload_n hR dX0_putIfBetter_51 rfl 2 rfl ?_
      obtain ⟨hin, h⟩ := ck_some h
      refine ld_X0_costs hR dX0_putIfBetter_52 hin ?_
      refine r_icmp_ne hR (tgt := 81) dX0_putIfBetter_53 (by decide) (fun c_53 => ?_) (fun c_53 => ?_)
      · replace h := it_f c_53 h
        exact r_vret hR dX0_putIfBetter_81 rfl (rtv hP h)
      · replace h := it_t c_53 h
        refine r_lload_n hR dX0_putIfBetter_56 rfl 4 rfl ?_
        refine r_aload_n hR dX0_putIfBetter_57 rfl 1 rfl ?_
        refine g_X0_keys hR m_1_153 dX0_putIfBetter_58 ?_
        refine r_iload_n hR dX0_putIfBetter_61 rfl 2 rfl ?_
        obtain ⟨hin, h⟩ := ck_some h
        refine ld_X0_keys hR dX0_putIfBetter_62 hin ?_
        refine r_lcmp hR dX0_putIfBetter_63 ?_
        refine r_if_ge hR (tgt := 81) dX0_putIfBetter_64 (by decide) (fun c_64 => ?_) (fun c_64 => ?_)
        · replace h := it_t ((lg_cmp_ge _ _).mp c_64) h
          exact r_vret hR dX0_putIfBetter_81 rfl (rtv hP h)
        · replace h := it_f (fun z => c_64 ((lg_cmp_ge _ _).mpr z)) h
          exact r_sub hR [1, 2, 3, 4] rfl (t0_putIfBetter_b67 hR hP _ _ _ _ h)
theorem t0_putIfBetter (hR : Rl wC 1 RX0 cX0_putIfBetter 6 none ad J P) {q2 : SS} (hP : P none q2) (x1 : Int32) (x2 : Int32) (x3 : Int64) (q : SS) (h : f0_putIfBetter x1 x2 x3 q = some q2) : J [(0, .ref (ad 5)), (1, .int x1), (2, .int x2), (3, .long x3)] [] q 0 := by
  unfold f0_putIfBetter at h
  refine r_iload_n hR dX0_putIfBetter_0 rfl 1 rfl ?_
  refine r_if_lt hR (tgt := 13) dX0_putIfBetter_1 (by decide) (fun c_1 => ?_) (fun c_1 => ?_)
  · replace h := it_t c_1 h
    exact r_vret hR dX0_putIfBetter_13 rfl (rtv hP h)
  · replace h := it_f c_1 h
    refine r_iload_n hR dX0_putIfBetter_4 rfl 1 rfl ?_
    refine r_aload_n hR dX0_putIfBetter_5 rfl 0 rfl ?_
    refine g_X0_costs hR m_1_152 dX0_putIfBetter_6 ?_
    refine al_X0_costs hR dX0_putIfBetter_9 ?_
    refine r_icmp_lt hR (tgt := 14) dX0_putIfBetter_10 (by decide) (fun c_10 => ?_) (fun c_10 => ?_)
    · replace h := it_t c_10 h
      refine r_aload_n hR dX0_putIfBetter_14 rfl 0 rfl ?_
      refine g_X0_costs hR m_1_152 dX0_putIfBetter_15 ?_
      refine r_iload_n hR dX0_putIfBetter_18 rfl 1 rfl ?_
      obtain ⟨hin, h⟩ := ck_some h
      refine ld_X0_costs hR dX0_putIfBetter_19 hin ?_
      refine r_iconst hR dX0_putIfBetter_20 kc_iconst_m1 ?_
      refine r_icmp_ne hR (tgt := 28) dX0_putIfBetter_21 (by decide) (fun c_21 => ?_) (fun c_21 => ?_)
      · replace h := it_f c_21 h
        refine r_iconst hR dX0_putIfBetter_28 kc_iconst_0 ?_
        exact r_sub hR [0, 1, 2, 3] rfl (t0_putIfBetter_b29 hR hP _ _ _ _ _ h)
      · replace h := it_t c_21 h
        refine r_iconst hR dX0_putIfBetter_24 kc_iconst_1 ?_
        refine r_goto hR (tgt := 29) dX0_putIfBetter_25 (by decide) ?_
        exact r_sub hR [0, 1, 2, 3] rfl (t0_putIfBetter_b29 hR hP _ _ _ _ _ h)
    · replace h := it_f c_10 h
      exact r_vret hR dX0_putIfBetter_13 rfl (rtv hP h)
theorem c0_putIfBetter {x1 : Int32} {x2 : Int32} {x3 : Int64} {q : SS} {q2 : SS} (h : f0_putIfBetter x1 x2 x3 q = some q2) : Ct wC 1 yX0_putIfBetter cX0_putIfBetter 6 none (fun ad => [.ref (ad 5), .int x1, .int x2, .long x3]) q (fun _ => none) q2 :=
  ct_of (by decide) (fun _ => Nat.le_of_ble_eq_true rfl) (fun ad J hR => t0_putIfBetter hR ⟨rfl, rfl⟩ x1 x2 x3 q h)
theorem t0_offer (hR : Rl wC 2 RX0 cX0_offer 6 none ad J P) {q2 : SS} (hP : P none q2) (x1 : Int32) (x2 : Int32) (x3 : Int32) (x4 : Int64) (q : SS) (h : f0_offer x1 x2 x3 x4 q = some q2) : J [(0, .ref (ad 5)), (1, .int x1), (2, .int x2), (3, .int x3), (4, .long x4)] [] q 0 := by
  unfold f0_offer at h
  refine r_aload_n hR dX0_offer_0 rfl 0 rfl ?_
  refine r_iload_n hR dX0_offer_1 rfl 1 rfl ?_
  refine r_bipush hR dX0_offer_2 kc_bipush_9 ?_
  refine r_imul hR dX0_offer_4 ?_
  refine r_iload_n hR dX0_offer_5 rfl 2 rfl ?_
  refine r_iadd hR dX0_offer_6 ?_
  refine r_iload_n hR dX0_offer_7 rfl 3 rfl ?_
  refine r_lload hR dX0_offer_8 4 rfl ?_
  obtain ⟨q_10, hc, h⟩ := bd_some h
  refine r_callVv hR (c0_putIfBetter hc) (cf_X0_114 (by decide)) ⟨m_3_173, ms_2_9⟩ (As := [.int ((x1 * (9 : Int32)) + x2), .int x3, .long x4]) (q0 := 5) (ci := 0) rfl rfl rfl rfl (rc_X0 ad _) (Nat.le_of_ble_eq_true rfl) rfl dX0_offer_10 ?_
  refine r_aload_n hR dX0_offer_13 rfl 0 rfl ?_
  refine r_iload_n hR dX0_offer_14 rfl 1 rfl ?_
  refine r_bipush hR dX0_offer_15 kc_bipush_9 ?_
  refine r_imul hR dX0_offer_17 ?_
  refine r_bipush hR dX0_offer_18 kc_bipush_8 ?_
  refine r_iadd hR dX0_offer_20 ?_
  refine r_iload_n hR dX0_offer_21 rfl 3 rfl ?_
  refine r_lload hR dX0_offer_22 4 rfl ?_
  obtain ⟨q_24, hc, h⟩ := bd_some h
  refine r_callVv hR (c0_putIfBetter hc) (cf_X0_114 (by decide)) ⟨m_3_173, ms_2_9⟩ (As := [.int ((x1 * (9 : Int32)) + (8 : Int32)), .int x3, .long x4]) (q0 := 5) (ci := 0) rfl rfl rfl rfl (rc_X0 ad _) (Nat.le_of_ble_eq_true rfl) rfl dX0_offer_24 ?_
  exact r_vret hR dX0_offer_27 rfl (rtv hP h)
theorem c0_offer {x1 : Int32} {x2 : Int32} {x3 : Int32} {x4 : Int64} {q : SS} {q2 : SS} (h : f0_offer x1 x2 x3 x4 q = some q2) : Ct wC 2 yX0_offer cX0_offer 6 none (fun ad => [.ref (ad 5), .int x1, .int x2, .int x3, .long x4]) q (fun _ => none) q2 :=
  ct_of (by decide) (fun _ => Nat.le_of_ble_eq_true rfl) (fun ad J hR => t0_offer hR ⟨rfl, rfl⟩ x1 x2 x3 x4 q h)
theorem t5_roundedUp (hR : Rl wC 1 RX5 cX5_roundedUp 2 (some .int) ad J P) {q : SS} {r : Int32} (hP : P (some (.int r)) q) (x0 : Int32) (x1 : Int32) (h : f5_roundedUp x0 x1 = some r) : J [(0, .int x0), (1, .int x1)] [] q 0 := by
  unfold f5_roundedUp at h
  refine r_iload_n hR dX5_roundedUp_0 rfl 1 rfl ?_
  refine r_iconst hR dX5_roundedUp_1 kc_iconst_1 ?_
  refine r_icmp_ge hR (tgt := 9) dX5_roundedUp_2 (by decide) (fun c_2 => ?_) (fun c_2 => ?_)
  · replace h := it_t c_2 h
    refine r_iload_n hR dX5_roundedUp_9 rfl 0 rfl ?_
    refine r_iload_n hR dX5_roundedUp_10 rfl 1 rfl ?_
    refine r_iadd hR dX5_roundedUp_11 ?_
    refine r_iconst hR dX5_roundedUp_12 kc_iconst_1 ?_
    refine r_isub hR dX5_roundedUp_13 ?_
    refine r_iload_n hR dX5_roundedUp_14 rfl 1 rfl ?_
    obtain ⟨hnz, h⟩ := dz_some h
    refine r_idiv hR dX5_roundedUp_15 hnz ?_
    exact r_iret hR dX5_roundedUp_16 rfl (rt1 hP h)
  · replace h := it_f c_2 h
    refine r_iconst hR dX5_roundedUp_5 kc_iconst_0 ?_
    refine r_goto hR (tgt := 16) dX5_roundedUp_6 (by decide) ?_
    exact r_iret hR dX5_roundedUp_16 rfl (rt1 hP h)
theorem c5_roundedUp {x0 : Int32} {x1 : Int32} {q : SS} {r : Int32} (h : f5_roundedUp x0 x1 = some r) : Ct wC 1 yX5_roundedUp cX5_roundedUp 2 (some .int) (fun ad => [.int x0, .int x1]) q (fun _ => some (.int r)) q :=
  ct_of (by decide) (fun _ => Nat.le_of_ble_eq_true rfl) (fun ad J hR => t5_roundedUp hR ⟨rfl, rfl⟩ x0 x1 h)
theorem t5_loops (hR : Rl wC 2 RX5 cX5_loops 4 (some .int) ad J P) {q : SS} {r : Int32} (hP : P (some (.int r)) q) (x0 : Int32) (x1 : Int32) (x2 : Int32) (h : f5_loops x0 x1 x2 = some r) : J [(0, .int x0), (1, .int x1), (2, .int x2)] [] q 0 := by
  unfold f5_loops at h
  refine r_iload_n hR dX5_loops_0 rfl 2 rfl ?_
  refine r_iconst hR dX5_loops_1 kc_iconst_2 ?_
  refine r_isub hR dX5_loops_2 ?_
  obtain ⟨x3_3, hx, h⟩ := bn_some h
  refine r_istore_n hR (i := 3) (lv' := [(3, .int x3_3), (0, .int x0), (1, .int x1), (2, .int x2)]) dX5_loops_3 hx rfl (by decide) rfl ?_
  refine r_iload_n hR dX5_loops_4 rfl 1 rfl ?_
  refine r_iload_n hR dX5_loops_5 rfl 0 rfl ?_
  refine r_icmp_le hR (tgt := 21) dX5_loops_6 (by decide) (fun c_6 => ?_) (fun c_6 => ?_)
  · replace h := it_t c_6 h
    refine r_iconst hR dX5_loops_21 kc_iconst_0 ?_
    exact r_iret hR dX5_loops_22 rfl (rt1 hP h)
  · replace h := it_f c_6 h
    refine r_iload_n hR dX5_loops_9 rfl 2 rfl ?_
    refine r_iload_n hR dX5_loops_10 rfl 1 rfl ?_
    refine r_iload_n hR dX5_loops_11 rfl 0 rfl ?_
    obtain ⟨r_12, hc, h⟩ := bd_some h
    refine r_callSi hR (c5_roundedUp hc) (cf_X5_7 (by decide)) m_2_101 (As := [.int x0, .int x3_3]) rfl rfl (Nat.le_of_ble_eq_true rfl) rfl dX5_loops_12 ?_
    refine r_iconst hR dX5_loops_15 kc_iconst_1 ?_
    refine r_isub hR dX5_loops_16 ?_
    refine r_imul hR dX5_loops_17 ?_
    refine r_goto hR (tgt := 22) dX5_loops_18 (by decide) ?_
    exact r_iret hR dX5_loops_22 rfl (rt1 hP h)
theorem c5_loops {x0 : Int32} {x1 : Int32} {x2 : Int32} {q : SS} {r : Int32} (h : f5_loops x0 x1 x2 = some r) : Ct wC 2 yX5_loops cX5_loops 4 (some .int) (fun ad => [.int x0, .int x1, .int x2]) q (fun _ => some (.int r)) q :=
  ct_of (by decide) (fun _ => Nat.le_of_ble_eq_true rfl) (fun ad J hR => t5_loops hR ⟨rfl, rfl⟩ x0 x1 x2 h)
theorem t7_memory (hR : Rl wC 1 RX7 cX7_memory 1 (some .int) ad J P) (q : SS) {r : Int32} (hP : P (some (.int r)) q) (h : f7_memory q = some r) : J [(0, .ref (ad 1))] [] q 0 := by
  unfold f7_memory at h
  refine r_aload_n hR dX7_memory_0 rfl 0 rfl ?_
  refine g_X7_memory hR m_1_35 dX7_memory_1 ?_
  exact r_iret hR dX7_memory_4 rfl (rt1 hP h)
theorem c7_memory {q : SS} {r : Int32} (h : f7_memory q = some r) : Ct wC 1 yX7_memory cX7_memory 1 (some .int) (fun ad => [.ref (ad 1)]) q (fun _ => some (.int r)) q :=
  ct_of (by decide) (fun _ => Nat.le_of_ble_eq_true rfl) (fun ad J hR => t7_memory hR q ⟨rfl, rfl⟩ h)
theorem t0_takeLoops_b112 (hR : Rl wC 4 RX0 cX0_takeLoops 9 none ad J P) (N : Nat) {q2 : SS} (hP : P none q2) (bk42 : Int32 → Int32 → Int32 → Int32 → Int32 → SS → Option SS) (hbk42 : ∀ (x1 : Int32) (x2 : Int32) (x3 : Int32) (x4 : Int32) (x5 : Int32) (q : SS), bk42 x1 x2 x3 x4 x5 q = some q2 → J [(0, .ref (ad 5)), (1, .int x1), (2, .int x2), (3, .int x3), (4, .int x4), (5, .int x5)] [] q 42) (x1 : Int32) (x2 : Int32) (x3 : Int32) (x4 : Int32) (x5 : Int32) (q : SS) (h : f0_takeLoops_b112 N bk42 x1 x2 x3 x4 x5 q = some q2) : J [(0, .ref (ad 5)), (1, .int x1), (2, .int x2), (3, .int x3), (4, .int x4), (5, .int x5)] [] q 112 := by
  unfold f0_takeLoops_b112 at h
  obtain ⟨x5_112, hx, h⟩ := bn_some h
  refine r_iinc hR (i := 5) (lv' := [(5, .int x5_112), (0, .ref (ad 5)), (1, .int x1), (2, .int x2), (3, .int x3), (4, .int x4)]) dX0_takeLoops_112 5 rfl (inc_ok hx kc_iconst_1) (by decide) rfl ?_
  refine r_goto hR (tgt := 42) dX0_takeLoops_115 (by decide) ?_
  exact r_sub hR [1, 2, 3, 4, 5, 0] rfl (hbk42 _ _ _ _ _ _ h)
theorem t0_takeLoops_l42_B (hR : Rl wC 4 RX0 cX0_takeLoops 9 none ad J P) (N : Nat) {q2 : SS} (hP : P none q2) (bk42 : Int32 → Int32 → Int32 → Int32 → Int32 → SS → Option SS) (hbk42 : ∀ (x1 : Int32) (x2 : Int32) (x3 : Int32) (x4 : Int32) (x5 : Int32) (q : SS), bk42 x1 x2 x3 x4 x5 q = some q2 → J [(0, .ref (ad 5)), (1, .int x1), (2, .int x2), (3, .int x3), (4, .int x4), (5, .int x5)] [] q 42) (x1 : Int32) (x2 : Int32) (x3 : Int32) (x4 : Int32) (x5 : Int32) (q : SS) (h : f0_takeLoops_l42_B N bk42 x1 x2 x3 x4 x5 q = some q2) : J [(0, .ref (ad 5)), (1, .int x1), (2, .int x2), (3, .int x3), (4, .int x4), (5, .int x5)] [] q 42 := by
  unfold f0_takeLoops_l42_B at h
  refine r_iload hR dX0_takeLoops_42 5 rfl ?_
  refine r_bipush hR dX0_takeLoops_44 kc_bipush_9 ?_
  refine r_icmp_ge hR (tgt := 118) dX0_takeLoops_46 (by decide) (fun c_46 => ?_) (fun c_46 => ?_)
  · replace h := it_t c_46 h
    exact r_vret hR dX0_takeLoops_118 rfl (rtv hP h)
  · replace h := it_f c_46 h
    refine r_iload_n hR dX0_takeLoops_49 rfl 1 rfl ?_
    refine r_bipush hR dX0_takeLoops_50 kc_bipush_9 ?_
    refine r_imul hR dX0_takeLoops_52 ?_
    refine r_iload hR dX0_takeLoops_53 5 rfl ?_
    refine r_iadd hR dX0_takeLoops_55 ?_
    obtain ⟨x6_56, hx, h⟩ := bn_some h
    refine r_istore hR (i := 6) (lv' := [(6, .int x6_56), (0, .ref (ad 5)), (1, .int x1), (2, .int x2), (3, .int x3), (4, .int x4), (5, .int x5)]) dX0_takeLoops_56 hx (by decide) rfl ?_
    refine r_aload_n hR dX0_takeLoops_58 rfl 1 rfl ?_
    refine g_X0_costs hR m_1_152 dX0_takeLoops_59 ?_
    refine r_iload hR dX0_takeLoops_62 0 rfl ?_
    obtain ⟨hin, h⟩ := ck_some h
    refine ld_X0_costs hR dX0_takeLoops_64 hin ?_
    refine r_iconst hR dX0_takeLoops_65 kc_iconst_m1 ?_
    refine r_icmp_eq hR (tgt := 112) dX0_takeLoops_66 (by decide) (fun c_66 => ?_) (fun c_66 => ?_)
    · replace h := it_t c_66 h
      exact r_sub hR [1, 2, 3, 4, 5, 6] rfl (t0_takeLoops_b112 hR N hP bk42 hbk42 _ _ _ _ _ _ h)
    · replace h := it_f c_66 h
      refine r_iload_n hR dX0_takeLoops_69 rfl 2 rfl ?_
      refine r_aload_n hR dX0_takeLoops_70 rfl 1 rfl ?_
      refine g_X0_keys hR m_1_153 dX0_takeLoops_71 ?_
      refine r_iload hR dX0_takeLoops_74 0 rfl ?_
      obtain ⟨hin, h⟩ := ck_some h
      refine ld_X0_keys hR dX0_takeLoops_76 hin ?_
      refine r_bipush hR dX0_takeLoops_77 kc_bipush_8 ?_
      refine r_iload_n hR dX0_takeLoops_79 rfl 3 rfl ?_
      refine r_aload_n hR dX0_takeLoops_80 rfl 1 rfl ?_
      refine g_X0_keys hR m_1_153 dX0_takeLoops_81 ?_
      refine r_iload_n hR dX0_takeLoops_84 rfl 4 rfl ?_
      obtain ⟨hin, h⟩ := ck_some h
      refine ld_X0_keys hR dX0_takeLoops_85 hin ?_
      obtain ⟨r_86, hc, h⟩ := bd_some h
      refine r_callSl hR (c0_keyOfStep hc) (cf_X0_97 (by decide)) m_3_185 (As := [.int x1, .long (lo q (ix x6_56)), .int (8 : Int32), .int x2, .long (lo q (ix x3))]) rfl rfl (Nat.le_of_ble_eq_true rfl) rfl dX0_takeLoops_86 ?_
      refine r_lstore hR (i := 7) (lv' := [(7, .long r_86), (6, .int x6_56), (0, .ref (ad 5)), (1, .int x1), (2, .int x2), (3, .int x3), (4, .int x4), (5, .int x5)]) dX0_takeLoops_89 rfl (by decide) rfl ?_
      refine r_aload_n hR dX0_takeLoops_91 rfl 2 rfl ?_
      refine r_iload_n hR dX0_takeLoops_92 rfl 3 rfl ?_
      refine r_iload_n hR dX0_takeLoops_93 rfl 4 rfl ?_
      refine r_ior hR dX0_takeLoops_94 ?_
      refine r_iload hR dX0_takeLoops_95 7 rfl ?_
      refine r_aload_n hR dX0_takeLoops_97 rfl 2 rfl ?_
      refine g_X0_costs hR m_1_152 dX0_takeLoops_98 ?_
      refine r_iload hR dX0_takeLoops_101 1 rfl ?_
      obtain ⟨hin, h⟩ := ck_some h
      refine ld_X0_costs hR dX0_takeLoops_103 hin ?_
      refine r_iload hR dX0_takeLoops_104 6 rfl ?_
      refine r_iadd hR dX0_takeLoops_106 ?_
      refine r_lload hR dX0_takeLoops_107 0 rfl ?_
      obtain ⟨q_109, hc, h⟩ := bd_some h
      refine r_callVv hR (c0_offer hc) (cf_X0_76 (by decide)) ⟨m_3_169, ms_2_8⟩ (As := [.int (x1 ||| x2), .int x5, .int ((ar q 22 (ix x6_56)) + x4), .long r_86]) (q0 := 5) (ci := 0) rfl rfl rfl rfl (rc_X0 ad _) (Nat.le_of_ble_eq_true rfl) rfl dX0_takeLoops_109 ?_
      exact r_sub hR [2, 3, 4, 5, 6, 7] rfl (t0_takeLoops_b112 hR N hP bk42 hbk42 _ _ _ _ _ _ h)
theorem t0_takeLoops_l42 (hR : Rl wC 4 RX0 cX0_takeLoops 9 none ad J P) (N : Nat) {q2 : SS} (hP : P none q2) : ∀ (n : Nat) (x1 : Int32) (x2 : Int32) (x3 : Int32) (x4 : Int32) (x5 : Int32) (q : SS), f0_takeLoops_l42 N n x1 x2 x3 x4 x5 q = some q2 → J [(0, .ref (ad 5)), (1, .int x1), (2, .int x2), (3, .int x3), (4, .int x4), (5, .int x5)] [] q 42 := by
  intro n
  induction n with
  | zero => intro x1 x2 x3 x4 x5 q h; exact mu_noneF h
  | succ n ih => intro x1 x2 x3 x4 x5 q h; exact t0_takeLoops_l42_B hR N hP _ ih x1 x2 x3 x4 x5 q h
theorem t0_takeLoops (hR : Rl wC 4 RX0 cX0_takeLoops 9 none ad J P) (N : Nat) {q2 : SS} (hP : P none q2) (x1 : Int32) (x2 : Int32) (q : SS) (h : f0_takeLoops N x1 x2 q = some q2) : J [(0, .ref (ad 5)), (1, .int x1), (2, .int x2)] [] q 0 := by
  unfold f0_takeLoops at h
  refine r_iload_n hR dX0_takeLoops_0 rfl 2 rfl ?_
  refine r_bipush hR dX0_takeLoops_1 kc_bipush_9 ?_
  refine r_imul hR dX0_takeLoops_3 ?_
  refine r_bipush hR dX0_takeLoops_4 kc_bipush_8 ?_
  refine r_iadd hR dX0_takeLoops_6 ?_
  obtain ⟨x3_7, hx, h⟩ := bn_some h
  refine r_istore_n hR (i := 3) (lv' := [(3, .int x3_7), (0, .ref (ad 5)), (1, .int x1), (2, .int x2)]) dX0_takeLoops_7 hx rfl (by decide) rfl ?_
  refine r_aload_n hR dX0_takeLoops_8 rfl 1 rfl ?_
  refine g_X0_costs hR m_1_152 dX0_takeLoops_9 ?_
  refine r_iload_n hR dX0_takeLoops_12 rfl 0 rfl ?_
  obtain ⟨hin, h⟩ := ck_some h
  refine ld_X0_costs hR dX0_takeLoops_13 hin ?_
  refine r_aload_n hR dX0_takeLoops_14 rfl 1 rfl ?_
  refine g_X0_pageCounts hR m_1_154 dX0_takeLoops_15 ?_
  refine r_iload_n hR dX0_takeLoops_18 rfl 2 rfl ?_
  obtain ⟨hin, h⟩ := ck_some h
  refine ld_X0_pageCounts hR dX0_takeLoops_19 hin ?_
  refine r_aload_n hR dX0_takeLoops_20 rfl 1 rfl ?_
  refine g_X0_pageCounts hR m_1_154 dX0_takeLoops_21 ?_
  refine r_iload_n hR dX0_takeLoops_24 rfl 3 rfl ?_
  obtain ⟨hin, h⟩ := ck_some h
  refine ld_X0_pageCounts hR dX0_takeLoops_25 hin ?_
  refine r_aload_n hR dX0_takeLoops_26 rfl 1 rfl ?_
  refine g_X0_shelf hR m_1_150 dX0_takeLoops_27 ?_
  obtain ⟨r_30, hc, h⟩ := bd_some h
  refine r_callVi hR (c7_memory hc) (cf_X0_42 (by decide)) ⟨m_3_97, m_3_98⟩ (As := []) (q0 := 1) (ci := 5) rfl rfl rfl rfl (rc_X7 ad _) (Nat.le_of_ble_eq_true rfl) rfl dX0_takeLoops_30 ?_
  obtain ⟨r_33, hc, h⟩ := bd_some h
  refine r_callSi hR (c5_loops hc) (cf_X0_93 (by decide)) m_3_101 (As := [.int (ar q 24 (ix x1)), .int (ar q 24 (ix x2)), .int r_30]) rfl rfl (Nat.le_of_ble_eq_true rfl) rfl dX0_takeLoops_33 ?_
  refine r_iadd hR dX0_takeLoops_36 ?_
  obtain ⟨x4_37, hx, h⟩ := bn_some h
  refine r_istore hR (i := 4) (lv' := [(4, .int x4_37), (3, .int x3_7), (0, .ref (ad 5)), (1, .int x1), (2, .int x2)]) dX0_takeLoops_37 hx (by decide) rfl ?_
  refine r_iconst hR dX0_takeLoops_39 kc_iconst_0 ?_
  refine r_istore hR (i := 5) (lv' := [(5, .int (0 : Int32)), (4, .int x4_37), (3, .int x3_7), (0, .ref (ad 5)), (1, .int x1), (2, .int x2)]) dX0_takeLoops_40 rfl (by decide) rfl ?_
  exact r_sub hR [3, 4, 5, 2, 1, 0] rfl (t0_takeLoops_l42 hR N hP N _ _ _ _ _ _ h)
theorem c0_takeLoops (N : Nat) {x1 : Int32} {x2 : Int32} {q : SS} {q2 : SS} (h : f0_takeLoops N x1 x2 q = some q2) : Ct wC 4 yX0_takeLoops cX0_takeLoops 9 none (fun ad => [.ref (ad 5), .int x1, .int x2]) q (fun _ => none) q2 :=
  ct_of (by decide) (fun _ => Nat.le_of_ble_eq_true rfl) (fun ad J hR => t0_takeLoops hR N ⟨rfl, rfl⟩ x1 x2 q h)
theorem t5_parts (hR : Rl wC 1 RX5 cX5_parts 3 (some .int) ad J P) {q : SS} {r : Int32} (hP : P (some (.int r)) q) (x0 : Int32) (x1 : Int32) (x2 : Int32) (h : f5_parts x0 x1 x2 = some r) : J [(0, .int x0), (1, .int x1), (2, .int x2)] [] q 0 := by
  unfold f5_parts at h
  refine r_iload_n hR dX5_parts_0 rfl 0 rfl ?_
  refine r_iload_n hR dX5_parts_1 rfl 1 rfl ?_
  refine r_mmin hR dX5_parts_2 m_3_107 m_2_34 m_1_11 m_2_35 (by decide) (Nat.le_of_ble_eq_true rfl) ?_
  refine r_iload_n hR dX5_parts_5 rfl 2 rfl ?_
  refine r_iconst hR dX5_parts_6 kc_iconst_2 ?_
  refine r_isub hR dX5_parts_7 ?_
  refine r_icmp_le hR (tgt := 19) dX5_parts_8 (by decide) (fun c_8 => ?_) (fun c_8 => ?_)
  · replace h := it_t c_8 h
    refine r_iconst hR dX5_parts_19 kc_iconst_0 ?_
    exact r_iret hR dX5_parts_20 rfl (rt1 hP h)
  · replace h := it_f c_8 h
    refine r_iconst hR dX5_parts_11 kc_iconst_2 ?_
    refine r_iload_n hR dX5_parts_12 rfl 0 rfl ?_
    refine r_iload_n hR dX5_parts_13 rfl 1 rfl ?_
    refine r_iadd hR dX5_parts_14 ?_
    refine r_imul hR dX5_parts_15 ?_
    refine r_goto hR (tgt := 20) dX5_parts_16 (by decide) ?_
    exact r_iret hR dX5_parts_20 rfl (rt1 hP h)
theorem c5_parts {x0 : Int32} {x1 : Int32} {x2 : Int32} {q : SS} {r : Int32} (h : f5_parts x0 x1 x2 = some r) : Ct wC 1 yX5_parts cX5_parts 3 (some .int) (fun ad => [.int x0, .int x1, .int x2]) q (fun _ => some (.int r)) q :=
  ct_of (by decide) (fun _ => Nat.le_of_ble_eq_true rfl) (fun ad J hR => t5_parts hR ⟨rfl, rfl⟩ x0 x1 x2 h)
theorem t0_takeParts (hR : Rl wC 4 RX0 cX0_takeParts 8 none ad J P) {q2 : SS} (hP : P none q2) (x1 : Int32) (x2 : Int32) (q : SS) (h : f0_takeParts x1 x2 q = some q2) : J [(0, .ref (ad 5)), (1, .int x1), (2, .int x2)] [] q 0 := by
  unfold f0_takeParts at h
  refine r_iload_n hR dX0_takeParts_0 rfl 1 rfl ?_
  refine r_bipush hR dX0_takeParts_1 kc_bipush_9 ?_
  refine r_imul hR dX0_takeParts_3 ?_
  refine r_bipush hR dX0_takeParts_4 kc_bipush_8 ?_
  refine r_iadd hR dX0_takeParts_6 ?_
  obtain ⟨x3_7, hx, h⟩ := bn_some h
  refine r_istore_n hR (i := 3) (lv' := [(3, .int x3_7), (0, .ref (ad 5)), (1, .int x1), (2, .int x2)]) dX0_takeParts_7 hx rfl (by decide) rfl ?_
  refine r_iload_n hR dX0_takeParts_8 rfl 3 rfl ?_
  refine r_bipush hR dX0_takeParts_9 kc_bipush_9 ?_
  refine r_imul hR dX0_takeParts_11 ?_
  refine r_bipush hR dX0_takeParts_12 kc_bipush_8 ?_
  refine r_iadd hR dX0_takeParts_14 ?_
  obtain ⟨x4_15, hx, h⟩ := bn_some h
  refine r_istore hR (i := 4) (lv' := [(4, .int x4_15), (3, .int x3_7), (0, .ref (ad 5)), (1, .int x1), (2, .int x2)]) dX0_takeParts_15 hx (by decide) rfl ?_
  refine r_aload_n hR dX0_takeParts_17 rfl 2 rfl ?_
  refine g_X0_pageCounts hR m_1_154 dX0_takeParts_18 ?_
  refine r_iload_n hR dX0_takeParts_21 rfl 3 rfl ?_
  obtain ⟨hin, h⟩ := ck_some h
  refine ld_X0_pageCounts hR dX0_takeParts_22 hin ?_
  refine r_aload_n hR dX0_takeParts_23 rfl 2 rfl ?_
  refine g_X0_pageCounts hR m_1_154 dX0_takeParts_24 ?_
  refine r_iload_n hR dX0_takeParts_27 rfl 4 rfl ?_
  obtain ⟨hin, h⟩ := ck_some h
  refine ld_X0_pageCounts hR dX0_takeParts_28 hin ?_
  refine r_aload_n hR dX0_takeParts_29 rfl 2 rfl ?_
  refine g_X0_shelf hR m_1_150 dX0_takeParts_30 ?_
  obtain ⟨r_33, hc, h⟩ := bd_some h
  refine r_callVi hR (c7_memory hc) (cf_X0_42 (by decide)) ⟨m_3_97, m_3_98⟩ (As := []) (q0 := 1) (ci := 5) rfl rfl rfl rfl (rc_X7 ad _) (Nat.le_of_ble_eq_true rfl) rfl dX0_takeParts_33 ?_
  obtain ⟨r_36, hc, h⟩ := bd_some h
  refine r_callSi hR (c5_parts hc) (cf_X0_101 (by decide)) m_3_105 (As := [.int (ar q 24 (ix x1)), .int (ar q 24 (ix x2)), .int r_33]) rfl rfl (Nat.le_of_ble_eq_true rfl) rfl dX0_takeParts_36 ?_
  refine r_istore hR (i := 5) (lv' := [(5, .int r_36), (4, .int x4_15), (3, .int x3_7), (0, .ref (ad 5)), (1, .int x1), (2, .int x2)]) dX0_takeParts_39 rfl (by decide) rfl ?_
  refine r_iload_n hR dX0_takeParts_41 rfl 4 rfl ?_
  refine r_aload_n hR dX0_takeParts_42 rfl 3 rfl ?_
  refine g_X0_keys hR m_1_153 dX0_takeParts_43 ?_
  refine r_iload_n hR dX0_takeParts_46 rfl 2 rfl ?_
  obtain ⟨hin, h⟩ := ck_some h
  refine ld_X0_keys hR dX0_takeParts_47 hin ?_
  refine r_bipush hR dX0_takeParts_48 kc_bipush_9 ?_
  refine r_iload_n hR dX0_takeParts_50 rfl 5 rfl ?_
  refine r_aload_n hR dX0_takeParts_51 rfl 3 rfl ?_
  refine g_X0_keys hR m_1_153 dX0_takeParts_52 ?_
  refine r_iload hR dX0_takeParts_55 1 rfl ?_
  obtain ⟨hin, h⟩ := ck_some h
  refine ld_X0_keys hR dX0_takeParts_57 hin ?_
  obtain ⟨r_58, hc, h⟩ := bd_some h
  refine r_callSl hR (c0_keyOfStep hc) (cf_X0_97 (by decide)) m_3_185 (As := [.int x1, .long (lo q (ix x3_7)), .int (9 : Int32), .int x2, .long (lo q (ix x4_15))]) rfl rfl (Nat.le_of_ble_eq_true rfl) rfl dX0_takeParts_58 ?_
  refine r_lstore hR (i := 6) (lv' := [(6, .long r_58), (5, .int r_36), (4, .int x4_15), (3, .int x3_7), (0, .ref (ad 5)), (1, .int x1), (2, .int x2)]) dX0_takeParts_61 rfl (by decide) rfl ?_
  refine r_aload_n hR dX0_takeParts_63 rfl 4 rfl ?_
  refine r_iload_n hR dX0_takeParts_64 rfl 5 rfl ?_
  refine r_iload_n hR dX0_takeParts_65 rfl 6 rfl ?_
  refine r_ior hR dX0_takeParts_66 ?_
  refine r_bipush hR dX0_takeParts_67 kc_bipush_8 ?_
  refine r_aload_n hR dX0_takeParts_69 rfl 4 rfl ?_
  refine g_X0_costs hR m_1_152 dX0_takeParts_70 ?_
  refine r_iload_n hR dX0_takeParts_73 rfl 3 rfl ?_
  obtain ⟨hin, h⟩ := ck_some h
  refine ld_X0_costs hR dX0_takeParts_74 hin ?_
  refine r_aload_n hR dX0_takeParts_75 rfl 4 rfl ?_
  refine g_X0_costs hR m_1_152 dX0_takeParts_76 ?_
  refine r_iload hR dX0_takeParts_79 2 rfl ?_
  obtain ⟨hin, h⟩ := ck_some h
  refine ld_X0_costs hR dX0_takeParts_81 hin ?_
  refine r_iadd hR dX0_takeParts_82 ?_
  refine r_iload hR dX0_takeParts_83 1 rfl ?_
  refine r_iadd hR dX0_takeParts_85 ?_
  refine r_lload hR dX0_takeParts_86 0 rfl ?_
  obtain ⟨q_88, hc, h⟩ := bd_some h
  refine r_callVv hR (c0_offer hc) (cf_X0_76 (by decide)) ⟨m_3_169, ms_2_8⟩ (As := [.int (x1 ||| x2), .int (8 : Int32), .int (((ar q 22 (ix x3_7)) + (ar q 22 (ix x4_15))) + r_36), .long r_58]) (q0 := 5) (ci := 0) rfl rfl rfl rfl (rc_X0 ad _) (Nat.le_of_ble_eq_true rfl) rfl dX0_takeParts_88 ?_
  exact r_vret hR dX0_takeParts_91 rfl (rtv hP h)
theorem c0_takeParts {x1 : Int32} {x2 : Int32} {q : SS} {q2 : SS} (h : f0_takeParts x1 x2 q = some q2) : Ct wC 4 yX0_takeParts cX0_takeParts 8 none (fun ad => [.ref (ad 5), .int x1, .int x2]) q (fun _ => none) q2 :=
  ct_of (by decide) (fun _ => Nat.le_of_ble_eq_true rfl) (fun ad J hR => t0_takeParts hR ⟨rfl, rfl⟩ x1 x2 q h)
theorem t8_isLetter (hR : Rl wC 1 RX8 cX8_isLetter 1 (some .boolean) ad J P) {q : SS} {r : Int32} (hP : P (some (.int r)) q) (x0 : Int32) (h : f8_isLetter x0 = some r) : J [(0, .int x0)] [] q 0 := by
  unfold f8_isLetter at h
  refine r_iload_n hR dX8_isLetter_0 rfl 0 rfl ?_
  refine r_if_lt hR (tgt := 14) dX8_isLetter_1 (by decide) (fun c_1 => ?_) (fun c_1 => ?_)
  · replace h := it_t c_1 h
    refine r_iconst hR dX8_isLetter_14 kc_iconst_0 ?_
    exact r_zret hR dX8_isLetter_15 rfl (Or.inl rfl) (rt1 hP h)
  · replace h := it_f c_1 h
    refine r_iload_n hR dX8_isLetter_4 rfl 0 rfl ?_
    refine r_bipush hR dX8_isLetter_5 kc_bipush_8 ?_
    refine r_icmp_ge hR (tgt := 14) dX8_isLetter_7 (by decide) (fun c_7 => ?_) (fun c_7 => ?_)
    · replace h := it_t c_7 h
      refine r_iconst hR dX8_isLetter_14 kc_iconst_0 ?_
      exact r_zret hR dX8_isLetter_15 rfl (Or.inl rfl) (rt1 hP h)
    · replace h := it_f c_7 h
      refine r_iconst hR dX8_isLetter_10 kc_iconst_1 ?_
      refine r_goto hR (tgt := 15) dX8_isLetter_11 (by decide) ?_
      exact r_zret hR dX8_isLetter_15 rfl (Or.inr rfl) (rt1 hP h)
theorem c8_isLetter {x0 : Int32} {q : SS} {r : Int32} (h : f8_isLetter x0 = some r) : Ct wC 1 yX8_isLetter cX8_isLetter 1 (some .boolean) (fun ad => [.int x0]) q (fun _ => some (.int r)) q :=
  ct_of (by decide) (fun _ => Nat.le_of_ble_eq_true rfl) (fun ad J hR => t8_isLetter hR ⟨rfl, rfl⟩ x0 h)
theorem t0_slotFor_b119 (hR : Rl wC 2 RX0 cX0_slotFor 7 (some .int) ad J P) (q : SS) {r : Int32} (hP : P (some (.int r)) q) (x2 : Int32) (h : f0_slotFor_b119 q x2 = some r) : J [(2, .int x2)] [] q 119 := by
  unfold f0_slotFor_b119 at h
  refine r_iload_n hR dX0_slotFor_119 rfl 0 rfl ?_
  refine r_goto hR (tgt := 125) dX0_slotFor_120 (by decide) ?_
  exact r_iret hR dX0_slotFor_125 rfl (rt1 hP h)
theorem t0_slotFor_b100 (hR : Rl wC 2 RX0 cX0_slotFor 7 (some .int) ad J P) (q : SS) {r : Int32} (hP : P (some (.int r)) q) (x2 : Int32) (x4 : Int32) (x5 : Int32) (s0 : Int32) (h : f0_slotFor_b100 q x2 x4 x5 s0 = some r) : J [(0, .ref (ad 5)), (2, .int x2), (4, .int x4), (5, .int x5)] [.int s0] q 100 := by
  unfold f0_slotFor_b100 at h
  refine r_istore hR (i := 6) (lv' := [(6, .int s0), (0, .ref (ad 5)), (2, .int x2), (4, .int x4), (5, .int x5)]) dX0_slotFor_100 rfl (by decide) rfl ?_
  refine r_aload_n hR dX0_slotFor_102 rfl 1 rfl ?_
  refine g_X0_costs hR m_1_152 dX0_slotFor_103 ?_
  refine r_iload hR dX0_slotFor_106 3 rfl ?_
  obtain ⟨hin, h⟩ := ck_some h
  refine ld_X0_costs hR dX0_slotFor_108 hin ?_
  refine r_iload hR dX0_slotFor_109 4 rfl ?_
  refine r_icmp_lt hR (tgt := 119) dX0_slotFor_111 (by decide) (fun c_111 => ?_) (fun c_111 => ?_)
  · replace h := it_t c_111 h
    exact r_sub hR [2] rfl (t0_slotFor_b119 hR q hP _ h)
  · replace h := it_f c_111 h
    refine r_iload hR dX0_slotFor_114 0 rfl ?_
    refine r_if_eq hR (tgt := 123) dX0_slotFor_116 (by decide) (fun c_116 => ?_) (fun c_116 => ?_)
    · replace h := it_t c_116 h
      refine r_bipush hR dX0_slotFor_123 kc_bipush_8 ?_
      exact r_iret hR dX0_slotFor_125 rfl (rt1 hP h)
    · replace h := it_f c_116 h
      exact r_sub hR [2] rfl (t0_slotFor_b119 hR q hP _ h)
theorem t0_slotFor_b99 (hR : Rl wC 2 RX0 cX0_slotFor 7 (some .int) ad J P) (q : SS) {r : Int32} (hP : P (some (.int r)) q) (x2 : Int32) (x4 : Int32) (x5 : Int32) (h : f0_slotFor_b99 q x2 x4 x5 = some r) : J [(0, .ref (ad 5)), (2, .int x2), (4, .int x4), (5, .int x5)] [] q 99 := by
  unfold f0_slotFor_b99 at h
  refine r_iconst hR dX0_slotFor_99 kc_iconst_0 ?_
  exact r_sub hR [0, 1, 2, 3] rfl (t0_slotFor_b100 hR q hP _ _ _ _ h)
theorem t0_slotFor (hR : Rl wC 2 RX0 cX0_slotFor 7 (some .int) ad J P) (q : SS) {r : Int32} (hP : P (some (.int r)) q) (x1 : Int32) (x2 : Int32) (h : f0_slotFor q x1 x2 = some r) : J [(0, .ref (ad 5)), (1, .int x1), (2, .int x2)] [] q 0 := by
  unfold f0_slotFor at h
  refine r_iload_n hR dX0_slotFor_0 rfl 1 rfl ?_
  refine r_iconst hR dX0_slotFor_1 kc_iconst_1 ?_
  refine r_icmp_lt hR (tgt := 18) dX0_slotFor_2 (by decide) (fun c_2 => ?_) (fun c_2 => ?_)
  · replace h := it_t c_2 h
    refine r_bipush hR dX0_slotFor_18 kc_bipush_8 ?_
    exact r_iret hR dX0_slotFor_20 rfl (rt1 hP h)
  · replace h := it_f c_2 h
    refine r_iload_n hR dX0_slotFor_5 rfl 1 rfl ?_
    refine r_bipush hR dX0_slotFor_6 kc_bipush_64 ?_
    refine r_icmp_ge hR (tgt := 18) dX0_slotFor_8 (by decide) (fun c_8 => ?_) (fun c_8 => ?_)
    · replace h := it_t c_8 h
      refine r_bipush hR dX0_slotFor_18 kc_bipush_8 ?_
      exact r_iret hR dX0_slotFor_20 rfl (rt1 hP h)
    · replace h := it_f c_8 h
      refine r_iload_n hR dX0_slotFor_11 rfl 2 rfl ?_
      obtain ⟨r_12, hc, h⟩ := bd_some h
      refine r_callNi hR (c8_isLetter hc) (cf_nest (by decide)) m_2_83 (As := [.int x2]) rfl rfl (Nat.le_of_ble_eq_true rfl) rfl dX0_slotFor_12 ?_
      refine r_if_ne hR (tgt := 21) dX0_slotFor_15 (by decide) (fun c_15 => ?_) (fun c_15 => ?_)
      · replace h := it_f c_15 h
        refine r_iload_n hR dX0_slotFor_21 rfl 1 rfl ?_
        refine r_bipush hR dX0_slotFor_22 kc_bipush_9 ?_
        refine r_imul hR dX0_slotFor_24 ?_
        refine r_bipush hR dX0_slotFor_25 kc_bipush_8 ?_
        refine r_iadd hR dX0_slotFor_27 ?_
        obtain ⟨x3_28, hx, h⟩ := bn_some h
        refine r_istore_n hR (i := 3) (lv' := [(3, .int x3_28), (0, .ref (ad 5)), (1, .int x1), (2, .int x2)]) dX0_slotFor_28 hx rfl (by decide) rfl ?_
        refine r_iload_n hR dX0_slotFor_29 rfl 2 rfl ?_
        refine r_bipush hR dX0_slotFor_30 kc_bipush_9 ?_
        refine r_imul hR dX0_slotFor_32 ?_
        refine r_iload_n hR dX0_slotFor_33 rfl 3 rfl ?_
        refine r_iadd hR dX0_slotFor_34 ?_
        obtain ⟨x4_35, hx, h⟩ := bn_some h
        refine r_istore hR (i := 4) (lv' := [(4, .int x4_35), (3, .int x3_28), (0, .ref (ad 5)), (1, .int x1), (2, .int x2)]) dX0_slotFor_35 hx (by decide) rfl ?_
        refine r_aload_n hR dX0_slotFor_37 rfl 2 rfl ?_
        refine g_X0_costs hR m_1_152 dX0_slotFor_38 ?_
        refine r_iload hR dX0_slotFor_41 0 rfl ?_
        obtain ⟨hin, h⟩ := ck_some h
        refine ld_X0_costs hR dX0_slotFor_43 hin ?_
        refine r_iconst hR dX0_slotFor_44 kc_iconst_m1 ?_
        refine r_icmp_ne hR (tgt := 51) dX0_slotFor_45 (by decide) (fun c_45 => ?_) (fun c_45 => ?_)
        · replace h := it_f c_45 h
          refine r_aload_n hR dX0_slotFor_51 rfl 2 rfl ?_
          refine g_X0_costs hR m_1_152 dX0_slotFor_52 ?_
          refine r_iload_n hR dX0_slotFor_55 rfl 1 rfl ?_
          obtain ⟨hin, h⟩ := ck_some h
          refine ld_X0_costs hR dX0_slotFor_56 hin ?_
          refine r_aload_n hR dX0_slotFor_57 rfl 2 rfl ?_
          refine g_X0_sortings hR m_1_155 dX0_slotFor_58 ?_
          refine r_iload_n hR dX0_slotFor_61 rfl 3 rfl ?_
          obtain ⟨hin, h⟩ := ck_some h
          refine ld_X0_sortings hR dX0_slotFor_62 hin ?_
          refine r_iadd hR dX0_slotFor_63 ?_
          obtain ⟨x5_64, hx, h⟩ := bn_some h
          refine r_istore hR (i := 5) (lv' := [(5, .int x5_64), (4, .int x4_35), (3, .int x3_28), (0, .ref (ad 5)), (1, .int x1), (2, .int x2)]) dX0_slotFor_64 hx (by decide) rfl ?_
          refine r_aload_n hR dX0_slotFor_66 rfl 3 rfl ?_
          refine g_X0_costs hR m_1_152 dX0_slotFor_67 ?_
          refine r_iload hR dX0_slotFor_70 1 rfl ?_
          obtain ⟨hin, h⟩ := ck_some h
          refine ld_X0_costs hR dX0_slotFor_72 hin ?_
          refine r_iload hR dX0_slotFor_73 0 rfl ?_
          refine r_icmp_ne hR (tgt := 99) dX0_slotFor_75 (by decide) (fun c_75 => ?_) (fun c_75 => ?_)
          · replace h := it_f c_75 h
            exact r_sub hR [3, 5, 1, 0] rfl (t0_slotFor_b99 hR q hP _ _ _ h)
          · replace h := it_t c_75 h
            refine r_aload_n hR dX0_slotFor_78 rfl 3 rfl ?_
            refine g_X0_keys hR m_1_153 dX0_slotFor_79 ?_
            refine r_iload hR dX0_slotFor_82 1 rfl ?_
            obtain ⟨hin, h⟩ := ck_some h
            refine ld_X0_keys hR dX0_slotFor_84 hin ?_
            refine r_aload_n hR dX0_slotFor_85 rfl 3 rfl ?_
            refine g_X0_keys hR m_1_153 dX0_slotFor_86 ?_
            refine r_iload_n hR dX0_slotFor_89 rfl 2 rfl ?_
            obtain ⟨hin, h⟩ := ck_some h
            refine ld_X0_keys hR dX0_slotFor_90 hin ?_
            refine r_lcmp hR dX0_slotFor_91 ?_
            refine r_if_gt hR (tgt := 99) dX0_slotFor_92 (by decide) (fun c_92 => ?_) (fun c_92 => ?_)
            · replace h := it_t ((lg_cmp_gt _ _).mp c_92) h
              exact r_sub hR [3, 5, 1, 0] rfl (t0_slotFor_b99 hR q hP _ _ _ h)
            · replace h := it_f (fun z => c_92 ((lg_cmp_gt _ _).mpr z)) h
              refine r_iconst hR dX0_slotFor_95 kc_iconst_1 ?_
              refine r_goto hR (tgt := 100) dX0_slotFor_96 (by decide) ?_
              exact r_sub hR [3, 5, 1, 0] rfl (t0_slotFor_b100 hR q hP _ _ _ _ h)
        · replace h := it_t c_45 h
          refine r_bipush hR dX0_slotFor_48 kc_bipush_8 ?_
          exact r_iret hR dX0_slotFor_50 rfl (rt1 hP h)
      · replace h := it_t c_15 h
        refine r_bipush hR dX0_slotFor_18 kc_bipush_8 ?_
        exact r_iret hR dX0_slotFor_20 rfl (rt1 hP h)
theorem c0_slotFor {x1 : Int32} {x2 : Int32} {q : SS} {r : Int32} (h : f0_slotFor q x1 x2 = some r) : Ct wC 2 yX0_slotFor cX0_slotFor 7 (some .int) (fun ad => [.ref (ad 5), .int x1, .int x2]) q (fun _ => some (.int r)) q :=
  ct_of (by decide) (fun _ => Nat.le_of_ble_eq_true rfl) (fun ad J hR => t0_slotFor hR q ⟨rfl, rfl⟩ x1 x2 h)
theorem t0_costFor_b43 (hR : Rl wC 3 RX0 cX0_costFor 5 (some .int) ad J P) (q : SS) {r : Int32} (hP : P (some (.int r)) q) (x4 : Int32) (h : f0_costFor_b43 q x4 = some r) : J [(4, .int x4)] [] q 43 := by
  unfold f0_costFor_b43 at h
  refine r_iload hR dX0_costFor_43 0 rfl ?_
  refine r_goto hR (tgt := 57) dX0_costFor_45 (by decide) ?_
  exact r_iret hR dX0_costFor_57 rfl (rt1 hP h)
theorem t0_costFor (hR : Rl wC 3 RX0 cX0_costFor 5 (some .int) ad J P) (q : SS) {r : Int32} (hP : P (some (.int r)) q) (x1 : Int32) (x2 : Int32) (h : f0_costFor q x1 x2 = some r) : J [(0, .ref (ad 5)), (1, .int x1), (2, .int x2)] [] q 0 := by
  unfold f0_costFor at h
  refine r_iload_n hR dX0_costFor_0 rfl 1 rfl ?_
  refine r_iconst hR dX0_costFor_1 kc_iconst_1 ?_
  refine r_icmp_lt hR (tgt := 11) dX0_costFor_2 (by decide) (fun c_2 => ?_) (fun c_2 => ?_)
  · replace h := it_t c_2 h
    refine r_iconst hR dX0_costFor_11 kc_iconst_0 ?_
    exact r_iret hR dX0_costFor_12 rfl (rt1 hP h)
  · replace h := it_f c_2 h
    refine r_iload_n hR dX0_costFor_5 rfl 1 rfl ?_
    refine r_bipush hR dX0_costFor_6 kc_bipush_64 ?_
    refine r_icmp_lt hR (tgt := 13) dX0_costFor_8 (by decide) (fun c_8 => ?_) (fun c_8 => ?_)
    · replace h := it_t c_8 h
      refine r_aload_n hR dX0_costFor_13 rfl 0 rfl ?_
      refine r_iload_n hR dX0_costFor_14 rfl 1 rfl ?_
      refine r_iload_n hR dX0_costFor_15 rfl 2 rfl ?_
      obtain ⟨r_16, hc, h⟩ := bd_some h
      refine r_callVi hR (c0_slotFor hc) (cf_X0_118 (by decide)) ⟨m_3_206, ms_2_14⟩ (As := [.int x1, .int x2]) (q0 := 5) (ci := 0) rfl rfl rfl rfl (rc_X0 ad _) (Nat.le_of_ble_eq_true rfl) rfl dX0_costFor_16 ?_
      refine r_istore_n hR (i := 3) (lv' := [(3, .int r_16), (0, .ref (ad 5)), (1, .int x1), (2, .int x2)]) dX0_costFor_19 rfl rfl (by decide) rfl ?_
      refine r_aload_n hR dX0_costFor_20 rfl 1 rfl ?_
      refine g_X0_costs hR m_1_152 dX0_costFor_21 ?_
      refine r_iload_n hR dX0_costFor_24 rfl 2 rfl ?_
      refine r_bipush hR dX0_costFor_25 kc_bipush_9 ?_
      refine r_imul hR dX0_costFor_27 ?_
      refine r_iload_n hR dX0_costFor_28 rfl 0 rfl ?_
      refine r_iadd hR dX0_costFor_29 ?_
      obtain ⟨hin, h⟩ := ck_some h
      refine ld_X0_costs hR dX0_costFor_30 hin ?_
      obtain ⟨x4_31, hx, h⟩ := bn_some h
      refine r_istore hR (i := 4) (lv' := [(4, .int x4_31), (3, .int r_16), (0, .ref (ad 5)), (1, .int x1), (2, .int x2)]) dX0_costFor_31 hx (by decide) rfl ?_
      refine r_iload_n hR dX0_costFor_33 rfl 4 rfl ?_
      refine r_iconst hR dX0_costFor_34 kc_iconst_m1 ?_
      refine r_icmp_eq hR (tgt := 43) dX0_costFor_35 (by decide) (fun c_35 => ?_) (fun c_35 => ?_)
      · replace h := it_t c_35 h
        exact r_sub hR [0] rfl (t0_costFor_b43 hR q hP _ h)
      · replace h := it_f c_35 h
        refine r_iload_n hR dX0_costFor_38 rfl 1 rfl ?_
        refine r_iload_n hR dX0_costFor_39 rfl 4 rfl ?_
        refine r_icmp_ne hR (tgt := 48) dX0_costFor_40 (by decide) (fun c_40 => ?_) (fun c_40 => ?_)
        · replace h := it_f c_40 h
          refine r_iload hR dX0_costFor_48 0 rfl ?_
          refine r_aload_n hR dX0_costFor_50 rfl 2 rfl ?_
          refine g_X0_sortings hR m_1_155 dX0_costFor_51 ?_
          refine r_iload_n hR dX0_costFor_54 rfl 3 rfl ?_
          obtain ⟨hin, h⟩ := ck_some h
          refine ld_X0_sortings hR dX0_costFor_55 hin ?_
          refine r_iadd hR dX0_costFor_56 ?_
          exact r_iret hR dX0_costFor_57 rfl (rt1 hP h)
        · replace h := it_t c_40 h
          exact r_sub hR [0] rfl (t0_costFor_b43 hR q hP _ h)
    · replace h := it_f c_8 h
      refine r_iconst hR dX0_costFor_11 kc_iconst_0 ?_
      exact r_iret hR dX0_costFor_12 rfl (rt1 hP h)
theorem c0_costFor {x1 : Int32} {x2 : Int32} {q : SS} {r : Int32} (h : f0_costFor q x1 x2 = some r) : Ct wC 3 yX0_costFor cX0_costFor 5 (some .int) (fun ad => [.ref (ad 5), .int x1, .int x2]) q (fun _ => some (.int r)) q :=
  ct_of (by decide) (fun _ => Nat.le_of_ble_eq_true rfl) (fun ad J hR => t0_costFor hR q ⟨rfl, rfl⟩ x1 x2 h)
theorem t0_keyFor_b11 (hR : Rl wC 3 RX0 cX0_keyFor 3 (some .long) ad J P) (q : SS) {r : Int64} (hP : P (some (.long r)) q) (h : f0_keyFor_b11 q = some r) : J [] [] q 11 := by
  unfold f0_keyFor_b11 at h
  refine r_lconst hR dX0_keyFor_11 kc_lconst_0 ?_
  refine r_goto hR (tgt := 31) dX0_keyFor_12 (by decide) ?_
  exact r_lret hR dX0_keyFor_31 rfl (rt1l hP h)
theorem t0_keyFor (hR : Rl wC 3 RX0 cX0_keyFor 3 (some .long) ad J P) (q : SS) {r : Int64} (hP : P (some (.long r)) q) (x1 : Int32) (x2 : Int32) (h : f0_keyFor q x1 x2 = some r) : J [(0, .ref (ad 5)), (1, .int x1), (2, .int x2)] [] q 0 := by
  unfold f0_keyFor at h
  refine r_iload_n hR dX0_keyFor_0 rfl 1 rfl ?_
  refine r_iconst hR dX0_keyFor_1 kc_iconst_1 ?_
  refine r_icmp_lt hR (tgt := 11) dX0_keyFor_2 (by decide) (fun c_2 => ?_) (fun c_2 => ?_)
  · replace h := it_t c_2 h
    exact r_sub hR [] rfl (t0_keyFor_b11 hR q hP h)
  · replace h := it_f c_2 h
    refine r_iload_n hR dX0_keyFor_5 rfl 1 rfl ?_
    refine r_bipush hR dX0_keyFor_6 kc_bipush_64 ?_
    refine r_icmp_lt hR (tgt := 15) dX0_keyFor_8 (by decide) (fun c_8 => ?_) (fun c_8 => ?_)
    · replace h := it_t c_8 h
      refine r_aload_n hR dX0_keyFor_15 rfl 0 rfl ?_
      refine g_X0_keys hR m_1_153 dX0_keyFor_16 ?_
      refine r_iload_n hR dX0_keyFor_19 rfl 1 rfl ?_
      refine r_bipush hR dX0_keyFor_20 kc_bipush_9 ?_
      refine r_imul hR dX0_keyFor_22 ?_
      refine r_aload_n hR dX0_keyFor_23 rfl 0 rfl ?_
      refine r_iload_n hR dX0_keyFor_24 rfl 1 rfl ?_
      refine r_iload_n hR dX0_keyFor_25 rfl 2 rfl ?_
      obtain ⟨r_26, hc, h⟩ := bd_some h
      refine r_callVi hR (c0_slotFor hc) (cf_X0_118 (by decide)) ⟨m_3_206, ms_2_14⟩ (As := [.int x1, .int x2]) (q0 := 5) (ci := 0) rfl rfl rfl rfl (rc_X0 ad _) (Nat.le_of_ble_eq_true rfl) rfl dX0_keyFor_26 ?_
      refine r_iadd hR dX0_keyFor_29 ?_
      obtain ⟨hin, h⟩ := ck_some h
      refine ld_X0_keys hR dX0_keyFor_30 hin ?_
      exact r_lret hR dX0_keyFor_31 rfl (rt1l hP h)
    · replace h := it_f c_8 h
      exact r_sub hR [] rfl (t0_keyFor_b11 hR q hP h)
theorem c0_keyFor {x1 : Int32} {x2 : Int32} {q : SS} {r : Int64} (h : f0_keyFor q x1 x2 = some r) : Ct wC 3 yX0_keyFor cX0_keyFor 3 (some .long) (fun ad => [.ref (ad 5), .int x1, .int x2]) q (fun _ => some (.long r)) q :=
  ct_of (by decide) (fun _ => Nat.le_of_ble_eq_true rfl) (fun ad J hR => t0_keyFor hR q ⟨rfl, rfl⟩ x1 x2 h)
theorem t0_takeSorted (hR : Rl wC 4 RX0 cX0_takeSorted 7 none ad J P) {q2 : SS} (hP : P none q2) (x1 : Int32) (x2 : Int32) (x3 : Int32) (q : SS) (h : f0_takeSorted x1 x2 x3 q = some q2) : J [(0, .ref (ad 5)), (1, .int x1), (2, .int x2), (3, .int x3)] [] q 0 := by
  unfold f0_takeSorted at h
  refine r_aload_n hR dX0_takeSorted_0 rfl 0 rfl ?_
  refine r_iload_n hR dX0_takeSorted_1 rfl 1 rfl ?_
  refine r_iload_n hR dX0_takeSorted_2 rfl 3 rfl ?_
  obtain ⟨r_3, hc, h⟩ := bd_some h
  refine r_callVi hR (c0_costFor hc) (cf_X0_104 (by decide)) ⟨m_3_201, m_3_202⟩ (As := [.int x1, .int x3]) (q0 := 5) (ci := 0) rfl rfl rfl rfl (rc_X0 ad _) (Nat.le_of_ble_eq_true rfl) rfl dX0_takeSorted_3 ?_
  refine r_aload_n hR dX0_takeSorted_6 rfl 0 rfl ?_
  refine r_iload_n hR dX0_takeSorted_7 rfl 2 rfl ?_
  refine r_iload_n hR dX0_takeSorted_8 rfl 3 rfl ?_
  obtain ⟨r_9, hc, h⟩ := bd_some h
  refine r_callVi hR (c0_costFor hc) (cf_X0_104 (by decide)) ⟨m_3_201, m_3_202⟩ (As := [.int x2, .int x3]) (q0 := 5) (ci := 0) rfl rfl rfl rfl (rc_X0 ad _) (Nat.le_of_ble_eq_true rfl) rfl dX0_takeSorted_9 ?_
  refine r_iadd hR dX0_takeSorted_12 ?_
  obtain ⟨x4_13, hx, h⟩ := bn_some h
  refine r_istore hR (i := 4) (lv' := [(4, .int x4_13), (0, .ref (ad 5)), (1, .int x1), (2, .int x2), (3, .int x3)]) dX0_takeSorted_13 hx (by decide) rfl ?_
  refine r_iload_n hR dX0_takeSorted_15 rfl 2 rfl ?_
  refine r_aload_n hR dX0_takeSorted_16 rfl 1 rfl ?_
  refine r_iload_n hR dX0_takeSorted_17 rfl 2 rfl ?_
  refine r_iload_n hR dX0_takeSorted_18 rfl 4 rfl ?_
  obtain ⟨r_19, hc, h⟩ := bd_some h
  refine r_callVl hR (c0_keyFor hc) (cf_X0_107 (by decide)) ⟨m_3_211, ms_2_15⟩ (As := [.int x1, .int x3]) (q0 := 5) (ci := 0) rfl rfl rfl rfl (rc_X0 ad _) (Nat.le_of_ble_eq_true rfl) rfl dX0_takeSorted_19 ?_
  refine r_bipush hR dX0_takeSorted_22 kc_bipush_10 ?_
  refine r_iload_n hR dX0_takeSorted_24 rfl 3 rfl ?_
  refine r_aload_n hR dX0_takeSorted_25 rfl 1 rfl ?_
  refine r_iload_n hR dX0_takeSorted_26 rfl 3 rfl ?_
  refine r_iload_n hR dX0_takeSorted_27 rfl 4 rfl ?_
  obtain ⟨r_28, hc, h⟩ := bd_some h
  refine r_callVl hR (c0_keyFor hc) (cf_X0_107 (by decide)) ⟨m_3_211, ms_2_15⟩ (As := [.int x2, .int x3]) (q0 := 5) (ci := 0) rfl rfl rfl rfl (rc_X0 ad _) (Nat.le_of_ble_eq_true rfl) rfl dX0_takeSorted_28 ?_
  obtain ⟨r_31, hc, h⟩ := bd_some h
  refine r_callSl hR (c0_keyOfStep hc) (cf_X0_97 (by decide)) m_3_185 (As := [.int x1, .long r_19, .int (10 : Int32), .int x2, .long r_28]) rfl rfl (Nat.le_of_ble_eq_true rfl) rfl dX0_takeSorted_31 ?_
  refine r_lstore hR (i := 5) (lv' := [(5, .long r_31), (4, .int x4_13), (0, .ref (ad 5)), (1, .int x1), (2, .int x2), (3, .int x3)]) dX0_takeSorted_34 rfl (by decide) rfl ?_
  refine r_aload_n hR dX0_takeSorted_36 rfl 2 rfl ?_
  refine r_iload_n hR dX0_takeSorted_37 rfl 3 rfl ?_
  refine r_iload_n hR dX0_takeSorted_38 rfl 4 rfl ?_
  refine r_ior hR dX0_takeSorted_39 ?_
  refine r_iload_n hR dX0_takeSorted_40 rfl 5 rfl ?_
  refine r_iload hR dX0_takeSorted_41 1 rfl ?_
  refine r_lload hR dX0_takeSorted_43 0 rfl ?_
  obtain ⟨q_45, hc, h⟩ := bd_some h
  refine r_callVv hR (c0_offer hc) (cf_X0_76 (by decide)) ⟨m_3_169, ms_2_8⟩ (As := [.int (x1 ||| x2), .int x3, .int x4_13, .long r_31]) (q0 := 5) (ci := 0) rfl rfl rfl rfl (rc_X0 ad _) (Nat.le_of_ble_eq_true rfl) rfl dX0_takeSorted_45 ?_
  exact r_vret hR dX0_takeSorted_48 rfl (rtv hP h)
theorem c0_takeSorted {x1 : Int32} {x2 : Int32} {x3 : Int32} {q : SS} {q2 : SS} (h : f0_takeSorted x1 x2 x3 q = some q2) : Ct wC 4 yX0_takeSorted cX0_takeSorted 7 none (fun ad => [.ref (ad 5), .int x1, .int x2, .int x3]) q (fun _ => none) q2 :=
  ct_of (by decide) (fun _ => Nat.le_of_ble_eq_true rfl) (fun ad J hR => t0_takeSorted hR ⟨rfl, rfl⟩ x1 x2 x3 q h)
theorem t7_lettersOfSet_b30 (hR : Rl wC 1 RX7 cX7_lettersOfSet 4 (some .int) ad J P) (N : Nat) (q : SS) {r : Int32} (hP : P (some (.int r)) q) (bk4 : Int32 → Int32 → Int32 → Option Int32) (hbk4 : ∀ (x1 : Int32) (x2 : Int32) (x3 : Int32), bk4 x1 x2 x3 = some r → J [(0, .ref (ad 1)), (1, .int x1), (2, .int x2), (3, .int x3)] [] q 4) (x1 : Int32) (x2 : Int32) (x3 : Int32) (h : f7_lettersOfSet_b30 N q bk4 x1 x2 x3 = some r) : J [(0, .ref (ad 1)), (1, .int x1), (2, .int x2), (3, .int x3)] [] q 30 := by
  unfold f7_lettersOfSet_b30 at h
  obtain ⟨x3_30, hx, h⟩ := bn_some h
  refine r_iinc hR (i := 3) (lv' := [(3, .int x3_30), (0, .ref (ad 1)), (1, .int x1), (2, .int x2)]) dX7_lettersOfSet_30 3 rfl (inc_ok hx kc_iconst_1) (by decide) rfl ?_
  refine r_goto hR (tgt := 4) dX7_lettersOfSet_33 (by decide) ?_
  exact r_sub hR [1, 2, 3, 0] rfl (hbk4 _ _ _ h)
theorem t7_lettersOfSet_l4_B (hR : Rl wC 1 RX7 cX7_lettersOfSet 4 (some .int) ad J P) (N : Nat) (q : SS) {r : Int32} (hP : P (some (.int r)) q) (bk4 : Int32 → Int32 → Int32 → Option Int32) (hbk4 : ∀ (x1 : Int32) (x2 : Int32) (x3 : Int32), bk4 x1 x2 x3 = some r → J [(0, .ref (ad 1)), (1, .int x1), (2, .int x2), (3, .int x3)] [] q 4) (x1 : Int32) (x2 : Int32) (x3 : Int32) (h : f7_lettersOfSet_l4_B N q bk4 x1 x2 x3 = some r) : J [(0, .ref (ad 1)), (1, .int x1), (2, .int x2), (3, .int x3)] [] q 4 := by
  unfold f7_lettersOfSet_l4_B at h
  refine r_iload_n hR dX7_lettersOfSet_4 rfl 3 rfl ?_
  refine r_aload_n hR dX7_lettersOfSet_5 rfl 0 rfl ?_
  refine g_X7_made hR m_1_33 dX7_lettersOfSet_6 ?_
  refine r_icmp_ge hR (tgt := 36) dX7_lettersOfSet_9 (by decide) (fun c_9 => ?_) (fun c_9 => ?_)
  · replace h := it_t c_9 h
    refine r_iload_n hR dX7_lettersOfSet_36 rfl 2 rfl ?_
    exact r_iret hR dX7_lettersOfSet_37 rfl (rt1 hP h)
  · replace h := it_f c_9 h
    refine r_iload_n hR dX7_lettersOfSet_12 rfl 1 rfl ?_
    refine r_iload_n hR dX7_lettersOfSet_13 rfl 3 rfl ?_
    refine r_ishr hR dX7_lettersOfSet_14 ?_
    refine r_iconst hR dX7_lettersOfSet_15 kc_iconst_1 ?_
    refine r_iand hR dX7_lettersOfSet_16 ?_
    refine r_iconst hR dX7_lettersOfSet_17 kc_iconst_1 ?_
    refine r_icmp_ne hR (tgt := 30) dX7_lettersOfSet_18 (by decide) (fun c_18 => ?_) (fun c_18 => ?_)
    · replace h := it_f c_18 h
      exact r_sub hR [0, 1, 2, 3] rfl (t7_lettersOfSet_b30 hR N q hP bk4 hbk4 _ _ _ h)
    · replace h := it_t c_18 h
      refine r_iload_n hR dX7_lettersOfSet_21 rfl 2 rfl ?_
      refine r_aload_n hR dX7_lettersOfSet_22 rfl 0 rfl ?_
      refine g_X7_letterBits hR m_1_28 dX7_lettersOfSet_23 ?_
      refine r_iload_n hR dX7_lettersOfSet_26 rfl 3 rfl ?_
      obtain ⟨hin, h⟩ := ck_some h
      refine ld_X7_letterBits hR dX7_lettersOfSet_27 hin ?_
      refine r_ior hR dX7_lettersOfSet_28 ?_
      obtain ⟨x2_29, hx, h⟩ := bn_some h
      refine r_istore_n hR (i := 2) (lv' := [(2, .int x2_29), (0, .ref (ad 1)), (1, .int x1), (3, .int x3)]) dX7_lettersOfSet_29 hx rfl (by decide) rfl ?_
      exact r_sub hR [1, 2, 0, 3] rfl (t7_lettersOfSet_b30 hR N q hP bk4 hbk4 _ _ _ h)
theorem t7_lettersOfSet_l4 (hR : Rl wC 1 RX7 cX7_lettersOfSet 4 (some .int) ad J P) (N : Nat) (q : SS) {r : Int32} (hP : P (some (.int r)) q) : ∀ (n : Nat) (x1 : Int32) (x2 : Int32) (x3 : Int32), f7_lettersOfSet_l4 N q n x1 x2 x3 = some r → J [(0, .ref (ad 1)), (1, .int x1), (2, .int x2), (3, .int x3)] [] q 4 := by
  intro n
  induction n with
  | zero => intro x1 x2 x3 h; exact mu_noneF h
  | succ n ih => intro x1 x2 x3 h; exact t7_lettersOfSet_l4_B hR N q hP _ ih x1 x2 x3 h
theorem t7_lettersOfSet (hR : Rl wC 1 RX7 cX7_lettersOfSet 4 (some .int) ad J P) (N : Nat) (q : SS) {r : Int32} (hP : P (some (.int r)) q) (x1 : Int32) (h : f7_lettersOfSet N q x1 = some r) : J [(0, .ref (ad 1)), (1, .int x1)] [] q 0 := by
  unfold f7_lettersOfSet at h
  refine r_iconst hR dX7_lettersOfSet_0 kc_iconst_0 ?_
  refine r_istore_n hR (i := 2) (lv' := [(2, .int (0 : Int32)), (0, .ref (ad 1)), (1, .int x1)]) dX7_lettersOfSet_1 rfl rfl (by decide) rfl ?_
  refine r_iconst hR dX7_lettersOfSet_2 kc_iconst_0 ?_
  refine r_istore_n hR (i := 3) (lv' := [(3, .int (0 : Int32)), (2, .int (0 : Int32)), (0, .ref (ad 1)), (1, .int x1)]) dX7_lettersOfSet_3 rfl rfl (by decide) rfl ?_
  exact r_sub hR [2, 3, 1, 0] rfl (t7_lettersOfSet_l4 hR N q hP N _ _ _ h)
theorem c7_lettersOfSet (N : Nat) {x1 : Int32} {q : SS} {r : Int32} (h : f7_lettersOfSet N q x1 = some r) : Ct wC 1 yX7_lettersOfSet cX7_lettersOfSet 4 (some .int) (fun ad => [.ref (ad 1), .int x1]) q (fun _ => some (.int r)) q :=
  ct_of (by decide) (fun _ => Nat.le_of_ble_eq_true rfl) (fun ad J hR => t7_lettersOfSet hR N q ⟨rfl, rfl⟩ x1 h)
theorem t0_takeSteps_b98 (hR : Rl wC 5 RX0 cX0_takeSteps 7 none ad J P) (N : Nat) {q2 : SS} (hP : P none q2) (bk2 : Int32 → Int32 → Int32 → SS → Option SS) (hbk2 : ∀ (x1 : Int32) (x2 : Int32) (x3 : Int32) (q : SS), bk2 x1 x2 x3 q = some q2 → J [(0, .ref (ad 5)), (1, .int x1), (2, .int x2), (3, .int x3)] [] q 2) (x1 : Int32) (x2 : Int32) (x3 : Int32) (q : SS) (h : f0_takeSteps_b98 N bk2 x1 x2 x3 q = some q2) : J [(0, .ref (ad 5)), (1, .int x1), (2, .int x2), (3, .int x3)] [] q 98 := by
  unfold f0_takeSteps_b98 at h
  obtain ⟨x3_98, hx, h⟩ := bn_some h
  refine r_iinc hR (i := 3) (lv' := [(3, .int x3_98), (0, .ref (ad 5)), (1, .int x1), (2, .int x2)]) dX0_takeSteps_98 3 rfl (inc_ok hx kc_iconst_1) (by decide) rfl ?_
  refine r_goto hR (tgt := 2) dX0_takeSteps_101 (by decide) ?_
  exact r_sub hR [1, 2, 3, 0] rfl (hbk2 _ _ _ _ h)
theorem t0_takeSteps_b32 (hR : Rl wC 5 RX0 cX0_takeSteps 7 none ad J P) (N : Nat) {q2 : SS} (hP : P none q2) (bk2 : Int32 → Int32 → Int32 → SS → Option SS) (hbk2 : ∀ (x1 : Int32) (x2 : Int32) (x3 : Int32) (q : SS), bk2 x1 x2 x3 q = some q2 → J [(0, .ref (ad 5)), (1, .int x1), (2, .int x2), (3, .int x3)] [] q 2) (x1 : Int32) (x2 : Int32) (x3 : Int32) (x4 : Int32) (s0 : Int32) (q : SS) (h : f0_takeSteps_b32 N bk2 x1 x2 x3 x4 s0 q = some q2) : J [(0, .ref (ad 5)), (1, .int x1), (2, .int x2), (3, .int x3), (4, .int x4)] [.int s0] q 32 := by
  unfold f0_takeSteps_b32 at h
  refine r_istore hR (i := 5) (lv' := [(5, .int s0), (0, .ref (ad 5)), (1, .int x1), (2, .int x2), (3, .int x3), (4, .int x4)]) dX0_takeSteps_32 rfl (by decide) rfl ?_
  refine r_iload_n hR dX0_takeSteps_34 rfl 4 rfl ?_
  refine r_iload_n hR dX0_takeSteps_35 rfl 2 rfl ?_
  refine r_iconst hR dX0_takeSteps_36 kc_iconst_m1 ?_
  refine r_ixor hR dX0_takeSteps_37 ?_
  refine r_iand hR dX0_takeSteps_38 ?_
  refine r_if_ne hR (tgt := 98) dX0_takeSteps_39 (by decide) (fun c_39 => ?_) (fun c_39 => ?_)
  · replace h := it_f c_39 h
    exact r_sub hR [1, 2, 3, 4] rfl (t0_takeSteps_b98 hR N hP bk2 hbk2 _ _ _ _ h)
  · replace h := it_t c_39 h
    refine r_iload hR dX0_takeSteps_42 0 rfl ?_
    refine r_if_eq hR (tgt := 98) dX0_takeSteps_44 (by decide) (fun c_44 => ?_) (fun c_44 => ?_)
    · replace h := it_t c_44 h
      exact r_sub hR [1, 2, 3, 4] rfl (t0_takeSteps_b98 hR N hP bk2 hbk2 _ _ _ _ h)
    · replace h := it_f c_44 h
      refine r_aload_n hR dX0_takeSteps_47 rfl 1 rfl ?_
      refine r_iload_n hR dX0_takeSteps_48 rfl 4 rfl ?_
      refine r_iload hR dX0_takeSteps_49 5 rfl ?_
      obtain ⟨q_51, hc, h⟩ := bd_some h
      refine r_callVv hR (c0_takeLoops N hc) (cf_X0_80 (by decide)) ⟨m_3_181, ms_2_11⟩ (As := [.int x3, .int x4]) (q0 := 5) (ci := 0) rfl rfl rfl rfl (rc_X0 ad _) (Nat.le_of_ble_eq_true rfl) rfl dX0_takeSteps_51 ?_
      refine r_aload_n hR dX0_takeSteps_54 rfl 1 rfl ?_
      refine g_X0_shelf hR m_1_150 dX0_takeSteps_55 ?_
      refine r_iload_n hR dX0_takeSteps_58 rfl 4 rfl ?_
      obtain ⟨r_59, hc, h⟩ := bd_some h
      refine r_callVi hR (c7_lettersOfSet N hc) (cf_X0_83 (by decide)) ⟨m_2_175, m_2_176⟩ (As := [.int x3]) (q0 := 1) (ci := 5) rfl rfl rfl rfl (rc_X7 ad _) (Nat.le_of_ble_eq_true rfl) rfl dX0_takeSteps_59 ?_
      refine r_aload_n hR dX0_takeSteps_62 rfl 1 rfl ?_
      refine g_X0_shelf hR m_1_150 dX0_takeSteps_63 ?_
      refine r_iload hR dX0_takeSteps_66 5 rfl ?_
      obtain ⟨r_68, hc, h⟩ := bd_some h
      refine r_callVi hR (c7_lettersOfSet N hc) (cf_X0_83 (by decide)) ⟨m_2_175, m_2_176⟩ (As := [.int x4]) (q0 := 1) (ci := 5) rfl rfl rfl rfl (rc_X7 ad _) (Nat.le_of_ble_eq_true rfl) rfl dX0_takeSteps_68 ?_
      refine r_iand hR dX0_takeSteps_71 ?_
      obtain ⟨x6_72, hx, h⟩ := bn_some h
      refine r_istore hR (i := 6) (lv' := [(6, .int x6_72), (5, .int s0), (0, .ref (ad 5)), (1, .int x1), (2, .int x2), (3, .int x3), (4, .int x4)]) dX0_takeSteps_72 hx (by decide) rfl ?_
      refine r_iload hR dX0_takeSteps_74 0 rfl ?_
      refine r_if_eq hR (tgt := 98) dX0_takeSteps_76 (by decide) (fun c_76 => ?_) (fun c_76 => ?_)
      · replace h := it_t c_76 h
        exact r_sub hR [2, 3, 4, 5] rfl (t0_takeSteps_b98 hR N hP bk2 hbk2 _ _ _ _ h)
      · replace h := it_f c_76 h
        refine r_aload_n hR dX0_takeSteps_79 rfl 2 rfl ?_
        refine r_iload_n hR dX0_takeSteps_80 rfl 5 rfl ?_
        refine r_iload hR dX0_takeSteps_81 6 rfl ?_
        obtain ⟨q_83, hc, h⟩ := bd_some h
        refine r_callVv hR (c0_takeParts hc) (cf_X0_86 (by decide)) ⟨m_3_193, ms_2_12⟩ (As := [.int x3, .int x4]) (q0 := 5) (ci := 0) rfl rfl rfl rfl (rc_X0 ad _) (Nat.le_of_ble_eq_true rfl) rfl dX0_takeSteps_83 ?_
        refine r_aload_n hR dX0_takeSteps_86 rfl 2 rfl ?_
        refine r_iload_n hR dX0_takeSteps_87 rfl 5 rfl ?_
        refine r_iload hR dX0_takeSteps_88 6 rfl ?_
        refine r_iload hR dX0_takeSteps_90 0 rfl ?_
        obtain ⟨r_92, hc, h⟩ := bd_some h
        refine r_callSi hR (cJ6_numberOfTrailingZeros hc) (cf_X0_70 (by decide)) m_2_201 (As := [.int x6_72]) rfl rfl (Nat.le_of_ble_eq_true rfl) rfl dX0_takeSteps_92 ?_
        obtain ⟨q_95, hc, h⟩ := bd_some h
        refine r_callVv hR (c0_takeSorted hc) (cf_X0_89 (by decide)) ⟨m_3_198, ms_2_13⟩ (As := [.int x3, .int x4, .int r_92]) (q0 := 5) (ci := 0) rfl rfl rfl rfl (rc_X0 ad _) (Nat.le_of_ble_eq_true rfl) rfl dX0_takeSteps_95 ?_
        exact r_sub hR [2, 3, 4, 5] rfl (t0_takeSteps_b98 hR N hP bk2 hbk2 _ _ _ _ h)
theorem t0_takeSteps_b27 (hR : Rl wC 5 RX0 cX0_takeSteps 7 none ad J P) (N : Nat) {q2 : SS} (hP : P none q2) (bk2 : Int32 → Int32 → Int32 → SS → Option SS) (hbk2 : ∀ (x1 : Int32) (x2 : Int32) (x3 : Int32) (q : SS), bk2 x1 x2 x3 q = some q2 → J [(0, .ref (ad 5)), (1, .int x1), (2, .int x2), (3, .int x3)] [] q 2) (x1 : Int32) (x2 : Int32) (x3 : Int32) (x4 : Int32) (q : SS) (h : f0_takeSteps_b27 N bk2 x1 x2 x3 x4 q = some q2) : J [(0, .ref (ad 5)), (1, .int x1), (2, .int x2), (3, .int x3), (4, .int x4)] [] q 27 := by
  unfold f0_takeSteps_b27 at h
  refine r_iconst hR dX0_takeSteps_27 kc_iconst_1 ?_
  refine r_goto hR (tgt := 32) dX0_takeSteps_28 (by decide) ?_
  exact r_sub hR [0, 1, 2, 3, 4] rfl (t0_takeSteps_b32 hR N hP bk2 hbk2 _ _ _ _ _ _ h)
theorem t0_takeSteps_l2_B (hR : Rl wC 5 RX0 cX0_takeSteps 7 none ad J P) (N : Nat) {q2 : SS} (hP : P none q2) (bk2 : Int32 → Int32 → Int32 → SS → Option SS) (hbk2 : ∀ (x1 : Int32) (x2 : Int32) (x3 : Int32) (q : SS), bk2 x1 x2 x3 q = some q2 → J [(0, .ref (ad 5)), (1, .int x1), (2, .int x2), (3, .int x3)] [] q 2) (x1 : Int32) (x2 : Int32) (x3 : Int32) (q : SS) (h : f0_takeSteps_l2_B N bk2 x1 x2 x3 q = some q2) : J [(0, .ref (ad 5)), (1, .int x1), (2, .int x2), (3, .int x3)] [] q 2 := by
  unfold f0_takeSteps_l2_B at h
  refine r_iload_n hR dX0_takeSteps_2 rfl 3 rfl ?_
  refine r_iload_n hR dX0_takeSteps_3 rfl 1 rfl ?_
  refine r_icmp_ge hR (tgt := 104) dX0_takeSteps_4 (by decide) (fun c_4 => ?_) (fun c_4 => ?_)
  · replace h := it_t c_4 h
    exact r_vret hR dX0_takeSteps_104 rfl (rtv hP h)
  · replace h := it_f c_4 h
    refine r_iload_n hR dX0_takeSteps_7 rfl 1 rfl ?_
    refine r_iload_n hR dX0_takeSteps_8 rfl 3 rfl ?_
    refine r_iconst hR dX0_takeSteps_9 kc_iconst_m1 ?_
    refine r_ixor hR dX0_takeSteps_10 ?_
    refine r_iand hR dX0_takeSteps_11 ?_
    obtain ⟨x4_12, hx, h⟩ := bn_some h
    refine r_istore hR (i := 4) (lv' := [(4, .int x4_12), (0, .ref (ad 5)), (1, .int x1), (2, .int x2), (3, .int x3)]) dX0_takeSteps_12 hx (by decide) rfl ?_
    refine r_iload_n hR dX0_takeSteps_14 rfl 3 rfl ?_
    refine r_if_eq hR (tgt := 27) dX0_takeSteps_15 (by decide) (fun c_15 => ?_) (fun c_15 => ?_)
    · replace h := it_t c_15 h
      exact r_sub hR [1, 2, 3, 4, 0] rfl (t0_takeSteps_b27 hR N hP bk2 hbk2 _ _ _ _ _ h)
    · replace h := it_f c_15 h
      refine r_iload hR dX0_takeSteps_18 0 rfl ?_
      obtain ⟨r_20, hc, h⟩ := bd_some h
      refine r_callSi hR (cJ6_bitCount hc) (cf_X0_57 (by decide)) m_1_228 (As := [.int x4_12]) rfl rfl (Nat.le_of_ble_eq_true rfl) rfl dX0_takeSteps_20 ?_
      refine r_iconst hR dX0_takeSteps_23 kc_iconst_1 ?_
      refine r_icmp_ne hR (tgt := 31) dX0_takeSteps_24 (by decide) (fun c_24 => ?_) (fun c_24 => ?_)
      · replace h := it_f c_24 h
        refine r_iconst hR dX0_takeSteps_31 kc_iconst_0 ?_
        exact r_sub hR [1, 2, 3, 4, 0] rfl (t0_takeSteps_b32 hR N hP bk2 hbk2 _ _ _ _ _ _ h)
      · replace h := it_t c_24 h
        exact r_sub hR [1, 2, 3, 4, 0] rfl (t0_takeSteps_b27 hR N hP bk2 hbk2 _ _ _ _ _ h)
theorem t0_takeSteps_l2 (hR : Rl wC 5 RX0 cX0_takeSteps 7 none ad J P) (N : Nat) {q2 : SS} (hP : P none q2) : ∀ (n : Nat) (x1 : Int32) (x2 : Int32) (x3 : Int32) (q : SS), f0_takeSteps_l2 N n x1 x2 x3 q = some q2 → J [(0, .ref (ad 5)), (1, .int x1), (2, .int x2), (3, .int x3)] [] q 2 := by
  intro n
  induction n with
  | zero => intro x1 x2 x3 q h; exact mu_noneF h
  | succ n ih => intro x1 x2 x3 q h; exact t0_takeSteps_l2_B hR N hP _ ih x1 x2 x3 q h
theorem t0_takeSteps (hR : Rl wC 5 RX0 cX0_takeSteps 7 none ad J P) (N : Nat) {q2 : SS} (hP : P none q2) (x1 : Int32) (x2 : Int32) (q : SS) (h : f0_takeSteps N x1 x2 q = some q2) : J [(0, .ref (ad 5)), (1, .int x1), (2, .int x2)] [] q 0 := by
  unfold f0_takeSteps at h
  refine r_iconst hR dX0_takeSteps_0 kc_iconst_1 ?_
  refine r_istore_n hR (i := 3) (lv' := [(3, .int (1 : Int32)), (0, .ref (ad 5)), (1, .int x1), (2, .int x2)]) dX0_takeSteps_1 rfl rfl (by decide) rfl ?_
  exact r_sub hR [1, 2, 3, 0] rfl (t0_takeSteps_l2 hR N hP N _ _ _ _ h)
theorem c0_takeSteps (N : Nat) {x1 : Int32} {x2 : Int32} {q : SS} {q2 : SS} (h : f0_takeSteps N x1 x2 q = some q2) : Ct wC 5 yX0_takeSteps cX0_takeSteps 7 none (fun ad => [.ref (ad 5), .int x1, .int x2]) q (fun _ => none) q2 :=
  ct_of (by decide) (fun _ => Nat.le_of_ble_eq_true rfl) (fun ad J hR => t0_takeSteps hR N ⟨rfl, rfl⟩ x1 x2 q h)
theorem t7_hasLetter (hR : Rl wC 1 RX7 cX7_hasLetter 3 (some .boolean) ad J P) (q : SS) {r : Int32} (hP : P (some (.int r)) q) (x1 : Int32) (x2 : Int32) (h : f7_hasLetter q x1 x2 = some r) : J [(0, .ref (ad 1)), (1, .int x1), (2, .int x2)] [] q 0 := by
  unfold f7_hasLetter at h
  refine r_iload_n hR dX7_hasLetter_0 rfl 1 rfl ?_
  refine r_if_lt hR (tgt := 40) dX7_hasLetter_1 (by decide) (fun c_1 => ?_) (fun c_1 => ?_)
  · replace h := it_t c_1 h
    refine r_iconst hR dX7_hasLetter_40 kc_iconst_0 ?_
    exact r_zret hR dX7_hasLetter_41 rfl (Or.inl rfl) (rt1 hP h)
  · replace h := it_f c_1 h
    refine r_iload_n hR dX7_hasLetter_4 rfl 1 rfl ?_
    refine r_aload_n hR dX7_hasLetter_5 rfl 0 rfl ?_
    refine g_X7_made hR m_1_33 dX7_hasLetter_6 ?_
    refine r_icmp_ge hR (tgt := 40) dX7_hasLetter_9 (by decide) (fun c_9 => ?_) (fun c_9 => ?_)
    · replace h := it_t c_9 h
      refine r_iconst hR dX7_hasLetter_40 kc_iconst_0 ?_
      exact r_zret hR dX7_hasLetter_41 rfl (Or.inl rfl) (rt1 hP h)
    · replace h := it_f c_9 h
      refine r_iload_n hR dX7_hasLetter_12 rfl 2 rfl ?_
      refine r_if_lt hR (tgt := 40) dX7_hasLetter_13 (by decide) (fun c_13 => ?_) (fun c_13 => ?_)
      · replace h := it_t c_13 h
        refine r_iconst hR dX7_hasLetter_40 kc_iconst_0 ?_
        exact r_zret hR dX7_hasLetter_41 rfl (Or.inl rfl) (rt1 hP h)
      · replace h := it_f c_13 h
        refine r_iload_n hR dX7_hasLetter_16 rfl 2 rfl ?_
        refine r_bipush hR dX7_hasLetter_17 kc_bipush_8 ?_
        refine r_icmp_ge hR (tgt := 40) dX7_hasLetter_19 (by decide) (fun c_19 => ?_) (fun c_19 => ?_)
        · replace h := it_t c_19 h
          refine r_iconst hR dX7_hasLetter_40 kc_iconst_0 ?_
          exact r_zret hR dX7_hasLetter_41 rfl (Or.inl rfl) (rt1 hP h)
        · replace h := it_f c_19 h
          refine r_aload_n hR dX7_hasLetter_22 rfl 0 rfl ?_
          refine g_X7_letterBits hR m_1_28 dX7_hasLetter_23 ?_
          refine r_iload_n hR dX7_hasLetter_26 rfl 1 rfl ?_
          obtain ⟨hin, h⟩ := ck_some h
          refine ld_X7_letterBits hR dX7_hasLetter_27 hin ?_
          refine r_iload_n hR dX7_hasLetter_28 rfl 2 rfl ?_
          refine r_ishr hR dX7_hasLetter_29 ?_
          refine r_iconst hR dX7_hasLetter_30 kc_iconst_1 ?_
          refine r_iand hR dX7_hasLetter_31 ?_
          refine r_iconst hR dX7_hasLetter_32 kc_iconst_1 ?_
          refine r_icmp_ne hR (tgt := 40) dX7_hasLetter_33 (by decide) (fun c_33 => ?_) (fun c_33 => ?_)
          · replace h := it_f c_33 h
            refine r_iconst hR dX7_hasLetter_40 kc_iconst_0 ?_
            exact r_zret hR dX7_hasLetter_41 rfl (Or.inl rfl) (rt1 hP h)
          · replace h := it_t c_33 h
            refine r_iconst hR dX7_hasLetter_36 kc_iconst_1 ?_
            refine r_goto hR (tgt := 41) dX7_hasLetter_37 (by decide) ?_
            exact r_zret hR dX7_hasLetter_41 rfl (Or.inr rfl) (rt1 hP h)
theorem c7_hasLetter {x1 : Int32} {x2 : Int32} {q : SS} {r : Int32} (h : f7_hasLetter q x1 x2 = some r) : Ct wC 1 yX7_hasLetter cX7_hasLetter 3 (some .boolean) (fun ad => [.ref (ad 1), .int x1, .int x2]) q (fun _ => some (.int r)) q :=
  ct_of (by decide) (fun _ => Nat.le_of_ble_eq_true rfl) (fun ad J hR => t7_hasLetter hR q ⟨rfl, rfl⟩ x1 x2 h)
theorem t4_numberIn (hR : Rl wC 1 RX4 cX4_numberIn 2 (some .int) ad J P) {q : SS} {r : Int32} (hP : P (some (.int r)) q) (x0 : Int32) (x1 : Int32) (h : f4_numberIn x0 x1 = some r) : J [(0, .int x0), (1, .int x1)] [] q 0 := by
  unfold f4_numberIn at h
  refine r_iload_n hR dX4_numberIn_0 rfl 0 rfl ?_
  refine r_iconst hR dX4_numberIn_1 kc_iconst_4 ?_
  refine r_iload_n hR dX4_numberIn_2 rfl 1 rfl ?_
  refine r_imul hR dX4_numberIn_3 ?_
  refine r_iushr hR dX4_numberIn_4 ?_
  refine r_bipush hR dX4_numberIn_5 kc_bipush_15 ?_
  refine r_iand hR dX4_numberIn_7 ?_
  exact r_iret hR dX4_numberIn_8 rfl (rt1 hP h)
theorem c4_numberIn {x0 : Int32} {x1 : Int32} {q : SS} {r : Int32} (h : f4_numberIn x0 x1 = some r) : Ct wC 1 yX4_numberIn cX4_numberIn 2 (some .int) (fun ad => [.int x0, .int x1]) q (fun _ => some (.int r)) q :=
  ct_of (by decide) (fun _ => Nat.le_of_ble_eq_true rfl) (fun ad J hR => t4_numberIn hR ⟨rfl, rfl⟩ x0 x1 h)
theorem t7_codeAt_b31 (hR : Rl wC 1 RX7 cX7_codeAt 4 (some .int) ad J P) (q : SS) {r : Int32} (hP : P (some (.int r)) q) (x1 : Int32) (x2 : Int32) (s0 : Int32) (h : f7_codeAt_b31 q x1 x2 s0 = some r) : J [(0, .ref (ad 1)), (1, .int x1), (2, .int x2)] [.int s0] q 31 := by
  unfold f7_codeAt_b31 at h
  refine r_istore_n hR (i := 3) (lv' := [(3, .int s0), (0, .ref (ad 1)), (1, .int x1), (2, .int x2)]) dX7_codeAt_31 rfl rfl (by decide) rfl ?_
  refine r_iload_n hR dX7_codeAt_32 rfl 0 rfl ?_
  refine r_if_eq hR (tgt := 50) dX7_codeAt_33 (by decide) (fun c_33 => ?_) (fun c_33 => ?_)
  · replace h := it_t c_33 h
    refine r_iconst hR dX7_codeAt_50 kc_iconst_0 ?_
    exact r_iret hR dX7_codeAt_51 rfl (rt1 hP h)
  · replace h := it_f c_33 h
    refine r_aload_n hR dX7_codeAt_36 rfl 1 rfl ?_
    refine g_X7_codes hR m_1_31 dX7_codeAt_37 ?_
    refine r_iload_n hR dX7_codeAt_40 rfl 2 rfl ?_
    refine r_bipush hR dX7_codeAt_41 kc_bipush_8 ?_
    refine r_imul hR dX7_codeAt_43 ?_
    refine r_iload_n hR dX7_codeAt_44 rfl 3 rfl ?_
    refine r_iadd hR dX7_codeAt_45 ?_
    obtain ⟨hin, h⟩ := ck_some h
    refine ld_X7_codes hR dX7_codeAt_46 hin ?_
    refine r_goto hR (tgt := 51) dX7_codeAt_47 (by decide) ?_
    exact r_iret hR dX7_codeAt_51 rfl (rt1 hP h)
theorem t7_codeAt_b30 (hR : Rl wC 1 RX7 cX7_codeAt 4 (some .int) ad J P) (q : SS) {r : Int32} (hP : P (some (.int r)) q) (x1 : Int32) (x2 : Int32) (h : f7_codeAt_b30 q x1 x2 = some r) : J [(0, .ref (ad 1)), (1, .int x1), (2, .int x2)] [] q 30 := by
  unfold f7_codeAt_b30 at h
  refine r_iconst hR dX7_codeAt_30 kc_iconst_0 ?_
  exact r_sub hR [0, 1, 2] rfl (t7_codeAt_b31 hR q hP _ _ _ h)
theorem t7_codeAt (hR : Rl wC 1 RX7 cX7_codeAt 4 (some .int) ad J P) (q : SS) {r : Int32} (hP : P (some (.int r)) q) (x1 : Int32) (x2 : Int32) (h : f7_codeAt q x1 x2 = some r) : J [(0, .ref (ad 1)), (1, .int x1), (2, .int x2)] [] q 0 := by
  unfold f7_codeAt at h
  refine r_iload_n hR dX7_codeAt_0 rfl 1 rfl ?_
  refine r_if_lt hR (tgt := 30) dX7_codeAt_1 (by decide) (fun c_1 => ?_) (fun c_1 => ?_)
  · replace h := it_t c_1 h
    exact r_sub hR [0, 1, 2] rfl (t7_codeAt_b30 hR q hP _ _ h)
  · replace h := it_f c_1 h
    refine r_iload_n hR dX7_codeAt_4 rfl 1 rfl ?_
    refine r_aload_n hR dX7_codeAt_5 rfl 0 rfl ?_
    refine g_X7_made hR m_1_33 dX7_codeAt_6 ?_
    refine r_icmp_ge hR (tgt := 30) dX7_codeAt_9 (by decide) (fun c_9 => ?_) (fun c_9 => ?_)
    · replace h := it_t c_9 h
      exact r_sub hR [0, 1, 2] rfl (t7_codeAt_b30 hR q hP _ _ h)
    · replace h := it_f c_9 h
      refine r_iload_n hR dX7_codeAt_12 rfl 2 rfl ?_
      refine r_if_lt hR (tgt := 30) dX7_codeAt_13 (by decide) (fun c_13 => ?_) (fun c_13 => ?_)
      · replace h := it_t c_13 h
        exact r_sub hR [0, 1, 2] rfl (t7_codeAt_b30 hR q hP _ _ h)
      · replace h := it_f c_13 h
        refine r_iload_n hR dX7_codeAt_16 rfl 2 rfl ?_
        refine r_aload_n hR dX7_codeAt_17 rfl 0 rfl ?_
        refine g_X7_rowCount hR m_1_30 dX7_codeAt_18 ?_
        refine r_iload_n hR dX7_codeAt_21 rfl 1 rfl ?_
        obtain ⟨hin, h⟩ := ck_some h
        refine ld_X7_rowCount hR dX7_codeAt_22 hin ?_
        refine r_icmp_ge hR (tgt := 30) dX7_codeAt_23 (by decide) (fun c_23 => ?_) (fun c_23 => ?_)
        · replace h := it_t c_23 h
          exact r_sub hR [0, 1, 2] rfl (t7_codeAt_b30 hR q hP _ _ h)
        · replace h := it_f c_23 h
          refine r_iconst hR dX7_codeAt_26 kc_iconst_1 ?_
          refine r_goto hR (tgt := 31) dX7_codeAt_27 (by decide) ?_
          exact r_sub hR [0, 1, 2] rfl (t7_codeAt_b31 hR q hP _ _ _ h)
theorem c7_codeAt {x1 : Int32} {x2 : Int32} {q : SS} {r : Int32} (h : f7_codeAt q x1 x2 = some r) : Ct wC 1 yX7_codeAt cX7_codeAt 4 (some .int) (fun ad => [.ref (ad 1), .int x1, .int x2]) q (fun _ => some (.int r)) q :=
  ct_of (by decide) (fun _ => Nat.le_of_ble_eq_true rfl) (fun ad J hR => t7_codeAt hR q ⟨rfl, rfl⟩ x1 x2 h)
theorem t7_rowsOf (hR : Rl wC 1 RX7 cX7_rowsOf 2 (some .int) ad J P) (q : SS) {r : Int32} (hP : P (some (.int r)) q) (x1 : Int32) (h : f7_rowsOf q x1 = some r) : J [(0, .ref (ad 1)), (1, .int x1)] [] q 0 := by
  unfold f7_rowsOf at h
  refine r_iload_n hR dX7_rowsOf_0 rfl 1 rfl ?_
  refine r_if_lt hR (tgt := 21) dX7_rowsOf_1 (by decide) (fun c_1 => ?_) (fun c_1 => ?_)
  · replace h := it_t c_1 h
    refine r_iconst hR dX7_rowsOf_21 kc_iconst_0 ?_
    exact r_iret hR dX7_rowsOf_22 rfl (rt1 hP h)
  · replace h := it_f c_1 h
    refine r_iload_n hR dX7_rowsOf_4 rfl 1 rfl ?_
    refine r_aload_n hR dX7_rowsOf_5 rfl 0 rfl ?_
    refine g_X7_made hR m_1_33 dX7_rowsOf_6 ?_
    refine r_icmp_ge hR (tgt := 21) dX7_rowsOf_9 (by decide) (fun c_9 => ?_) (fun c_9 => ?_)
    · replace h := it_t c_9 h
      refine r_iconst hR dX7_rowsOf_21 kc_iconst_0 ?_
      exact r_iret hR dX7_rowsOf_22 rfl (rt1 hP h)
    · replace h := it_f c_9 h
      refine r_aload_n hR dX7_rowsOf_12 rfl 0 rfl ?_
      refine g_X7_rowCount hR m_1_30 dX7_rowsOf_13 ?_
      refine r_iload_n hR dX7_rowsOf_16 rfl 1 rfl ?_
      obtain ⟨hin, h⟩ := ck_some h
      refine ld_X7_rowCount hR dX7_rowsOf_17 hin ?_
      refine r_goto hR (tgt := 22) dX7_rowsOf_18 (by decide) ?_
      exact r_iret hR dX7_rowsOf_22 rfl (rt1 hP h)
theorem c7_rowsOf {x1 : Int32} {q : SS} {r : Int32} (h : f7_rowsOf q x1 = some r) : Ct wC 1 yX7_rowsOf cX7_rowsOf 2 (some .int) (fun ad => [.ref (ad 1), .int x1]) q (fun _ => some (.int r)) q :=
  ct_of (by decide) (fun _ => Nat.le_of_ble_eq_true rfl) (fun ad J hR => t7_rowsOf hR q ⟨rfl, rfl⟩ x1 h)
theorem t7_rowsRise_l2_B (hR : Rl wC 2 RX7 cX7_rowsRise 4 (some .boolean) ad J P) (N : Nat) (q : SS) {r : Int32} (hP : P (some (.int r)) q) (bk2 : Int32 → Int32 → Int32 → Option Int32) (hbk2 : ∀ (x1 : Int32) (x2 : Int32) (x3 : Int32), bk2 x1 x2 x3 = some r → J [(0, .ref (ad 1)), (1, .int x1), (2, .int x2), (3, .int x3)] [] q 2) (x1 : Int32) (x2 : Int32) (x3 : Int32) (h : f7_rowsRise_l2_B N q bk2 x1 x2 x3 = some r) : J [(0, .ref (ad 1)), (1, .int x1), (2, .int x2), (3, .int x3)] [] q 2 := by
  unfold f7_rowsRise_l2_B at h
  refine r_iload_n hR dX7_rowsRise_2 rfl 3 rfl ?_
  refine r_aload_n hR dX7_rowsRise_3 rfl 0 rfl ?_
  refine r_iload_n hR dX7_rowsRise_4 rfl 1 rfl ?_
  obtain ⟨r_5, hc, h⟩ := bd_some h
  refine r_callVi hR (c7_rowsOf hc) (cf_X7_37 (by decide)) ⟨m_2_13, m_2_14⟩ (As := [.int x1]) (q0 := 1) (ci := 5) rfl rfl rfl rfl (rc_X7 ad _) (Nat.le_of_ble_eq_true rfl) rfl dX7_rowsRise_5 ?_
  refine r_icmp_ge hR (tgt := 44) dX7_rowsRise_8 (by decide) (fun c_8 => ?_) (fun c_8 => ?_)
  · replace h := it_t c_8 h
    refine r_iconst hR dX7_rowsRise_44 kc_iconst_1 ?_
    exact r_zret hR dX7_rowsRise_45 rfl (Or.inr rfl) (rt1 hP h)
  · replace h := it_f c_8 h
    refine r_aload_n hR dX7_rowsRise_11 rfl 0 rfl ?_
    refine r_iload_n hR dX7_rowsRise_12 rfl 1 rfl ?_
    refine r_iload_n hR dX7_rowsRise_13 rfl 3 rfl ?_
    obtain ⟨r_14, hc, h⟩ := bd_some h
    refine r_callVi hR (c7_codeAt hc) (cf_X7_81 (by decide)) ⟨m_2_72, m_2_73⟩ (As := [.int x1, .int x3]) (q0 := 1) (ci := 5) rfl rfl rfl rfl (rc_X7 ad _) (Nat.le_of_ble_eq_true rfl) rfl dX7_rowsRise_14 ?_
    refine r_iload_n hR dX7_rowsRise_17 rfl 2 rfl ?_
    obtain ⟨r_18, hc, h⟩ := bd_some h
    refine r_callSi hR (c4_numberIn hc) (cf_X7_84 (by decide)) m_2_76 (As := [.int r_14, .int x2]) rfl rfl (Nat.le_of_ble_eq_true rfl) rfl dX7_rowsRise_18 ?_
    refine r_aload_n hR dX7_rowsRise_21 rfl 0 rfl ?_
    refine r_iload_n hR dX7_rowsRise_22 rfl 1 rfl ?_
    refine r_iload_n hR dX7_rowsRise_23 rfl 3 rfl ?_
    refine r_iconst hR dX7_rowsRise_24 kc_iconst_1 ?_
    refine r_isub hR dX7_rowsRise_25 ?_
    obtain ⟨r_26, hc, h⟩ := bd_some h
    refine r_callVi hR (c7_codeAt hc) (cf_X7_81 (by decide)) ⟨m_2_72, m_2_73⟩ (As := [.int x1, .int (x3 - (1 : Int32))]) (q0 := 1) (ci := 5) rfl rfl rfl rfl (rc_X7 ad _) (Nat.le_of_ble_eq_true rfl) rfl dX7_rowsRise_26 ?_
    refine r_iload_n hR dX7_rowsRise_29 rfl 2 rfl ?_
    obtain ⟨r_30, hc, h⟩ := bd_some h
    refine r_callSi hR (c4_numberIn hc) (cf_X7_84 (by decide)) m_2_76 (As := [.int r_26, .int x2]) rfl rfl (Nat.le_of_ble_eq_true rfl) rfl dX7_rowsRise_30 ?_
    refine r_icmp_ge hR (tgt := 38) dX7_rowsRise_33 (by decide) (fun c_33 => ?_) (fun c_33 => ?_)
    · replace h := it_t c_33 h
      obtain ⟨x3_38, hx, h⟩ := bn_some h
      refine r_iinc hR (i := 3) (lv' := [(3, .int x3_38), (0, .ref (ad 1)), (1, .int x1), (2, .int x2)]) dX7_rowsRise_38 3 rfl (inc_ok hx kc_iconst_1) (by decide) rfl ?_
      refine r_goto hR (tgt := 2) dX7_rowsRise_41 (by decide) ?_
      exact r_sub hR [1, 2, 3, 0] rfl (hbk2 _ _ _ h)
    · replace h := it_f c_33 h
      refine r_iconst hR dX7_rowsRise_36 kc_iconst_0 ?_
      exact r_zret hR dX7_rowsRise_37 rfl (Or.inl rfl) (rt1 hP h)
theorem t7_rowsRise_l2 (hR : Rl wC 2 RX7 cX7_rowsRise 4 (some .boolean) ad J P) (N : Nat) (q : SS) {r : Int32} (hP : P (some (.int r)) q) : ∀ (n : Nat) (x1 : Int32) (x2 : Int32) (x3 : Int32), f7_rowsRise_l2 N q n x1 x2 x3 = some r → J [(0, .ref (ad 1)), (1, .int x1), (2, .int x2), (3, .int x3)] [] q 2 := by
  intro n
  induction n with
  | zero => intro x1 x2 x3 h; exact mu_noneF h
  | succ n ih => intro x1 x2 x3 h; exact t7_rowsRise_l2_B hR N q hP _ ih x1 x2 x3 h
theorem t7_rowsRise (hR : Rl wC 2 RX7 cX7_rowsRise 4 (some .boolean) ad J P) (N : Nat) (q : SS) {r : Int32} (hP : P (some (.int r)) q) (x1 : Int32) (x2 : Int32) (h : f7_rowsRise N q x1 x2 = some r) : J [(0, .ref (ad 1)), (1, .int x1), (2, .int x2)] [] q 0 := by
  unfold f7_rowsRise at h
  refine r_iconst hR dX7_rowsRise_0 kc_iconst_1 ?_
  refine r_istore_n hR (i := 3) (lv' := [(3, .int (1 : Int32)), (0, .ref (ad 1)), (1, .int x1), (2, .int x2)]) dX7_rowsRise_1 rfl rfl (by decide) rfl ?_
  exact r_sub hR [1, 2, 3, 0] rfl (t7_rowsRise_l2 hR N q hP N _ _ _ h)
theorem c7_rowsRise (N : Nat) {x1 : Int32} {x2 : Int32} {q : SS} {r : Int32} (h : f7_rowsRise N q x1 x2 = some r) : Ct wC 2 yX7_rowsRise cX7_rowsRise 4 (some .boolean) (fun ad => [.ref (ad 1), .int x1, .int x2]) q (fun _ => some (.int r)) q :=
  ct_of (by decide) (fun _ => Nat.le_of_ble_eq_true rfl) (fun ad J hR => t7_rowsRise hR N q ⟨rfl, rfl⟩ x1 x2 h)
theorem t7_sortedLetter_b28 (hR : Rl wC 3 RX7 cX7_sortedLetter 3 (some .int) ad J P) (N : Nat) (q : SS) {r : Int32} (hP : P (some (.int r)) q) (bk2 : Int32 → Int32 → Option Int32) (hbk2 : ∀ (x1 : Int32) (x2 : Int32), bk2 x1 x2 = some r → J [(0, .ref (ad 1)), (1, .int x1), (2, .int x2)] [] q 2) (x1 : Int32) (x2 : Int32) (h : f7_sortedLetter_b28 N q bk2 x1 x2 = some r) : J [(0, .ref (ad 1)), (1, .int x1), (2, .int x2)] [] q 28 := by
  unfold f7_sortedLetter_b28 at h
  obtain ⟨x2_28, hx, h⟩ := bn_some h
  refine r_iinc hR (i := 2) (lv' := [(2, .int x2_28), (0, .ref (ad 1)), (1, .int x1)]) dX7_sortedLetter_28 2 rfl (inc_ok hx kc_iconst_1) (by decide) rfl ?_
  refine r_goto hR (tgt := 2) dX7_sortedLetter_31 (by decide) ?_
  exact r_sub hR [1, 2, 0] rfl (hbk2 _ _ h)
theorem t7_sortedLetter_l2_B (hR : Rl wC 3 RX7 cX7_sortedLetter 3 (some .int) ad J P) (N : Nat) (q : SS) {r : Int32} (hP : P (some (.int r)) q) (bk2 : Int32 → Int32 → Option Int32) (hbk2 : ∀ (x1 : Int32) (x2 : Int32), bk2 x1 x2 = some r → J [(0, .ref (ad 1)), (1, .int x1), (2, .int x2)] [] q 2) (x1 : Int32) (x2 : Int32) (h : f7_sortedLetter_l2_B N q bk2 x1 x2 = some r) : J [(0, .ref (ad 1)), (1, .int x1), (2, .int x2)] [] q 2 := by
  unfold f7_sortedLetter_l2_B at h
  refine r_iload_n hR dX7_sortedLetter_2 rfl 2 rfl ?_
  refine r_bipush hR dX7_sortedLetter_3 kc_bipush_8 ?_
  refine r_icmp_ge hR (tgt := 34) dX7_sortedLetter_5 (by decide) (fun c_5 => ?_) (fun c_5 => ?_)
  · replace h := it_t c_5 h
    refine r_iconst hR dX7_sortedLetter_34 kc_iconst_m1 ?_
    exact r_iret hR dX7_sortedLetter_35 rfl (rt1 hP h)
  · replace h := it_f c_5 h
    refine r_aload_n hR dX7_sortedLetter_8 rfl 0 rfl ?_
    refine r_iload_n hR dX7_sortedLetter_9 rfl 1 rfl ?_
    refine r_iload_n hR dX7_sortedLetter_10 rfl 2 rfl ?_
    obtain ⟨r_11, hc, h⟩ := bd_some h
    refine r_callVi hR (c7_hasLetter hc) (cf_X7_59 (by decide)) ⟨m_2_37, m_2_38⟩ (As := [.int x1, .int x2]) (q0 := 1) (ci := 5) rfl rfl rfl rfl (rc_X7 ad _) (Nat.le_of_ble_eq_true rfl) rfl dX7_sortedLetter_11 ?_
    refine r_if_eq hR (tgt := 28) dX7_sortedLetter_14 (by decide) (fun c_14 => ?_) (fun c_14 => ?_)
    · replace h := it_t c_14 h
      exact r_sub hR [0, 1, 2] rfl (t7_sortedLetter_b28 hR N q hP bk2 hbk2 _ _ h)
    · replace h := it_f c_14 h
      refine r_aload_n hR dX7_sortedLetter_17 rfl 0 rfl ?_
      refine r_iload_n hR dX7_sortedLetter_18 rfl 1 rfl ?_
      refine r_iload_n hR dX7_sortedLetter_19 rfl 2 rfl ?_
      obtain ⟨r_20, hc, h⟩ := bd_some h
      refine r_callVi hR (c7_rowsRise N hc) (cf_X7_89 (by decide)) ⟨m_2_109, ms_1_1⟩ (As := [.int x1, .int x2]) (q0 := 1) (ci := 5) rfl rfl rfl rfl (rc_X7 ad _) (Nat.le_of_ble_eq_true rfl) rfl dX7_sortedLetter_20 ?_
      refine r_if_eq hR (tgt := 28) dX7_sortedLetter_23 (by decide) (fun c_23 => ?_) (fun c_23 => ?_)
      · replace h := it_t c_23 h
        exact r_sub hR [0, 1, 2] rfl (t7_sortedLetter_b28 hR N q hP bk2 hbk2 _ _ h)
      · replace h := it_f c_23 h
        refine r_iload_n hR dX7_sortedLetter_26 rfl 2 rfl ?_
        exact r_iret hR dX7_sortedLetter_27 rfl (rt1 hP h)
theorem t7_sortedLetter_l2 (hR : Rl wC 3 RX7 cX7_sortedLetter 3 (some .int) ad J P) (N : Nat) (q : SS) {r : Int32} (hP : P (some (.int r)) q) : ∀ (n : Nat) (x1 : Int32) (x2 : Int32), f7_sortedLetter_l2 N q n x1 x2 = some r → J [(0, .ref (ad 1)), (1, .int x1), (2, .int x2)] [] q 2 := by
  intro n
  induction n with
  | zero => intro x1 x2 h; exact mu_noneF h
  | succ n ih => intro x1 x2 h; exact t7_sortedLetter_l2_B hR N q hP _ ih x1 x2 h
theorem t7_sortedLetter (hR : Rl wC 3 RX7 cX7_sortedLetter 3 (some .int) ad J P) (N : Nat) (q : SS) {r : Int32} (hP : P (some (.int r)) q) (x1 : Int32) (h : f7_sortedLetter N q x1 = some r) : J [(0, .ref (ad 1)), (1, .int x1)] [] q 0 := by
  unfold f7_sortedLetter at h
  refine r_iconst hR dX7_sortedLetter_0 kc_iconst_0 ?_
  refine r_istore_n hR (i := 2) (lv' := [(2, .int (0 : Int32)), (0, .ref (ad 1)), (1, .int x1)]) dX7_sortedLetter_1 rfl rfl (by decide) rfl ?_
  exact r_sub hR [1, 2, 0] rfl (t7_sortedLetter_l2 hR N q hP N _ _ h)
theorem c7_sortedLetter (N : Nat) {x1 : Int32} {q : SS} {r : Int32} (h : f7_sortedLetter N q x1 = some r) : Ct wC 3 yX7_sortedLetter cX7_sortedLetter 3 (some .int) (fun ad => [.ref (ad 1), .int x1]) q (fun _ => some (.int r)) q :=
  ct_of (by decide) (fun _ => Nat.le_of_ble_eq_true rfl) (fun ad J hR => t7_sortedLetter hR N q ⟨rfl, rfl⟩ x1 h)
theorem t0_takeTable_b27 (hR : Rl wC 4 RX0 cX0_takeTable 4 none ad J P) (N : Nat) {q2 : SS} (hP : P none q2) (x1 : Int32) (x2 : Int32) (s0 : Int32) (s1 : Int32) (q : SS) (h : f0_takeTable_b27 N x1 x2 s0 s1 q = some q2) : J [(0, .ref (ad 5)), (1, .int x1), (2, .int x2)] [.int s0, .int s1, .ref (ad 5)] q 27 := by
  unfold f0_takeTable_b27 at h
  refine r_aload_n hR dX0_takeTable_27 rfl 0 rfl ?_
  refine g_X0_pageCounts hR m_1_154 dX0_takeTable_28 ?_
  refine r_iload_n hR dX0_takeTable_31 rfl 1 rfl ?_
  obtain ⟨hin, h⟩ := ck_some h
  refine ld_X0_pageCounts hR dX0_takeTable_32 hin ?_
  refine r_iconst hR dX0_takeTable_33 kc_iconst_2 ?_
  refine r_iload_n hR dX0_takeTable_34 rfl 2 rfl ?_
  refine r_iadd hR dX0_takeTable_35 ?_
  refine r_i2l hR dX0_takeTable_36 ?_
  obtain ⟨q_37, hc, h⟩ := bd_some h
  refine r_callVv hR (c0_offer hc) (cf_X0_76 (by decide)) ⟨m_3_169, ms_2_8⟩ (As := [.int s1, .int s0, .int (ar q 24 (ix x1)), .long (Int32.toInt64 ((2 : Int32) + x2))]) (q0 := 5) (ci := 0) rfl rfl rfl rfl (rc_X0 ad _) (Nat.le_of_ble_eq_true rfl) rfl dX0_takeTable_37 ?_
  exact r_vret hR dX0_takeTable_40 rfl (rtv hP h)
theorem t0_takeTable (hR : Rl wC 4 RX0 cX0_takeTable 4 none ad J P) (N : Nat) {q2 : SS} (hP : P none q2) (x1 : Int32) (q : SS) (h : f0_takeTable N x1 q = some q2) : J [(0, .ref (ad 5)), (1, .int x1)] [] q 0 := by
  unfold f0_takeTable at h
  refine r_iload_n hR dX0_takeTable_0 rfl 1 rfl ?_
  obtain ⟨r_1, hc, h⟩ := bd_some h
  refine r_callSi hR (cJ6_numberOfTrailingZeros hc) (cf_X0_70 (by decide)) m_2_201 (As := [.int x1]) rfl rfl (Nat.le_of_ble_eq_true rfl) rfl dX0_takeTable_1 ?_
  refine r_istore_n hR (i := 2) (lv' := [(2, .int r_1), (0, .ref (ad 5)), (1, .int x1)]) dX0_takeTable_4 rfl rfl (by decide) rfl ?_
  refine r_aload_n hR dX0_takeTable_5 rfl 1 rfl ?_
  refine g_X0_shelf hR m_1_150 dX0_takeTable_6 ?_
  refine r_iload_n hR dX0_takeTable_9 rfl 0 rfl ?_
  obtain ⟨r_10, hc, h⟩ := bd_some h
  refine r_callVi hR (c7_sortedLetter N hc) (cf_X0_73 (by decide)) ⟨m_2_104, m_2_105⟩ (As := [.int r_1]) (q0 := 1) (ci := 5) rfl rfl rfl rfl (rc_X7 ad _) (Nat.le_of_ble_eq_true rfl) rfl dX0_takeTable_10 ?_
  refine r_istore_n hR (i := 3) (lv' := [(3, .int r_10), (2, .int r_1), (0, .ref (ad 5)), (1, .int x1)]) dX0_takeTable_13 rfl rfl (by decide) rfl ?_
  refine r_aload_n hR dX0_takeTable_14 rfl 2 rfl ?_
  refine r_iload_n hR dX0_takeTable_15 rfl 3 rfl ?_
  refine r_iload_n hR dX0_takeTable_16 rfl 0 rfl ?_
  refine r_iconst hR dX0_takeTable_17 kc_iconst_m1 ?_
  refine r_icmp_ne hR (tgt := 26) dX0_takeTable_18 (by decide) (fun c_18 => ?_) (fun c_18 => ?_)
  · replace h := it_f c_18 h
    refine r_iload_n hR dX0_takeTable_26 rfl 0 rfl ?_
    exact r_sub hR [2, 3, 1] rfl (t0_takeTable_b27 hR N hP _ _ _ _ _ h)
  · replace h := it_t c_18 h
    refine r_bipush hR dX0_takeTable_21 kc_bipush_8 ?_
    refine r_goto hR (tgt := 27) dX0_takeTable_23 (by decide) ?_
    exact r_sub hR [2, 3, 1] rfl (t0_takeTable_b27 hR N hP _ _ _ _ _ h)
theorem c0_takeTable (N : Nat) {x1 : Int32} {q : SS} {q2 : SS} (h : f0_takeTable N x1 q = some q2) : Ct wC 4 yX0_takeTable cX0_takeTable 4 none (fun ad => [.ref (ad 5), .int x1]) q (fun _ => none) q2 :=
  ct_of (by decide) (fun _ => Nat.le_of_ble_eq_true rfl) (fun ad J hR => t0_takeTable hR N ⟨rfl, rfl⟩ x1 q h)
theorem tJ7_fill_v12_l5_B (hR : Rl wC 1 RJ7 cJ7_fill_53178 4 none ad J P) (N : Nat) {q2 : SS} (hP : P none q2) (bk5 : Int32 → Int32 → Int32 → SS → Option SS) (hbk5 : ∀ (x1 : Int32) (x2 : Int32) (x3 : Int32) (q : SS), bk5 x1 x2 x3 q = some q2 → J [(0, .ref (ad 12)), (1, .int x1), (2, .int x2), (3, .int x3)] [] q 5) (x1 : Int32) (x2 : Int32) (x3 : Int32) (q : SS) (h : fJ7_fill_v12_l5_B N bk5 x1 x2 x3 q = some q2) : J [(0, .ref (ad 12)), (1, .int x1), (2, .int x2), (3, .int x3)] [] q 5 := by
  unfold fJ7_fill_v12_l5_B at h
  refine r_iload_n hR dJ7_fill_53178_5 rfl 2 rfl ?_
  refine r_iload_n hR dJ7_fill_53178_6 rfl 3 rfl ?_
  refine r_icmp_ge hR (tgt := 20) dJ7_fill_53178_7 (by decide) (fun c_7 => ?_) (fun c_7 => ?_)
  · replace h := it_t c_7 h
    exact r_vret hR dJ7_fill_53178_20 rfl (rtv hP h)
  · replace h := it_f c_7 h
    refine r_aload_n hR dJ7_fill_53178_10 rfl 0 rfl ?_
    refine r_iload_n hR dJ7_fill_53178_11 rfl 2 rfl ?_
    refine r_iload_n hR dJ7_fill_53178_12 rfl 1 rfl ?_
    obtain ⟨hin, h⟩ := ck_some h
    obtain ⟨q_13, hq, h⟩ := bn_some h
    refine sv_X3_allowed hR dJ7_fill_53178_13 hin hq ?_
    obtain ⟨x2_14, hx, h⟩ := bn_some h
    refine r_iinc hR (i := 2) (lv' := [(2, .int x2_14), (0, .ref (ad 12)), (1, .int x1), (3, .int x3)]) dJ7_fill_53178_14 2 rfl (inc_ok hx kc_iconst_1) (by decide) rfl ?_
    refine r_goto hR (tgt := 5) dJ7_fill_53178_17 (by decide) ?_
    exact r_sub hR [1, 2, 0, 3] rfl (hbk5 _ _ _ _ h)
theorem tJ7_fill_v12_l5 (hR : Rl wC 1 RJ7 cJ7_fill_53178 4 none ad J P) (N : Nat) {q2 : SS} (hP : P none q2) : ∀ (n : Nat) (x1 : Int32) (x2 : Int32) (x3 : Int32) (q : SS), fJ7_fill_v12_l5 N n x1 x2 x3 q = some q2 → J [(0, .ref (ad 12)), (1, .int x1), (2, .int x2), (3, .int x3)] [] q 5 := by
  intro n
  induction n with
  | zero => intro x1 x2 x3 q h; exact mu_noneF h
  | succ n ih => intro x1 x2 x3 q h; exact tJ7_fill_v12_l5_B hR N hP _ ih x1 x2 x3 q h
theorem tJ7_fill_v12 (hR : Rl wC 1 RJ7 cJ7_fill_53178 4 none ad J P) (N : Nat) {q2 : SS} (hP : P none q2) (x1 : Int32) (q : SS) (h : fJ7_fill_v12 N x1 q = some q2) : J [(0, .ref (ad 12)), (1, .int x1)] [] q 0 := by
  unfold fJ7_fill_v12 at h
  refine r_iconst hR dJ7_fill_53178_0 kc_iconst_0 ?_
  refine r_istore_n hR (i := 2) (lv' := [(2, .int (0 : Int32)), (0, .ref (ad 12)), (1, .int x1)]) dJ7_fill_53178_1 rfl rfl (by decide) rfl ?_
  refine r_aload_n hR dJ7_fill_53178_2 rfl 1 rfl ?_
  refine al_X3_allowed hR dJ7_fill_53178_3 ?_
  refine r_istore_n hR (i := 3) (lv' := [(3, .int (6 : Int32)), (2, .int (0 : Int32)), (0, .ref (ad 12)), (1, .int x1)]) dJ7_fill_53178_4 rfl rfl (by decide) rfl ?_
  exact r_sub hR [2, 3, 1, 0] rfl (tJ7_fill_v12_l5 hR N hP N _ _ _ _ h)
theorem cJ7_fill_v12 (N : Nat) {x1 : Int32} {q : SS} {q2 : SS} (h : fJ7_fill_v12 N x1 q = some q2) : Ct wC 1 yJ7_fill_53178 cJ7_fill_53178 4 none (fun ad => [.ref (ad 12), .int x1]) q (fun _ => none) q2 :=
  ct_of (by decide) (fun _ => Nat.le_of_ble_eq_true rfl) (fun ad J hR => tJ7_fill_v12 hR N ⟨rfl, rfl⟩ x1 q h)
theorem t3_allowAllRows (hR : Rl wC 2 RX3 cX3_allowAllRows 1 none ad J P) (N : Nat) {q2 : SS} (hP : P none q2) (q : SS) (h : f3_allowAllRows N q = some q2) : J [(0, .ref (ad 2))] [] q 0 := by
  unfold f3_allowAllRows at h
  refine r_aload_n hR dX3_allowAllRows_0 rfl 0 rfl ?_
  refine g_X3_allowed hR m_1_61 dX3_allowAllRows_1 ?_
  refine r_sipush hR dX3_allowAllRows_4 kc_sipush_255 ?_
  obtain ⟨q_7, hc, h⟩ := bd_some h
  refine r_callSv hR (cJ7_fill_v12 N hc) (cf_X3_95 (by decide)) m_2_164 (As := [.ref (ad 12), .int (255 : Int32)]) rfl rfl (Nat.le_of_ble_eq_true rfl) rfl dX3_allowAllRows_7 ?_
  exact r_vret hR dX3_allowAllRows_10 rfl (rtv hP h)
theorem c3_allowAllRows (N : Nat) {q : SS} {q2 : SS} (h : f3_allowAllRows N q = some q2) : Ct wC 2 yX3_allowAllRows cX3_allowAllRows 1 none (fun ad => [.ref (ad 2)]) q (fun _ => none) q2 :=
  ct_of (by decide) (fun _ => Nat.le_of_ble_eq_true rfl) (fun ad J hR => t3_allowAllRows hR N ⟨rfl, rfl⟩ q h)
theorem t3_countFrom_b108 (hR : Rl wC (ld + 1) RX3 cX3_countFrom 8 (some .int) ad J P) (N : Nat) (self : Int32 → Int32 → Int32 → Option Int32) (q : SS) (hld : 1 ≤ ld) (hself : ∀ (a : Int32) (b : Int32) (c : Int32) (r : Int32), self a b c = some r → Ct wC ld yX3_countFrom cX3_countFrom 8 (some .int) (fun ad => [.ref (ad 2), .int a, .int b, .int c]) q (fun _ => some (.int r)) q) {r : Int32} (hP : P (some (.int r)) q) (bk36 : Int32 → Int32 → Int32 → Int32 → Int32 → Option Int32) (hbk36 : ∀ (x1 : Int32) (x2 : Int32) (x3 : Int32) (x4 : Int32) (x5 : Int32), bk36 x1 x2 x3 x4 x5 = some r → J [(0, .ref (ad 2)), (1, .int x1), (2, .int x2), (3, .int x3), (4, .int x4), (5, .int x5)] [] q 36) (x1 : Int32) (x2 : Int32) (x3 : Int32) (x4 : Int32) (x5 : Int32) (h : f3_countFrom_b108 N self q bk36 x1 x2 x3 x4 x5 = some r) : J [(0, .ref (ad 2)), (1, .int x1), (2, .int x2), (3, .int x3), (4, .int x4), (5, .int x5)] [] q 108 := by
  unfold f3_countFrom_b108 at h
  obtain ⟨x5_108, hx, h⟩ := bn_some h
  refine r_iinc hR (i := 5) (lv' := [(5, .int x5_108), (0, .ref (ad 2)), (1, .int x1), (2, .int x2), (3, .int x3), (4, .int x4)]) dX3_countFrom_108 5 rfl (inc_ok hx kc_iconst_1) (by decide) rfl ?_
  refine r_goto hR (tgt := 36) dX3_countFrom_111 (by decide) ?_
  exact r_sub hR [1, 2, 3, 4, 5, 0] rfl (hbk36 _ _ _ _ _ h)
theorem t3_countFrom_l36_B (hR : Rl wC (ld + 1) RX3 cX3_countFrom 8 (some .int) ad J P) (N : Nat) (self : Int32 → Int32 → Int32 → Option Int32) (q : SS) (hld : 1 ≤ ld) (hself : ∀ (a : Int32) (b : Int32) (c : Int32) (r : Int32), self a b c = some r → Ct wC ld yX3_countFrom cX3_countFrom 8 (some .int) (fun ad => [.ref (ad 2), .int a, .int b, .int c]) q (fun _ => some (.int r)) q) {r : Int32} (hP : P (some (.int r)) q) (bk36 : Int32 → Int32 → Int32 → Int32 → Int32 → Option Int32) (hbk36 : ∀ (x1 : Int32) (x2 : Int32) (x3 : Int32) (x4 : Int32) (x5 : Int32), bk36 x1 x2 x3 x4 x5 = some r → J [(0, .ref (ad 2)), (1, .int x1), (2, .int x2), (3, .int x3), (4, .int x4), (5, .int x5)] [] q 36) (x1 : Int32) (x2 : Int32) (x3 : Int32) (x4 : Int32) (x5 : Int32) (h : f3_countFrom_l36_B N self q bk36 x1 x2 x3 x4 x5 = some r) : J [(0, .ref (ad 2)), (1, .int x1), (2, .int x2), (3, .int x3), (4, .int x4), (5, .int x5)] [] q 36 := by
  unfold f3_countFrom_l36_B at h
  refine r_iload hR dX3_countFrom_36 5 rfl ?_
  refine r_bipush hR dX3_countFrom_38 kc_bipush_8 ?_
  refine r_icmp_ge hR (tgt := 114) dX3_countFrom_40 (by decide) (fun c_40 => ?_) (fun c_40 => ?_)
  · replace h := it_t c_40 h
    refine r_iload hR dX3_countFrom_114 4 rfl ?_
    exact r_iret hR dX3_countFrom_116 rfl (rt1 hP h)
  · replace h := it_f c_40 h
    refine r_aload_n hR dX3_countFrom_43 rfl 0 rfl ?_
    refine g_X3_weight hR m_1_62 dX3_countFrom_44 ?_
    refine r_iload_n hR dX3_countFrom_47 rfl 2 rfl ?_
    refine r_bipush hR dX3_countFrom_48 kc_bipush_8 ?_
    refine r_imul hR dX3_countFrom_50 ?_
    refine r_iload hR dX3_countFrom_51 5 rfl ?_
    refine r_iadd hR dX3_countFrom_53 ?_
    obtain ⟨hin, h⟩ := ck_some h
    refine ld_X3_weight hR dX3_countFrom_54 hin ?_
    obtain ⟨x6_55, hx, h⟩ := bn_some h
    refine r_istore hR (i := 6) (lv' := [(6, .int x6_55), (0, .ref (ad 2)), (1, .int x1), (2, .int x2), (3, .int x3), (4, .int x4), (5, .int x5)]) dX3_countFrom_55 hx (by decide) rfl ?_
    refine r_aload_n hR dX3_countFrom_57 rfl 1 rfl ?_
    refine g_X3_shelf hR m_1_60 dX3_countFrom_58 ?_
    refine r_iload_n hR dX3_countFrom_61 rfl 3 rfl ?_
    refine r_iload hR dX3_countFrom_62 6 rfl ?_
    obtain ⟨r_64, hc, h⟩ := bd_some h
    refine r_callVi hR (c7_codeAt hc) (cf_X3_87 (by omega)) ⟨m_2_72, m_2_73⟩ (As := [.int x2, .int x5]) (q0 := 1) (ci := 5) rfl rfl rfl rfl (rc_X7 ad _) (Nat.le_of_ble_eq_true rfl) rfl dX3_countFrom_64 ?_
    refine r_istore hR (i := 7) (lv' := [(7, .int r_64), (6, .int x6_55), (0, .ref (ad 2)), (1, .int x1), (2, .int x2), (3, .int x3), (4, .int x4), (5, .int x5)]) dX3_countFrom_67 rfl (by decide) rfl ?_
    refine r_iload hR dX3_countFrom_69 1 rfl ?_
    refine r_if_le hR (tgt := 108) dX3_countFrom_71 (by decide) (fun c_71 => ?_) (fun c_71 => ?_)
    · replace h := it_t c_71 h
      exact r_sub hR [2, 3, 4, 5, 6, 7] rfl (t3_countFrom_b108 hR N self q hld hself hP bk36 hbk36 _ _ _ _ _ h)
    · replace h := it_f c_71 h
      refine r_iload hR dX3_countFrom_74 0 rfl ?_
      refine r_iload_n hR dX3_countFrom_76 rfl 5 rfl ?_
      refine r_ixor hR dX3_countFrom_77 ?_
      refine r_aload_n hR dX3_countFrom_78 rfl 2 rfl ?_
      refine g_X3_boundMask hR m_1_63 dX3_countFrom_79 ?_
      refine r_iload_n hR dX3_countFrom_82 rfl 4 rfl ?_
      obtain ⟨hin, h⟩ := ck_some h
      refine ld_X3_boundMask hR dX3_countFrom_83 hin ?_
      refine r_iand hR dX3_countFrom_84 ?_
      refine r_if_ne hR (tgt := 108) dX3_countFrom_85 (by decide) (fun c_85 => ?_) (fun c_85 => ?_)
      · replace h := it_f c_85 h
        exact r_sub hR [2, 3, 4, 5, 6, 7] rfl (t3_countFrom_b108 hR N self q hld hself hP bk36 hbk36 _ _ _ _ _ h)
      · replace h := it_t c_85 h
        refine r_iload hR dX3_countFrom_88 6 rfl ?_
        refine r_iload hR dX3_countFrom_90 1 rfl ?_
        refine r_aload_n hR dX3_countFrom_92 rfl 2 rfl ?_
        refine r_iload_n hR dX3_countFrom_93 rfl 3 rfl ?_
        refine r_iload_n hR dX3_countFrom_94 rfl 4 rfl ?_
        refine r_iconst hR dX3_countFrom_95 kc_iconst_1 ?_
        refine r_iadd hR dX3_countFrom_96 ?_
        refine r_iload_n hR dX3_countFrom_97 rfl 5 rfl ?_
        refine r_iload hR dX3_countFrom_98 0 rfl ?_
        refine r_ior hR dX3_countFrom_100 ?_
        obtain ⟨r_101, hc, h⟩ := bd_some h
        refine r_callVi hR (hself _ _ _ _ hc) (cf_X3_114 (by omega)) ⟨m_2_189, ms_1_8⟩ (As := [.int x1, .int (x2 + (1 : Int32)), .int (x3 ||| r_64)]) (q0 := 2) (ci := 3) rfl rfl rfl rfl (rc_X3 ad _) (Nat.le_of_ble_eq_true rfl) rfl dX3_countFrom_101 ?_
        refine r_imul hR dX3_countFrom_104 ?_
        refine r_iadd hR dX3_countFrom_105 ?_
        obtain ⟨x4_106, hx, h⟩ := bn_some h
        refine r_istore hR (i := 4) (lv' := [(4, .int x4_106), (7, .int r_64), (6, .int x6_55), (0, .ref (ad 2)), (1, .int x1), (2, .int x2), (3, .int x3), (5, .int x5)]) dX3_countFrom_106 hx (by decide) rfl ?_
        exact r_sub hR [3, 4, 5, 6, 0, 7] rfl (t3_countFrom_b108 hR N self q hld hself hP bk36 hbk36 _ _ _ _ _ h)
theorem t3_countFrom_l36 (hR : Rl wC (ld + 1) RX3 cX3_countFrom 8 (some .int) ad J P) (N : Nat) (self : Int32 → Int32 → Int32 → Option Int32) (q : SS) (hld : 1 ≤ ld) (hself : ∀ (a : Int32) (b : Int32) (c : Int32) (r : Int32), self a b c = some r → Ct wC ld yX3_countFrom cX3_countFrom 8 (some .int) (fun ad => [.ref (ad 2), .int a, .int b, .int c]) q (fun _ => some (.int r)) q) {r : Int32} (hP : P (some (.int r)) q) : ∀ (n : Nat) (x1 : Int32) (x2 : Int32) (x3 : Int32) (x4 : Int32) (x5 : Int32), f3_countFrom_l36 N self q n x1 x2 x3 x4 x5 = some r → J [(0, .ref (ad 2)), (1, .int x1), (2, .int x2), (3, .int x3), (4, .int x4), (5, .int x5)] [] q 36 := by
  intro n
  induction n with
  | zero => intro x1 x2 x3 x4 x5 h; exact mu_noneF h
  | succ n ih => intro x1 x2 x3 x4 x5 h; exact t3_countFrom_l36_B hR N self q hld hself hP _ ih x1 x2 x3 x4 x5 h
theorem t3_countFrom_B (hR : Rl wC (ld + 1) RX3 cX3_countFrom 8 (some .int) ad J P) (N : Nat) (self : Int32 → Int32 → Int32 → Option Int32) (q : SS) (hld : 1 ≤ ld) (hself : ∀ (a : Int32) (b : Int32) (c : Int32) (r : Int32), self a b c = some r → Ct wC ld yX3_countFrom cX3_countFrom 8 (some .int) (fun ad => [.ref (ad 2), .int a, .int b, .int c]) q (fun _ => some (.int r)) q) {r : Int32} (hP : P (some (.int r)) q) (x1 : Int32) (x2 : Int32) (x3 : Int32) (h : f3_countFrom_B N self q x1 x2 x3 = some r) : J [(0, .ref (ad 2)), (1, .int x1), (2, .int x2), (3, .int x3)] [] q 0 := by
  unfold f3_countFrom_B at h
  refine r_iload_n hR dX3_countFrom_0 rfl 2 rfl ?_
  refine r_if_lt hR (tgt := 10) dX3_countFrom_1 (by decide) (fun c_1 => ?_) (fun c_1 => ?_)
  · replace h := it_t c_1 h
    refine r_iconst hR dX3_countFrom_10 kc_iconst_1 ?_
    exact r_iret hR dX3_countFrom_11 rfl (rt1 hP h)
  · replace h := it_f c_1 h
    refine r_iload_n hR dX3_countFrom_4 rfl 2 rfl ?_
    refine r_bipush hR dX3_countFrom_5 kc_bipush_6 ?_
    refine r_icmp_lt hR (tgt := 12) dX3_countFrom_7 (by decide) (fun c_7 => ?_) (fun c_7 => ?_)
    · replace h := it_t c_7 h
      refine r_iload_n hR dX3_countFrom_12 rfl 1 rfl ?_
      refine r_iload_n hR dX3_countFrom_13 rfl 2 rfl ?_
      refine r_ishr hR dX3_countFrom_14 ?_
      refine r_iconst hR dX3_countFrom_15 kc_iconst_1 ?_
      refine r_iand hR dX3_countFrom_16 ?_
      refine r_if_ne hR (tgt := 30) dX3_countFrom_17 (by decide) (fun c_17 => ?_) (fun c_17 => ?_)
      · replace h := it_f c_17 h
        refine r_iconst hR dX3_countFrom_30 kc_iconst_0 ?_
        refine r_istore hR (i := 4) (lv' := [(4, .int (0 : Int32)), (0, .ref (ad 2)), (1, .int x1), (2, .int x2), (3, .int x3)]) dX3_countFrom_31 rfl (by decide) rfl ?_
        refine r_iconst hR dX3_countFrom_33 kc_iconst_0 ?_
        refine r_istore hR (i := 5) (lv' := [(5, .int (0 : Int32)), (4, .int (0 : Int32)), (0, .ref (ad 2)), (1, .int x1), (2, .int x2), (3, .int x3)]) dX3_countFrom_34 rfl (by decide) rfl ?_
        exact r_sub hR [2, 3, 4, 5, 1, 0] rfl (t3_countFrom_l36 hR N self q hld hself hP N _ _ _ _ _ h)
      · replace h := it_t c_17 h
        refine r_aload_n hR dX3_countFrom_20 rfl 0 rfl ?_
        refine r_iload_n hR dX3_countFrom_21 rfl 1 rfl ?_
        refine r_iload_n hR dX3_countFrom_22 rfl 2 rfl ?_
        refine r_iconst hR dX3_countFrom_23 kc_iconst_1 ?_
        refine r_iadd hR dX3_countFrom_24 ?_
        refine r_iload_n hR dX3_countFrom_25 rfl 3 rfl ?_
        obtain ⟨r_26, hc, h⟩ := bd_some h
        refine r_callVi hR (hself _ _ _ _ hc) (cf_X3_114 (by omega)) ⟨m_2_189, ms_1_8⟩ (As := [.int x1, .int (x2 + (1 : Int32)), .int x3]) (q0 := 2) (ci := 3) rfl rfl rfl rfl (rc_X3 ad _) (Nat.le_of_ble_eq_true rfl) rfl dX3_countFrom_26 ?_
        exact r_iret hR dX3_countFrom_29 rfl (rt1 hP h)
    · replace h := it_f c_7 h
      refine r_iconst hR dX3_countFrom_10 kc_iconst_1 ?_
      exact r_iret hR dX3_countFrom_11 rfl (rt1 hP h)
theorem c3_countFrom_d (N : Nat) (q : SS) : ∀ (d : Nat) (x1 : Int32) (x2 : Int32) (x3 : Int32) (r : Int32), f3_countFrom N q d x1 x2 x3 = some r → Ct wC (1 + d) yX3_countFrom cX3_countFrom 8 (some .int) (fun ad => [.ref (ad 2), .int x1, .int x2, .int x3]) q (fun _ => some (.int r)) q := by
  intro d
  induction d with
  | zero => intro x1 x2 x3 r h; exact mu_noneF h
  | succ d ih => intro x1 x2 x3 r h; exact ct_of (by decide) (fun _ => Nat.le_of_ble_eq_true rfl) (fun ad J hR => t3_countFrom_B hR N _ q (ld := 1 + d) (by omega) ih ⟨rfl, rfl⟩ x1 x2 x3 h)
theorem c3_countFrom (N : Nat) {q : SS} {x1 : Int32} {x2 : Int32} {x3 : Int32} {r : Int32} (h : f3_countFrom N q 8 x1 x2 x3 = some r) : Ct wC 9 yX3_countFrom cX3_countFrom 8 (some .int) (fun ad => [.ref (ad 2), .int x1, .int x2, .int x3]) q (fun _ => some (.int r)) q := c3_countFrom_d N q 8 x1 x2 x3 r h
end
