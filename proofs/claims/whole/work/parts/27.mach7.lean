section
variable {ad : Nat → Nat} {J : JT} {P : PT} {ld : Nat}
theorem t9_workOff_v11_b301 (hR : Rl wM 4 RX9 cX9_workOff 9 none ad J P) (N : Nat) {q2 : SS} (hP : P none q2) (bk19 : Int32 → Int32 → Int32 → Int32 → Int32 → SS → Option SS) (hbk19 : ∀ (x2 : Int32) (x3 : Int32) (x4 : Int32) (x5 : Int32) (x6 : Int32) (q : SS), bk19 x2 x3 x4 x5 x6 q = some q2 → J [(0, .ref (ad 0)), (1, .ref (ad 11)), (2, .int x2), (3, .int x3), (4, .int x4), (5, .int x5), (6, .int x6)] [] q 19) (x2 : Int32) (x3 : Int32) (x4 : Int32) (x5 : Int32) (x6 : Int32) (q : SS) (h : f9_workOff_v11_b301 N bk19 x2 x3 x4 x5 x6 q = some q2) : J [(0, .ref (ad 0)), (1, .ref (ad 11)), (2, .int x2), (3, .int x3), (4, .int x4), (5, .int x5), (6, .int x6)] [] q 301 := by
  unfold f9_workOff_v11_b301 at h
  obtain ⟨x6_301, hx, h⟩ := bn_some h
  refine r_iinc hR (i := 6) (lv' := [(6, .int x6_301), (0, .ref (ad 0)), (1, .ref (ad 11)), (2, .int x2), (3, .int x3), (4, .int x4), (5, .int x5)]) dX9_workOff_301 6 rfl (inc_ok hx kc_iconst_1) (by decide) rfl ?_
  refine r_goto hR (tgt := 19) dX9_workOff_304 (by decide) ?_
  exact r_sub hR [1, 2, 3, 4, 5, 6, 0] rfl (hbk19 _ _ _ _ _ _ h)
theorem t9_workOff_v11_b190 (hR : Rl wM 4 RX9 cX9_workOff 9 none ad J P) (N : Nat) {q2 : SS} (hP : P none q2) (bk19 : Int32 → Int32 → Int32 → Int32 → Int32 → SS → Option SS) (hbk19 : ∀ (x2 : Int32) (x3 : Int32) (x4 : Int32) (x5 : Int32) (x6 : Int32) (q : SS), bk19 x2 x3 x4 x5 x6 q = some q2 → J [(0, .ref (ad 0)), (1, .ref (ad 11)), (2, .int x2), (3, .int x3), (4, .int x4), (5, .int x5), (6, .int x6)] [] q 19) (x2 : Int32) (x3 : Int32) (x4 : Int32) (x5 : Int32) (x6 : Int32) (x8 : Int32) (s0 : Int32) (q : SS) (h : f9_workOff_v11_b190 N bk19 x2 x3 x4 x5 x6 x8 s0 q = some q2) : J [(0, .ref (ad 0)), (1, .ref (ad 11)), (2, .int x2), (3, .int x3), (4, .int x4), (5, .int x5), (6, .int x6), (8, .int x8)] [.int s0, .ref (ad 0)] q 190 := by
  unfold f9_workOff_v11_b190 at h
  obtain ⟨hz, h⟩ := cz_some h
  obtain ⟨q_190, hq, h⟩ := bn_some h
  refine p_X9_canBeDone hR m_4_146 dX9_workOff_190 hz hq ?_
  refine r_aload_n hR dX9_workOff_193 rfl 0 rfl ?_
  refine g_X9_readyOrders hR m_4_144 dX9_workOff_194 ?_
  refine r_iload hR dX9_workOff_197 4 rfl ?_
  refine r_iconst hR dX9_workOff_199 kc_iconst_1 ?_
  refine r_isub hR dX9_workOff_200 ?_
  refine r_aload_n hR dX9_workOff_201 rfl 0 rfl ?_
  refine r_aload_n hR dX9_workOff_202 rfl 0 rfl ?_
  refine g_X9_ways hR m_4_145 dX9_workOff_203 ?_
  refine r_iload hR dX9_workOff_206 5 rfl ?_
  obtain ⟨hin, h⟩ := ck_some h
  refine ld_X9_ways hR dX9_workOff_208 hin ?_
  refine r_aload_n hR dX9_workOff_209 rfl 0 rfl ?_
  refine g_X9_readySets hR m_4_142 dX9_workOff_210 ?_
  refine r_iload hR dX9_workOff_213 4 rfl ?_
  refine r_iconst hR dX9_workOff_215 kc_iconst_1 ?_
  refine r_isub hR dX9_workOff_216 ?_
  obtain ⟨hin, h⟩ := ck_some h
  refine ld_X9_readySets hR dX9_workOff_217 hin ?_
  refine r_aload_n hR dX9_workOff_218 rfl 0 rfl ?_
  refine g_X9_readySets hR m_4_142 dX9_workOff_219 ?_
  refine r_iload hR dX9_workOff_222 4 rfl ?_
  obtain ⟨hin, h⟩ := ck_some h
  refine ld_X9_readySets hR dX9_workOff_224 hin ?_
  refine r_aload_n hR dX9_workOff_225 rfl 0 rfl ?_
  refine g_X9_readyOrders hR m_4_144 dX9_workOff_226 ?_
  refine r_iload hR dX9_workOff_229 4 rfl ?_
  refine r_iconst hR dX9_workOff_231 kc_iconst_1 ?_
  refine r_isub hR dX9_workOff_232 ?_
  obtain ⟨hin, h⟩ := ck_some h
  refine ld_X9_readyOrders hR dX9_workOff_233 hin ?_
  obtain ⟨r_234, hc, h⟩ := bd_some h
  refine r_callVi hR (c9_stepOrder N hc) (cf_X9_249 (by decide)) ⟨m_5_216, ms_5_4⟩ (As := [.int (ar q_190 17 (ix x5)), .int (ar q_190 14 (ix (x4 - (1 : Int32)))), .int (ar q_190 14 (ix x4)), .int (ar q_190 16 (ix (x4 - (1 : Int32))))]) (q0 := 0) (ci := 7) rfl rfl rfl rfl (rc_X9 ad _) (Nat.le_of_ble_eq_true rfl) rfl dX9_workOff_234 ?_
  obtain ⟨hin, h⟩ := ck_some h
  obtain ⟨q_237, hq, h⟩ := bn_some h
  refine sv_X9_readyOrders hR dX9_workOff_237 hin hq ?_
  refine r_aload_n hR dX9_workOff_238 rfl 0 rfl ?_
  refine g_X9_readyCosts hR m_4_143 dX9_workOff_239 ?_
  refine r_iload hR dX9_workOff_242 4 rfl ?_
  refine r_iconst hR dX9_workOff_244 kc_iconst_1 ?_
  refine r_isub hR dX9_workOff_245 ?_
  refine r_dup2 hR dX9_workOff_246 rfl rfl ?_
  obtain ⟨hin, h⟩ := ck_some h
  refine ld_X9_readyCosts hR dX9_workOff_247 hin ?_
  refine r_aload_n hR dX9_workOff_248 rfl 0 rfl ?_
  refine g_X9_readyCosts hR m_4_143 dX9_workOff_249 ?_
  refine r_iload hR dX9_workOff_252 4 rfl ?_
  obtain ⟨hin, h⟩ := ck_some h
  refine ld_X9_readyCosts hR dX9_workOff_254 hin ?_
  refine r_iload hR dX9_workOff_255 7 rfl ?_
  refine r_iadd hR dX9_workOff_257 ?_
  refine r_iadd hR dX9_workOff_258 ?_
  obtain ⟨hin, h⟩ := ck_some h
  obtain ⟨q_259, hq, h⟩ := bn_some h
  refine sv_X9_readyCosts hR dX9_workOff_259 hin hq ?_
  refine r_aload_n hR dX9_workOff_260 rfl 0 rfl ?_
  refine g_X9_readySets hR m_4_142 dX9_workOff_261 ?_
  refine r_iload hR dX9_workOff_264 4 rfl ?_
  refine r_iconst hR dX9_workOff_266 kc_iconst_1 ?_
  refine r_isub hR dX9_workOff_267 ?_
  refine r_dup2 hR dX9_workOff_268 rfl rfl ?_
  obtain ⟨hin, h⟩ := ck_some h
  refine ld_X9_readySets hR dX9_workOff_269 hin ?_
  refine r_aload_n hR dX9_workOff_270 rfl 0 rfl ?_
  refine g_X9_readySets hR m_4_142 dX9_workOff_271 ?_
  refine r_iload hR dX9_workOff_274 4 rfl ?_
  obtain ⟨hin, h⟩ := ck_some h
  refine ld_X9_readySets hR dX9_workOff_276 hin ?_
  refine r_ior hR dX9_workOff_277 ?_
  obtain ⟨hin, h⟩ := ck_some h
  obtain ⟨q_278, hq, h⟩ := bn_some h
  refine sv_X9_readySets hR dX9_workOff_278 hin hq ?_
  refine r_goto hR (tgt := 301) dX9_workOff_279 (by decide) ?_
  exact r_sub hR [0, 1, 2, 3, 4, 5, 6] rfl (t9_workOff_v11_b301 hR N hP bk19 hbk19 _ _ _ _ _ _ h)
theorem t9_workOff_v11_b189 (hR : Rl wM 4 RX9 cX9_workOff 9 none ad J P) (N : Nat) {q2 : SS} (hP : P none q2) (bk19 : Int32 → Int32 → Int32 → Int32 → Int32 → SS → Option SS) (hbk19 : ∀ (x2 : Int32) (x3 : Int32) (x4 : Int32) (x5 : Int32) (x6 : Int32) (q : SS), bk19 x2 x3 x4 x5 x6 q = some q2 → J [(0, .ref (ad 0)), (1, .ref (ad 11)), (2, .int x2), (3, .int x3), (4, .int x4), (5, .int x5), (6, .int x6)] [] q 19) (x2 : Int32) (x3 : Int32) (x4 : Int32) (x5 : Int32) (x6 : Int32) (x8 : Int32) (q : SS) (h : f9_workOff_v11_b189 N bk19 x2 x3 x4 x5 x6 x8 q = some q2) : J [(0, .ref (ad 0)), (1, .ref (ad 11)), (2, .int x2), (3, .int x3), (4, .int x4), (5, .int x5), (6, .int x6), (8, .int x8)] [.ref (ad 0)] q 189 := by
  unfold f9_workOff_v11_b189 at h
  refine r_iconst hR dX9_workOff_189 kc_iconst_0 ?_
  exact r_sub hR [0, 1, 2, 3, 4, 5, 6, 7] rfl (t9_workOff_v11_b190 hR N hP bk19 hbk19 _ _ _ _ _ _ _ _ h)
theorem t9_workOff_v11_l19_B (hR : Rl wM 4 RX9 cX9_workOff 9 none ad J P) (N : Nat) {q2 : SS} (hP : P none q2) (bk19 : Int32 → Int32 → Int32 → Int32 → Int32 → SS → Option SS) (hbk19 : ∀ (x2 : Int32) (x3 : Int32) (x4 : Int32) (x5 : Int32) (x6 : Int32) (q : SS), bk19 x2 x3 x4 x5 x6 q = some q2 → J [(0, .ref (ad 0)), (1, .ref (ad 11)), (2, .int x2), (3, .int x3), (4, .int x4), (5, .int x5), (6, .int x6)] [] q 19) (x2 : Int32) (x3 : Int32) (x4 : Int32) (x5 : Int32) (x6 : Int32) (q : SS) (h : f9_workOff_v11_l19_B N bk19 x2 x3 x4 x5 x6 q = some q2) : J [(0, .ref (ad 0)), (1, .ref (ad 11)), (2, .int x2), (3, .int x3), (4, .int x4), (5, .int x5), (6, .int x6)] [] q 19 := by
  unfold f9_workOff_v11_l19_B at h
  refine r_iload hR dX9_workOff_19 6 rfl ?_
  refine r_iload_n hR dX9_workOff_21 rfl 2 rfl ?_
  refine r_iload_n hR dX9_workOff_22 rfl 3 rfl ?_
  refine r_iadd hR dX9_workOff_23 ?_
  refine r_icmp_ge hR (tgt := 307) dX9_workOff_24 (by decide) (fun c_24 => ?_) (fun c_24 => ?_)
  · replace h := it_t c_24 h
    exact r_vret hR dX9_workOff_307 rfl (rtv hP h)
  · replace h := it_f c_24 h
    refine r_aload_n hR dX9_workOff_27 rfl 1 rfl ?_
    refine r_iload hR dX9_workOff_28 6 rfl ?_
    obtain ⟨hin, h⟩ := ck_some h
    refine ld_X9_page hR dX9_workOff_30 hin ?_
    obtain ⟨x7_31, hx, h⟩ := bn_some h
    refine r_istore hR (i := 7) (lv' := [(7, .int x7_31), (0, .ref (ad 0)), (1, .ref (ad 11)), (2, .int x2), (3, .int x3), (4, .int x4), (5, .int x5), (6, .int x6)]) dX9_workOff_31 hx (by decide) rfl ?_
    refine r_iload hR dX9_workOff_33 0 rfl ?_
    refine r_i2l hR dX9_workOff_35 ?_
    refine r_ldc2 hR dX9_workOff_36 m_5_180 ?_
    refine r_ldc2 hR dX9_workOff_39 m_5_181 ?_
    obtain ⟨r_42, hc, h⟩ := bd_some h
    refine r_callSi hR (c9_in hc) (cf_X9_92 (by decide)) m_5_6 (As := [.long (Int32.toInt64 x7_31), .long (48 : Int64), .long (53 : Int64)]) rfl rfl (Nat.le_of_ble_eq_true rfl) rfl dX9_workOff_42 ?_
    refine r_if_eq hR (tgt := 103) dX9_workOff_45 (by decide) (fun c_45 => ?_) (fun c_45 => ?_)
    · replace h := it_t c_45 h
      refine r_iload hR dX9_workOff_103 0 rfl ?_
      refine r_bipush hR dX9_workOff_105 kc_bipush_41 ?_
      refine r_icmp_ne hR (tgt := 282) dX9_workOff_107 (by decide) (fun c_107 => ?_) (fun c_107 => ?_)
      · replace h := it_f c_107 h
        refine r_iload hR dX9_workOff_282 0 rfl ?_
        refine r_bipush hR dX9_workOff_284 kc_bipush_40 ?_
        refine r_icmp_eq hR (tgt := 301) dX9_workOff_286 (by decide) (fun c_286 => ?_) (fun c_286 => ?_)
        · replace h := it_t c_286 h
          exact r_sub hR [1, 2, 3, 4, 5, 6, 7] rfl (t9_workOff_v11_b301 hR N hP bk19 hbk19 _ _ _ _ _ _ h)
        · replace h := it_f c_286 h
          refine r_aload_n hR dX9_workOff_289 rfl 1 rfl ?_
          refine g_X9_ways hR m_4_145 dX9_workOff_290 ?_
          refine r_iload hR dX9_workOff_293 6 rfl ?_
          refine r_iload hR dX9_workOff_295 0 rfl ?_
          obtain ⟨hin, h⟩ := ck_some h
          obtain ⟨q_297, hq, h⟩ := bn_some h
          refine sv_X9_ways hR dX9_workOff_297 hin hq ?_
          obtain ⟨x5_298, hx, h⟩ := bn_some h
          refine r_iinc hR (i := 5) (lv' := [(5, .int x5_298), (7, .int x7_31), (0, .ref (ad 0)), (1, .ref (ad 11)), (2, .int x2), (3, .int x3), (4, .int x4), (6, .int x6)]) dX9_workOff_298 6 rfl (inc_ok hx kc_iconst_1) (by decide) rfl ?_
          exact r_sub hR [2, 3, 4, 5, 6, 0, 7] rfl (t9_workOff_v11_b301 hR N hP bk19 hbk19 _ _ _ _ _ _ h)
      · replace h := it_t c_107 h
        obtain ⟨x5_110, hx, h⟩ := bn_some h
        refine r_iinc hR (i := 5) (lv' := [(5, .int x5_110), (7, .int x7_31), (0, .ref (ad 0)), (1, .ref (ad 11)), (2, .int x2), (3, .int x3), (4, .int x4), (6, .int x6)]) dX9_workOff_110 6 rfl (inc_ok hx kc_iconst_m1) (by decide) rfl ?_
        obtain ⟨x4_113, hx, h⟩ := bn_some h
        refine r_iinc hR (i := 4) (lv' := [(4, .int x4_113), (5, .int x5_110), (7, .int x7_31), (0, .ref (ad 0)), (1, .ref (ad 11)), (2, .int x2), (3, .int x3), (6, .int x6)]) dX9_workOff_113 6 rfl (inc_ok hx kc_iconst_m1) (by decide) rfl ?_
        refine r_aload_n hR dX9_workOff_116 rfl 3 rfl ?_
        refine r_dup hR dX9_workOff_117 rfl ?_
        refine g_X9_stepMany hR m_4_147 dX9_workOff_118 ?_
        refine r_iconst hR dX9_workOff_121 kc_iconst_1 ?_
        refine r_iadd hR dX9_workOff_122 ?_
        obtain ⟨q_123, hq, h⟩ := bn_some h
        refine p_X9_stepMany hR m_4_147 dX9_workOff_123 hq ?_
        refine r_aload_n hR dX9_workOff_126 rfl 3 rfl ?_
        refine r_aload_n hR dX9_workOff_127 rfl 3 rfl ?_
        refine g_X9_ways hR m_4_145 dX9_workOff_128 ?_
        refine r_iload hR dX9_workOff_131 1 rfl ?_
        obtain ⟨hin, h⟩ := ck_some h
        refine ld_X9_ways hR dX9_workOff_133 hin ?_
        refine r_aload_n hR dX9_workOff_134 rfl 3 rfl ?_
        refine g_X9_readySets hR m_4_142 dX9_workOff_135 ?_
        refine r_iload hR dX9_workOff_138 0 rfl ?_
        refine r_iconst hR dX9_workOff_140 kc_iconst_1 ?_
        refine r_isub hR dX9_workOff_141 ?_
        obtain ⟨hin, h⟩ := ck_some h
        refine ld_X9_readySets hR dX9_workOff_142 hin ?_
        refine r_aload_n hR dX9_workOff_143 rfl 3 rfl ?_
        refine g_X9_readySets hR m_4_142 dX9_workOff_144 ?_
        refine r_iload hR dX9_workOff_147 0 rfl ?_
        obtain ⟨hin, h⟩ := ck_some h
        refine ld_X9_readySets hR dX9_workOff_149 hin ?_
        refine r_aload_n hR dX9_workOff_150 rfl 3 rfl ?_
        refine g_X9_readyOrders hR m_4_144 dX9_workOff_151 ?_
        refine r_iload hR dX9_workOff_154 0 rfl ?_
        refine r_iconst hR dX9_workOff_156 kc_iconst_1 ?_
        refine r_isub hR dX9_workOff_157 ?_
        obtain ⟨hin, h⟩ := ck_some h
        refine ld_X9_readyOrders hR dX9_workOff_158 hin ?_
        refine r_aload_n hR dX9_workOff_159 rfl 3 rfl ?_
        refine g_X9_readyOrders hR m_4_144 dX9_workOff_160 ?_
        refine r_iload hR dX9_workOff_163 0 rfl ?_
        obtain ⟨hin, h⟩ := ck_some h
        refine ld_X9_readyOrders hR dX9_workOff_165 hin ?_
        obtain ⟨r_166, hc, h⟩ := bd_some h
        refine r_callVi hR (c9_stepCost N hc) (cf_X9_245 (by decide)) ⟨m_5_200, ms_5_0⟩ (As := [.int (ar q_123 17 (ix x5_110)), .int (ar q_123 14 (ix (x4_113 - (1 : Int32)))), .int (ar q_123 14 (ix x4_113)), .int (ar q_123 16 (ix (x4_113 - (1 : Int32)))), .int (ar q_123 16 (ix x4_113))]) (q0 := 0) (ci := 7) rfl rfl rfl rfl (rc_X9 ad _) (Nat.le_of_ble_eq_true rfl) rfl dX9_workOff_166 ?_
        refine r_istore hR (i := 8) (lv' := [(8, .int r_166), (4, .int x4_113), (5, .int x5_110), (7, .int x7_31), (0, .ref (ad 0)), (1, .ref (ad 11)), (2, .int x2), (3, .int x3), (6, .int x6)]) dX9_workOff_169 rfl (by decide) rfl ?_
        refine r_aload_n hR dX9_workOff_171 rfl 4 rfl ?_
        refine r_aload_n hR dX9_workOff_172 rfl 4 rfl ?_
        refine g_X9_canBeDone hR m_4_146 dX9_workOff_173 ?_
        refine r_if_eq hR (tgt := 189) dX9_workOff_176 (by decide) (fun c_176 => ?_) (fun c_176 => ?_)
        · replace h := it_t c_176 h
          exact r_sub hR [4, 5, 6, 7, 1, 2, 8, 0] rfl (t9_workOff_v11_b189 hR N hP bk19 hbk19 _ _ _ _ _ _ _ h)
        · replace h := it_f c_176 h
          refine r_iload hR dX9_workOff_179 0 rfl ?_
          refine r_iconst hR dX9_workOff_181 kc_iconst_m1 ?_
          refine r_icmp_eq hR (tgt := 189) dX9_workOff_182 (by decide) (fun c_182 => ?_) (fun c_182 => ?_)
          · replace h := it_t c_182 h
            exact r_sub hR [4, 5, 6, 7, 1, 2, 8, 0] rfl (t9_workOff_v11_b189 hR N hP bk19 hbk19 _ _ _ _ _ _ _ h)
          · replace h := it_f c_182 h
            refine r_iconst hR dX9_workOff_185 kc_iconst_1 ?_
            refine r_goto hR (tgt := 190) dX9_workOff_186 (by decide) ?_
            exact r_sub hR [4, 5, 6, 7, 1, 2, 8, 0] rfl (t9_workOff_v11_b190 hR N hP bk19 hbk19 _ _ _ _ _ _ _ _ h)
    · replace h := it_f c_45 h
      refine r_iload hR dX9_workOff_48 0 rfl ?_
      refine r_bipush hR dX9_workOff_50 kc_bipush_48 ?_
      refine r_isub hR dX9_workOff_52 ?_
      obtain ⟨x8_53, hx, h⟩ := bn_some h
      refine r_istore hR (i := 8) (lv' := [(8, .int x8_53), (7, .int x7_31), (0, .ref (ad 0)), (1, .ref (ad 11)), (2, .int x2), (3, .int x3), (4, .int x4), (5, .int x5), (6, .int x6)]) dX9_workOff_53 hx (by decide) rfl ?_
      refine r_aload_n hR dX9_workOff_55 rfl 2 rfl ?_
      refine g_X9_readySets hR m_4_142 dX9_workOff_56 ?_
      refine r_iload hR dX9_workOff_59 6 rfl ?_
      refine r_iconst hR dX9_workOff_61 kc_iconst_1 ?_
      refine r_iload hR dX9_workOff_62 0 rfl ?_
      refine r_ishl hR dX9_workOff_64 ?_
      obtain ⟨hin, h⟩ := ck_some h
      obtain ⟨q_65, hq, h⟩ := bn_some h
      refine sv_X9_readySets hR dX9_workOff_65 hin hq ?_
      refine r_aload_n hR dX9_workOff_66 rfl 2 rfl ?_
      refine g_X9_readyCosts hR m_4_143 dX9_workOff_67 ?_
      refine r_iload hR dX9_workOff_70 6 rfl ?_
      refine r_aload_n hR dX9_workOff_72 rfl 2 rfl ?_
      refine g_X9_pagesNow hR m_4_141 dX9_workOff_73 ?_
      refine r_iconst hR dX9_workOff_76 kc_iconst_1 ?_
      refine r_iload hR dX9_workOff_77 0 rfl ?_
      refine r_ishl hR dX9_workOff_79 ?_
      obtain ⟨hin, h⟩ := ck_some h
      refine ld_X9_pagesNow hR dX9_workOff_80 hin ?_
      obtain ⟨hin, h⟩ := ck_some h
      obtain ⟨q_81, hq, h⟩ := bn_some h
      refine sv_X9_readyCosts hR dX9_workOff_81 hin hq ?_
      refine r_aload_n hR dX9_workOff_82 rfl 2 rfl ?_
      refine g_X9_readyOrders hR m_4_144 dX9_workOff_83 ?_
      refine r_iload hR dX9_workOff_86 6 rfl ?_
      refine r_aload_n hR dX9_workOff_88 rfl 2 rfl ?_
      refine r_iload hR dX9_workOff_89 0 rfl ?_
      obtain ⟨r_91, hc, h⟩ := bd_some h
      refine r_callVi hR (c9_sortedBy N hc) (cf_X9_146 (by decide)) ⟨m_5_73, ms_3_12⟩ (As := [.int x8_53]) (q0 := 0) (ci := 7) rfl rfl rfl rfl (rc_X9 ad _) (Nat.le_of_ble_eq_true rfl) rfl dX9_workOff_91 ?_
      refine r_iconst hR dX9_workOff_94 kc_iconst_1 ?_
      refine r_iadd hR dX9_workOff_95 ?_
      obtain ⟨hin, h⟩ := ck_some h
      obtain ⟨q_96, hq, h⟩ := bn_some h
      refine sv_X9_readyOrders hR dX9_workOff_96 hin hq ?_
      obtain ⟨x4_97, hx, h⟩ := bn_some h
      refine r_iinc hR (i := 4) (lv' := [(4, .int x4_97), (8, .int x8_53), (7, .int x7_31), (0, .ref (ad 0)), (1, .ref (ad 11)), (2, .int x2), (3, .int x3), (5, .int x5), (6, .int x6)]) dX9_workOff_97 6 rfl (inc_ok hx kc_iconst_1) (by decide) rfl ?_
      refine r_goto hR (tgt := 301) dX9_workOff_100 (by decide) ?_
      exact r_sub hR [3, 4, 5, 6, 0, 7, 8] rfl (t9_workOff_v11_b301 hR N hP bk19 hbk19 _ _ _ _ _ _ h)
theorem t9_workOff_v11_l19 (hR : Rl wM 4 RX9 cX9_workOff 9 none ad J P) (N : Nat) {q2 : SS} (hP : P none q2) : ∀ (n : Nat) (x2 : Int32) (x3 : Int32) (x4 : Int32) (x5 : Int32) (x6 : Int32) (q : SS), f9_workOff_v11_l19 N n x2 x3 x4 x5 x6 q = some q2 → J [(0, .ref (ad 0)), (1, .ref (ad 11)), (2, .int x2), (3, .int x3), (4, .int x4), (5, .int x5), (6, .int x6)] [] q 19 := by
  intro n
  induction n with
  | zero => intro x2 x3 x4 x5 x6 q h; exact mu_noneF h
  | succ n ih => intro x2 x3 x4 x5 x6 q h; exact t9_workOff_v11_l19_B hR N hP _ ih x2 x3 x4 x5 x6 q h
theorem t9_workOff_v11 (hR : Rl wM 4 RX9 cX9_workOff 9 none ad J P) (N : Nat) {q2 : SS} (hP : P none q2) (x2 : Int32) (x3 : Int32) (q : SS) (h : f9_workOff_v11 N x2 x3 q = some q2) : J [(0, .ref (ad 0)), (1, .ref (ad 11)), (2, .int x2), (3, .int x3)] [] q 0 := by
  unfold f9_workOff_v11 at h
  refine r_iconst hR dX9_workOff_0 kc_iconst_0 ?_
  refine r_istore hR (i := 4) (lv' := [(4, .int (0 : Int32)), (0, .ref (ad 0)), (1, .ref (ad 11)), (2, .int x2), (3, .int x3)]) dX9_workOff_1 rfl (by decide) rfl ?_
  refine r_iconst hR dX9_workOff_3 kc_iconst_0 ?_
  refine r_istore hR (i := 5) (lv' := [(5, .int (0 : Int32)), (4, .int (0 : Int32)), (0, .ref (ad 0)), (1, .ref (ad 11)), (2, .int x2), (3, .int x3)]) dX9_workOff_4 rfl (by decide) rfl ?_
  refine r_aload_n hR dX9_workOff_6 rfl 2 rfl ?_
  refine r_iconst hR dX9_workOff_7 kc_iconst_1 ?_
  obtain ⟨q_8, hq, h⟩ := bn_some h
  refine p_X9_canBeDone hR m_4_146 dX9_workOff_8 (Or.inr rfl) hq ?_
  refine r_aload_n hR dX9_workOff_11 rfl 2 rfl ?_
  refine r_iconst hR dX9_workOff_12 kc_iconst_0 ?_
  obtain ⟨q_13, hq, h⟩ := bn_some h
  refine p_X9_stepMany hR m_4_147 dX9_workOff_13 hq ?_
  refine r_iload_n hR dX9_workOff_16 rfl 4 rfl ?_
  refine r_istore hR (i := 6) (lv' := [(6, .int x2), (5, .int (0 : Int32)), (4, .int (0 : Int32)), (0, .ref (ad 0)), (1, .ref (ad 11)), (2, .int x2), (3, .int x3)]) dX9_workOff_17 rfl (by decide) rfl ?_
  exact r_sub hR [3, 4, 5, 6, 2, 1, 0] rfl (t9_workOff_v11_l19 hR N hP N _ _ _ _ _ _ h)
theorem c9_workOff_v11 (N : Nat) {x2 : Int32} {x3 : Int32} {q : SS} {q2 : SS} (h : f9_workOff_v11 N x2 x3 q = some q2) : Ct wM 4 yX9_workOff cX9_workOff 9 none (fun ad => [.ref (ad 0), .ref (ad 11), .int x2, .int x3]) q (fun _ => none) q2 :=
  ct_of (by decide) (fun _ => Nat.le_of_ble_eq_true rfl) (fun ad J hR => t9_workOff_v11 hR N ⟨rfl, rfl⟩ x2 x3 q h)
theorem t9_workOff_v21_b301 (hR : Rl wM 4 RX9 cX9_workOff 9 none ad J P) (N : Nat) {q2 : SS} (hP : P none q2) (bk19 : Int32 → Int32 → Int32 → Int32 → Int32 → SS → Option SS) (hbk19 : ∀ (x2 : Int32) (x3 : Int32) (x4 : Int32) (x5 : Int32) (x6 : Int32) (q : SS), bk19 x2 x3 x4 x5 x6 q = some q2 → J [(0, .ref (ad 0)), (1, .ref (ad 21)), (2, .int x2), (3, .int x3), (4, .int x4), (5, .int x5), (6, .int x6)] [] q 19) (x2 : Int32) (x3 : Int32) (x4 : Int32) (x5 : Int32) (x6 : Int32) (q : SS) (h : f9_workOff_v21_b301 N bk19 x2 x3 x4 x5 x6 q = some q2) : J [(0, .ref (ad 0)), (1, .ref (ad 21)), (2, .int x2), (3, .int x3), (4, .int x4), (5, .int x5), (6, .int x6)] [] q 301 := by
  unfold f9_workOff_v21_b301 at h
  obtain ⟨x6_301, hx, h⟩ := bn_some h
  refine r_iinc hR (i := 6) (lv' := [(6, .int x6_301), (0, .ref (ad 0)), (1, .ref (ad 21)), (2, .int x2), (3, .int x3), (4, .int x4), (5, .int x5)]) dX9_workOff_301 6 rfl (inc_ok hx kc_iconst_1) (by decide) rfl ?_
  refine r_goto hR (tgt := 19) dX9_workOff_304 (by decide) ?_
  exact r_sub hR [1, 2, 3, 4, 5, 6, 0] rfl (hbk19 _ _ _ _ _ _ h)
theorem t9_workOff_v21_b190 (hR : Rl wM 4 RX9 cX9_workOff 9 none ad J P) (N : Nat) {q2 : SS} (hP : P none q2) (bk19 : Int32 → Int32 → Int32 → Int32 → Int32 → SS → Option SS) (hbk19 : ∀ (x2 : Int32) (x3 : Int32) (x4 : Int32) (x5 : Int32) (x6 : Int32) (q : SS), bk19 x2 x3 x4 x5 x6 q = some q2 → J [(0, .ref (ad 0)), (1, .ref (ad 21)), (2, .int x2), (3, .int x3), (4, .int x4), (5, .int x5), (6, .int x6)] [] q 19) (x2 : Int32) (x3 : Int32) (x4 : Int32) (x5 : Int32) (x6 : Int32) (x8 : Int32) (s0 : Int32) (q : SS) (h : f9_workOff_v21_b190 N bk19 x2 x3 x4 x5 x6 x8 s0 q = some q2) : J [(0, .ref (ad 0)), (1, .ref (ad 21)), (2, .int x2), (3, .int x3), (4, .int x4), (5, .int x5), (6, .int x6), (8, .int x8)] [.int s0, .ref (ad 0)] q 190 := by
  unfold f9_workOff_v21_b190 at h
  obtain ⟨hz, h⟩ := cz_some h
  obtain ⟨q_190, hq, h⟩ := bn_some h
  refine p_X9_canBeDone hR m_4_146 dX9_workOff_190 hz hq ?_
  refine r_aload_n hR dX9_workOff_193 rfl 0 rfl ?_
  refine g_X9_readyOrders hR m_4_144 dX9_workOff_194 ?_
  refine r_iload hR dX9_workOff_197 4 rfl ?_
  refine r_iconst hR dX9_workOff_199 kc_iconst_1 ?_
  refine r_isub hR dX9_workOff_200 ?_
  refine r_aload_n hR dX9_workOff_201 rfl 0 rfl ?_
  refine r_aload_n hR dX9_workOff_202 rfl 0 rfl ?_
  refine g_X9_ways hR m_4_145 dX9_workOff_203 ?_
  refine r_iload hR dX9_workOff_206 5 rfl ?_
  obtain ⟨hin, h⟩ := ck_some h
  refine ld_X9_ways hR dX9_workOff_208 hin ?_
  refine r_aload_n hR dX9_workOff_209 rfl 0 rfl ?_
  refine g_X9_readySets hR m_4_142 dX9_workOff_210 ?_
  refine r_iload hR dX9_workOff_213 4 rfl ?_
  refine r_iconst hR dX9_workOff_215 kc_iconst_1 ?_
  refine r_isub hR dX9_workOff_216 ?_
  obtain ⟨hin, h⟩ := ck_some h
  refine ld_X9_readySets hR dX9_workOff_217 hin ?_
  refine r_aload_n hR dX9_workOff_218 rfl 0 rfl ?_
  refine g_X9_readySets hR m_4_142 dX9_workOff_219 ?_
  refine r_iload hR dX9_workOff_222 4 rfl ?_
  obtain ⟨hin, h⟩ := ck_some h
  refine ld_X9_readySets hR dX9_workOff_224 hin ?_
  refine r_aload_n hR dX9_workOff_225 rfl 0 rfl ?_
  refine g_X9_readyOrders hR m_4_144 dX9_workOff_226 ?_
  refine r_iload hR dX9_workOff_229 4 rfl ?_
  refine r_iconst hR dX9_workOff_231 kc_iconst_1 ?_
  refine r_isub hR dX9_workOff_232 ?_
  obtain ⟨hin, h⟩ := ck_some h
  refine ld_X9_readyOrders hR dX9_workOff_233 hin ?_
  obtain ⟨r_234, hc, h⟩ := bd_some h
  refine r_callVi hR (c9_stepOrder N hc) (cf_X9_249 (by decide)) ⟨m_5_216, ms_5_4⟩ (As := [.int (ar q_190 17 (ix x5)), .int (ar q_190 14 (ix (x4 - (1 : Int32)))), .int (ar q_190 14 (ix x4)), .int (ar q_190 16 (ix (x4 - (1 : Int32))))]) (q0 := 0) (ci := 7) rfl rfl rfl rfl (rc_X9 ad _) (Nat.le_of_ble_eq_true rfl) rfl dX9_workOff_234 ?_
  obtain ⟨hin, h⟩ := ck_some h
  obtain ⟨q_237, hq, h⟩ := bn_some h
  refine sv_X9_readyOrders hR dX9_workOff_237 hin hq ?_
  refine r_aload_n hR dX9_workOff_238 rfl 0 rfl ?_
  refine g_X9_readyCosts hR m_4_143 dX9_workOff_239 ?_
  refine r_iload hR dX9_workOff_242 4 rfl ?_
  refine r_iconst hR dX9_workOff_244 kc_iconst_1 ?_
  refine r_isub hR dX9_workOff_245 ?_
  refine r_dup2 hR dX9_workOff_246 rfl rfl ?_
  obtain ⟨hin, h⟩ := ck_some h
  refine ld_X9_readyCosts hR dX9_workOff_247 hin ?_
  refine r_aload_n hR dX9_workOff_248 rfl 0 rfl ?_
  refine g_X9_readyCosts hR m_4_143 dX9_workOff_249 ?_
  refine r_iload hR dX9_workOff_252 4 rfl ?_
  obtain ⟨hin, h⟩ := ck_some h
  refine ld_X9_readyCosts hR dX9_workOff_254 hin ?_
  refine r_iload hR dX9_workOff_255 7 rfl ?_
  refine r_iadd hR dX9_workOff_257 ?_
  refine r_iadd hR dX9_workOff_258 ?_
  obtain ⟨hin, h⟩ := ck_some h
  obtain ⟨q_259, hq, h⟩ := bn_some h
  refine sv_X9_readyCosts hR dX9_workOff_259 hin hq ?_
  refine r_aload_n hR dX9_workOff_260 rfl 0 rfl ?_
  refine g_X9_readySets hR m_4_142 dX9_workOff_261 ?_
  refine r_iload hR dX9_workOff_264 4 rfl ?_
  refine r_iconst hR dX9_workOff_266 kc_iconst_1 ?_
  refine r_isub hR dX9_workOff_267 ?_
  refine r_dup2 hR dX9_workOff_268 rfl rfl ?_
  obtain ⟨hin, h⟩ := ck_some h
  refine ld_X9_readySets hR dX9_workOff_269 hin ?_
  refine r_aload_n hR dX9_workOff_270 rfl 0 rfl ?_
  refine g_X9_readySets hR m_4_142 dX9_workOff_271 ?_
  refine r_iload hR dX9_workOff_274 4 rfl ?_
  obtain ⟨hin, h⟩ := ck_some h
  refine ld_X9_readySets hR dX9_workOff_276 hin ?_
  refine r_ior hR dX9_workOff_277 ?_
  obtain ⟨hin, h⟩ := ck_some h
  obtain ⟨q_278, hq, h⟩ := bn_some h
  refine sv_X9_readySets hR dX9_workOff_278 hin hq ?_
  refine r_goto hR (tgt := 301) dX9_workOff_279 (by decide) ?_
  exact r_sub hR [0, 1, 2, 3, 4, 5, 6] rfl (t9_workOff_v21_b301 hR N hP bk19 hbk19 _ _ _ _ _ _ h)
theorem t9_workOff_v21_b189 (hR : Rl wM 4 RX9 cX9_workOff 9 none ad J P) (N : Nat) {q2 : SS} (hP : P none q2) (bk19 : Int32 → Int32 → Int32 → Int32 → Int32 → SS → Option SS) (hbk19 : ∀ (x2 : Int32) (x3 : Int32) (x4 : Int32) (x5 : Int32) (x6 : Int32) (q : SS), bk19 x2 x3 x4 x5 x6 q = some q2 → J [(0, .ref (ad 0)), (1, .ref (ad 21)), (2, .int x2), (3, .int x3), (4, .int x4), (5, .int x5), (6, .int x6)] [] q 19) (x2 : Int32) (x3 : Int32) (x4 : Int32) (x5 : Int32) (x6 : Int32) (x8 : Int32) (q : SS) (h : f9_workOff_v21_b189 N bk19 x2 x3 x4 x5 x6 x8 q = some q2) : J [(0, .ref (ad 0)), (1, .ref (ad 21)), (2, .int x2), (3, .int x3), (4, .int x4), (5, .int x5), (6, .int x6), (8, .int x8)] [.ref (ad 0)] q 189 := by
  unfold f9_workOff_v21_b189 at h
  refine r_iconst hR dX9_workOff_189 kc_iconst_0 ?_
  exact r_sub hR [0, 1, 2, 3, 4, 5, 6, 7] rfl (t9_workOff_v21_b190 hR N hP bk19 hbk19 _ _ _ _ _ _ _ _ h)
theorem t9_workOff_v21_l19_B (hR : Rl wM 4 RX9 cX9_workOff 9 none ad J P) (N : Nat) {q2 : SS} (hP : P none q2) (bk19 : Int32 → Int32 → Int32 → Int32 → Int32 → SS → Option SS) (hbk19 : ∀ (x2 : Int32) (x3 : Int32) (x4 : Int32) (x5 : Int32) (x6 : Int32) (q : SS), bk19 x2 x3 x4 x5 x6 q = some q2 → J [(0, .ref (ad 0)), (1, .ref (ad 21)), (2, .int x2), (3, .int x3), (4, .int x4), (5, .int x5), (6, .int x6)] [] q 19) (x2 : Int32) (x3 : Int32) (x4 : Int32) (x5 : Int32) (x6 : Int32) (q : SS) (h : f9_workOff_v21_l19_B N bk19 x2 x3 x4 x5 x6 q = some q2) : J [(0, .ref (ad 0)), (1, .ref (ad 21)), (2, .int x2), (3, .int x3), (4, .int x4), (5, .int x5), (6, .int x6)] [] q 19 := by
  unfold f9_workOff_v21_l19_B at h
  refine r_iload hR dX9_workOff_19 6 rfl ?_
  refine r_iload_n hR dX9_workOff_21 rfl 2 rfl ?_
  refine r_iload_n hR dX9_workOff_22 rfl 3 rfl ?_
  refine r_iadd hR dX9_workOff_23 ?_
  refine r_icmp_ge hR (tgt := 307) dX9_workOff_24 (by decide) (fun c_24 => ?_) (fun c_24 => ?_)
  · replace h := it_t c_24 h
    exact r_vret hR dX9_workOff_307 rfl (rtv hP h)
  · replace h := it_f c_24 h
    refine r_aload_n hR dX9_workOff_27 rfl 1 rfl ?_
    refine r_iload hR dX9_workOff_28 6 rfl ?_
    obtain ⟨hin, h⟩ := ck_some h
    refine ld_X9_foretoldText hR dX9_workOff_30 hin ?_
    obtain ⟨x7_31, hx, h⟩ := bn_some h
    refine r_istore hR (i := 7) (lv' := [(7, .int x7_31), (0, .ref (ad 0)), (1, .ref (ad 21)), (2, .int x2), (3, .int x3), (4, .int x4), (5, .int x5), (6, .int x6)]) dX9_workOff_31 hx (by decide) rfl ?_
    refine r_iload hR dX9_workOff_33 0 rfl ?_
    refine r_i2l hR dX9_workOff_35 ?_
    refine r_ldc2 hR dX9_workOff_36 m_5_180 ?_
    refine r_ldc2 hR dX9_workOff_39 m_5_181 ?_
    obtain ⟨r_42, hc, h⟩ := bd_some h
    refine r_callSi hR (c9_in hc) (cf_X9_92 (by decide)) m_5_6 (As := [.long (Int32.toInt64 x7_31), .long (48 : Int64), .long (53 : Int64)]) rfl rfl (Nat.le_of_ble_eq_true rfl) rfl dX9_workOff_42 ?_
    refine r_if_eq hR (tgt := 103) dX9_workOff_45 (by decide) (fun c_45 => ?_) (fun c_45 => ?_)
    · replace h := it_t c_45 h
      refine r_iload hR dX9_workOff_103 0 rfl ?_
      refine r_bipush hR dX9_workOff_105 kc_bipush_41 ?_
      refine r_icmp_ne hR (tgt := 282) dX9_workOff_107 (by decide) (fun c_107 => ?_) (fun c_107 => ?_)
      · replace h := it_f c_107 h
        refine r_iload hR dX9_workOff_282 0 rfl ?_
        refine r_bipush hR dX9_workOff_284 kc_bipush_40 ?_
        refine r_icmp_eq hR (tgt := 301) dX9_workOff_286 (by decide) (fun c_286 => ?_) (fun c_286 => ?_)
        · replace h := it_t c_286 h
          exact r_sub hR [1, 2, 3, 4, 5, 6, 7] rfl (t9_workOff_v21_b301 hR N hP bk19 hbk19 _ _ _ _ _ _ h)
        · replace h := it_f c_286 h
          refine r_aload_n hR dX9_workOff_289 rfl 1 rfl ?_
          refine g_X9_ways hR m_4_145 dX9_workOff_290 ?_
          refine r_iload hR dX9_workOff_293 6 rfl ?_
          refine r_iload hR dX9_workOff_295 0 rfl ?_
          obtain ⟨hin, h⟩ := ck_some h
          obtain ⟨q_297, hq, h⟩ := bn_some h
          refine sv_X9_ways hR dX9_workOff_297 hin hq ?_
          obtain ⟨x5_298, hx, h⟩ := bn_some h
          refine r_iinc hR (i := 5) (lv' := [(5, .int x5_298), (7, .int x7_31), (0, .ref (ad 0)), (1, .ref (ad 21)), (2, .int x2), (3, .int x3), (4, .int x4), (6, .int x6)]) dX9_workOff_298 6 rfl (inc_ok hx kc_iconst_1) (by decide) rfl ?_
          exact r_sub hR [2, 3, 4, 5, 6, 0, 7] rfl (t9_workOff_v21_b301 hR N hP bk19 hbk19 _ _ _ _ _ _ h)
      · replace h := it_t c_107 h
        obtain ⟨x5_110, hx, h⟩ := bn_some h
        refine r_iinc hR (i := 5) (lv' := [(5, .int x5_110), (7, .int x7_31), (0, .ref (ad 0)), (1, .ref (ad 21)), (2, .int x2), (3, .int x3), (4, .int x4), (6, .int x6)]) dX9_workOff_110 6 rfl (inc_ok hx kc_iconst_m1) (by decide) rfl ?_
        obtain ⟨x4_113, hx, h⟩ := bn_some h
        refine r_iinc hR (i := 4) (lv' := [(4, .int x4_113), (5, .int x5_110), (7, .int x7_31), (0, .ref (ad 0)), (1, .ref (ad 21)), (2, .int x2), (3, .int x3), (6, .int x6)]) dX9_workOff_113 6 rfl (inc_ok hx kc_iconst_m1) (by decide) rfl ?_
        refine r_aload_n hR dX9_workOff_116 rfl 3 rfl ?_
        refine r_dup hR dX9_workOff_117 rfl ?_
        refine g_X9_stepMany hR m_4_147 dX9_workOff_118 ?_
        refine r_iconst hR dX9_workOff_121 kc_iconst_1 ?_
        refine r_iadd hR dX9_workOff_122 ?_
        obtain ⟨q_123, hq, h⟩ := bn_some h
        refine p_X9_stepMany hR m_4_147 dX9_workOff_123 hq ?_
        refine r_aload_n hR dX9_workOff_126 rfl 3 rfl ?_
        refine r_aload_n hR dX9_workOff_127 rfl 3 rfl ?_
        refine g_X9_ways hR m_4_145 dX9_workOff_128 ?_
        refine r_iload hR dX9_workOff_131 1 rfl ?_
        obtain ⟨hin, h⟩ := ck_some h
        refine ld_X9_ways hR dX9_workOff_133 hin ?_
        refine r_aload_n hR dX9_workOff_134 rfl 3 rfl ?_
        refine g_X9_readySets hR m_4_142 dX9_workOff_135 ?_
        refine r_iload hR dX9_workOff_138 0 rfl ?_
        refine r_iconst hR dX9_workOff_140 kc_iconst_1 ?_
        refine r_isub hR dX9_workOff_141 ?_
        obtain ⟨hin, h⟩ := ck_some h
        refine ld_X9_readySets hR dX9_workOff_142 hin ?_
        refine r_aload_n hR dX9_workOff_143 rfl 3 rfl ?_
        refine g_X9_readySets hR m_4_142 dX9_workOff_144 ?_
        refine r_iload hR dX9_workOff_147 0 rfl ?_
        obtain ⟨hin, h⟩ := ck_some h
        refine ld_X9_readySets hR dX9_workOff_149 hin ?_
        refine r_aload_n hR dX9_workOff_150 rfl 3 rfl ?_
        refine g_X9_readyOrders hR m_4_144 dX9_workOff_151 ?_
        refine r_iload hR dX9_workOff_154 0 rfl ?_
        refine r_iconst hR dX9_workOff_156 kc_iconst_1 ?_
        refine r_isub hR dX9_workOff_157 ?_
        obtain ⟨hin, h⟩ := ck_some h
        refine ld_X9_readyOrders hR dX9_workOff_158 hin ?_
        refine r_aload_n hR dX9_workOff_159 rfl 3 rfl ?_
        refine g_X9_readyOrders hR m_4_144 dX9_workOff_160 ?_
        refine r_iload hR dX9_workOff_163 0 rfl ?_
        obtain ⟨hin, h⟩ := ck_some h
        refine ld_X9_readyOrders hR dX9_workOff_165 hin ?_
        obtain ⟨r_166, hc, h⟩ := bd_some h
        refine r_callVi hR (c9_stepCost N hc) (cf_X9_245 (by decide)) ⟨m_5_200, ms_5_0⟩ (As := [.int (ar q_123 17 (ix x5_110)), .int (ar q_123 14 (ix (x4_113 - (1 : Int32)))), .int (ar q_123 14 (ix x4_113)), .int (ar q_123 16 (ix (x4_113 - (1 : Int32)))), .int (ar q_123 16 (ix x4_113))]) (q0 := 0) (ci := 7) rfl rfl rfl rfl (rc_X9 ad _) (Nat.le_of_ble_eq_true rfl) rfl dX9_workOff_166 ?_
        refine r_istore hR (i := 8) (lv' := [(8, .int r_166), (4, .int x4_113), (5, .int x5_110), (7, .int x7_31), (0, .ref (ad 0)), (1, .ref (ad 21)), (2, .int x2), (3, .int x3), (6, .int x6)]) dX9_workOff_169 rfl (by decide) rfl ?_
        refine r_aload_n hR dX9_workOff_171 rfl 4 rfl ?_
        refine r_aload_n hR dX9_workOff_172 rfl 4 rfl ?_
        refine g_X9_canBeDone hR m_4_146 dX9_workOff_173 ?_
        refine r_if_eq hR (tgt := 189) dX9_workOff_176 (by decide) (fun c_176 => ?_) (fun c_176 => ?_)
        · replace h := it_t c_176 h
          exact r_sub hR [4, 5, 6, 7, 1, 2, 8, 0] rfl (t9_workOff_v21_b189 hR N hP bk19 hbk19 _ _ _ _ _ _ _ h)
        · replace h := it_f c_176 h
          refine r_iload hR dX9_workOff_179 0 rfl ?_
          refine r_iconst hR dX9_workOff_181 kc_iconst_m1 ?_
          refine r_icmp_eq hR (tgt := 189) dX9_workOff_182 (by decide) (fun c_182 => ?_) (fun c_182 => ?_)
          · replace h := it_t c_182 h
            exact r_sub hR [4, 5, 6, 7, 1, 2, 8, 0] rfl (t9_workOff_v21_b189 hR N hP bk19 hbk19 _ _ _ _ _ _ _ h)
          · replace h := it_f c_182 h
            refine r_iconst hR dX9_workOff_185 kc_iconst_1 ?_
            refine r_goto hR (tgt := 190) dX9_workOff_186 (by decide) ?_
            exact r_sub hR [4, 5, 6, 7, 1, 2, 8, 0] rfl (t9_workOff_v21_b190 hR N hP bk19 hbk19 _ _ _ _ _ _ _ _ h)
    · replace h := it_f c_45 h
      refine r_iload hR dX9_workOff_48 0 rfl ?_
      refine r_bipush hR dX9_workOff_50 kc_bipush_48 ?_
      refine r_isub hR dX9_workOff_52 ?_
      obtain ⟨x8_53, hx, h⟩ := bn_some h
      refine r_istore hR (i := 8) (lv' := [(8, .int x8_53), (7, .int x7_31), (0, .ref (ad 0)), (1, .ref (ad 21)), (2, .int x2), (3, .int x3), (4, .int x4), (5, .int x5), (6, .int x6)]) dX9_workOff_53 hx (by decide) rfl ?_
      refine r_aload_n hR dX9_workOff_55 rfl 2 rfl ?_
      refine g_X9_readySets hR m_4_142 dX9_workOff_56 ?_
      refine r_iload hR dX9_workOff_59 6 rfl ?_
      refine r_iconst hR dX9_workOff_61 kc_iconst_1 ?_
      refine r_iload hR dX9_workOff_62 0 rfl ?_
      refine r_ishl hR dX9_workOff_64 ?_
      obtain ⟨hin, h⟩ := ck_some h
      obtain ⟨q_65, hq, h⟩ := bn_some h
      refine sv_X9_readySets hR dX9_workOff_65 hin hq ?_
      refine r_aload_n hR dX9_workOff_66 rfl 2 rfl ?_
      refine g_X9_readyCosts hR m_4_143 dX9_workOff_67 ?_
      refine r_iload hR dX9_workOff_70 6 rfl ?_
      refine r_aload_n hR dX9_workOff_72 rfl 2 rfl ?_
      refine g_X9_pagesNow hR m_4_141 dX9_workOff_73 ?_
      refine r_iconst hR dX9_workOff_76 kc_iconst_1 ?_
      refine r_iload hR dX9_workOff_77 0 rfl ?_
      refine r_ishl hR dX9_workOff_79 ?_
      obtain ⟨hin, h⟩ := ck_some h
      refine ld_X9_pagesNow hR dX9_workOff_80 hin ?_
      obtain ⟨hin, h⟩ := ck_some h
      obtain ⟨q_81, hq, h⟩ := bn_some h
      refine sv_X9_readyCosts hR dX9_workOff_81 hin hq ?_
      refine r_aload_n hR dX9_workOff_82 rfl 2 rfl ?_
      refine g_X9_readyOrders hR m_4_144 dX9_workOff_83 ?_
      refine r_iload hR dX9_workOff_86 6 rfl ?_
      refine r_aload_n hR dX9_workOff_88 rfl 2 rfl ?_
      refine r_iload hR dX9_workOff_89 0 rfl ?_
      obtain ⟨r_91, hc, h⟩ := bd_some h
      refine r_callVi hR (c9_sortedBy N hc) (cf_X9_146 (by decide)) ⟨m_5_73, ms_3_12⟩ (As := [.int x8_53]) (q0 := 0) (ci := 7) rfl rfl rfl rfl (rc_X9 ad _) (Nat.le_of_ble_eq_true rfl) rfl dX9_workOff_91 ?_
      refine r_iconst hR dX9_workOff_94 kc_iconst_1 ?_
      refine r_iadd hR dX9_workOff_95 ?_
      obtain ⟨hin, h⟩ := ck_some h
      obtain ⟨q_96, hq, h⟩ := bn_some h
      refine sv_X9_readyOrders hR dX9_workOff_96 hin hq ?_
      obtain ⟨x4_97, hx, h⟩ := bn_some h
      refine r_iinc hR (i := 4) (lv' := [(4, .int x4_97), (8, .int x8_53), (7, .int x7_31), (0, .ref (ad 0)), (1, .ref (ad 21)), (2, .int x2), (3, .int x3), (5, .int x5), (6, .int x6)]) dX9_workOff_97 6 rfl (inc_ok hx kc_iconst_1) (by decide) rfl ?_
      refine r_goto hR (tgt := 301) dX9_workOff_100 (by decide) ?_
      exact r_sub hR [3, 4, 5, 6, 0, 7, 8] rfl (t9_workOff_v21_b301 hR N hP bk19 hbk19 _ _ _ _ _ _ h)
theorem t9_workOff_v21_l19 (hR : Rl wM 4 RX9 cX9_workOff 9 none ad J P) (N : Nat) {q2 : SS} (hP : P none q2) : ∀ (n : Nat) (x2 : Int32) (x3 : Int32) (x4 : Int32) (x5 : Int32) (x6 : Int32) (q : SS), f9_workOff_v21_l19 N n x2 x3 x4 x5 x6 q = some q2 → J [(0, .ref (ad 0)), (1, .ref (ad 21)), (2, .int x2), (3, .int x3), (4, .int x4), (5, .int x5), (6, .int x6)] [] q 19 := by
  intro n
  induction n with
  | zero => intro x2 x3 x4 x5 x6 q h; exact mu_noneF h
  | succ n ih => intro x2 x3 x4 x5 x6 q h; exact t9_workOff_v21_l19_B hR N hP _ ih x2 x3 x4 x5 x6 q h
theorem t9_workOff_v21 (hR : Rl wM 4 RX9 cX9_workOff 9 none ad J P) (N : Nat) {q2 : SS} (hP : P none q2) (x2 : Int32) (x3 : Int32) (q : SS) (h : f9_workOff_v21 N x2 x3 q = some q2) : J [(0, .ref (ad 0)), (1, .ref (ad 21)), (2, .int x2), (3, .int x3)] [] q 0 := by
  unfold f9_workOff_v21 at h
  refine r_iconst hR dX9_workOff_0 kc_iconst_0 ?_
  refine r_istore hR (i := 4) (lv' := [(4, .int (0 : Int32)), (0, .ref (ad 0)), (1, .ref (ad 21)), (2, .int x2), (3, .int x3)]) dX9_workOff_1 rfl (by decide) rfl ?_
  refine r_iconst hR dX9_workOff_3 kc_iconst_0 ?_
  refine r_istore hR (i := 5) (lv' := [(5, .int (0 : Int32)), (4, .int (0 : Int32)), (0, .ref (ad 0)), (1, .ref (ad 21)), (2, .int x2), (3, .int x3)]) dX9_workOff_4 rfl (by decide) rfl ?_
  refine r_aload_n hR dX9_workOff_6 rfl 2 rfl ?_
  refine r_iconst hR dX9_workOff_7 kc_iconst_1 ?_
  obtain ⟨q_8, hq, h⟩ := bn_some h
  refine p_X9_canBeDone hR m_4_146 dX9_workOff_8 (Or.inr rfl) hq ?_
  refine r_aload_n hR dX9_workOff_11 rfl 2 rfl ?_
  refine r_iconst hR dX9_workOff_12 kc_iconst_0 ?_
  obtain ⟨q_13, hq, h⟩ := bn_some h
  refine p_X9_stepMany hR m_4_147 dX9_workOff_13 hq ?_
  refine r_iload_n hR dX9_workOff_16 rfl 4 rfl ?_
  refine r_istore hR (i := 6) (lv' := [(6, .int x2), (5, .int (0 : Int32)), (4, .int (0 : Int32)), (0, .ref (ad 0)), (1, .ref (ad 21)), (2, .int x2), (3, .int x3)]) dX9_workOff_17 rfl (by decide) rfl ?_
  exact r_sub hR [3, 4, 5, 6, 2, 1, 0] rfl (t9_workOff_v21_l19 hR N hP N _ _ _ _ _ _ h)
theorem c9_workOff_v21 (N : Nat) {x2 : Int32} {x3 : Int32} {q : SS} {q2 : SS} (h : f9_workOff_v21 N x2 x3 q = some q2) : Ct wM 4 yX9_workOff cX9_workOff 9 none (fun ad => [.ref (ad 0), .ref (ad 21), .int x2, .int x3]) q (fun _ => none) q2 :=
  ct_of (by decide) (fun _ => Nat.le_of_ble_eq_true rfl) (fun ad J hR => t9_workOff_v21 hR N ⟨rfl, rfl⟩ x2 x3 q h)
theorem t9_plan_b73 (hR : Rl wM 10 RX9 cX9_plan 3 (some .int) ad J P) (N : Nat) {r : Int32} {q2 : SS} (hP : P (some (.int r)) q2) (x2 : Int32) (q : SS) (h : f9_plan_b73 N x2 q = some (r, q2)) : J [(0, .ref (ad 0)), (2, .int x2)] [] q 73 := by
  unfold f9_plan_b73 at h
  refine r_iload_n hR dX9_plan_73 rfl 1 rfl ?_
  refine r_if_ne hR (tgt := 86) dX9_plan_74 (by decide) (fun c_74 => ?_) (fun c_74 => ?_)
  · replace h := it_f c_74 h
    refine r_aload_n hR dX9_plan_86 rfl 0 rfl ?_
    refine g_X9_stepMany hR m_4_147 dX9_plan_87 ?_
    exact r_iret hR dX9_plan_90 rfl (rt2 hP h)
  · replace h := it_t c_74 h
    refine r_aload_n hR dX9_plan_77 rfl 0 rfl ?_
    refine g_X9_readySets hR m_4_142 dX9_plan_78 ?_
    refine r_iconst hR dX9_plan_81 kc_iconst_0 ?_
    refine ld_X9_readySets hR dX9_plan_82 (show ¬ ((0 : Int32) < 0 ∨ 41 ≤ Int32.toNatClampNeg (0 : Int32)) by decide) ?_
    refine r_goto hR (tgt := 90) dX9_plan_83 (by decide) ?_
    exact r_iret hR dX9_plan_90 rfl (rt2 hP h)
theorem t9_plan (hR : Rl wM 10 RX9 cX9_plan 3 (some .int) ad J P) (N : Nat) {r : Int32} {q2 : SS} (hP : P (some (.int r)) q2) (x1 : Int32) (x2 : Int32) (q : SS) (h : f9_plan N x1 x2 q = some (r, q2)) : J [(0, .ref (ad 0)), (1, .int x1), (2, .int x2)] [] q 0 := by
  unfold f9_plan at h
  refine r_iload_n hR dX9_plan_0 rfl 1 rfl ?_
  refine r_i2l hR dX9_plan_1 ?_
  refine r_lconst hR dX9_plan_2 kc_lconst_0 ?_
  refine r_lconst hR dX9_plan_3 kc_lconst_1 ?_
  obtain ⟨r_4, hc, h⟩ := bd_some h
  refine r_callSi hR (c9_in hc) (cf_X9_92 (by decide)) m_5_6 (As := [.long (Int32.toInt64 x1), .long (0 : Int64), .long (1 : Int64)]) rfl rfl (Nat.le_of_ble_eq_true rfl) rfl dX9_plan_4 ?_
  refine r_if_eq hR (tgt := 22) dX9_plan_7 (by decide) (fun c_7 => ?_) (fun c_7 => ?_)
  · replace h := it_t c_7 h
    refine r_bipush hR dX9_plan_22 kc_bipush_m102 ?_
    exact r_iret hR dX9_plan_24 rfl (rt2 hP h)
  · replace h := it_f c_7 h
    refine r_iload_n hR dX9_plan_10 rfl 2 rfl ?_
    refine r_i2l hR dX9_plan_11 ?_
    refine r_lconst hR dX9_plan_12 kc_lconst_0 ?_
    refine r_ldc2 hR dX9_plan_13 m_5_87 ?_
    obtain ⟨r_16, hc, h⟩ := bd_some h
    refine r_callSi hR (c9_in hc) (cf_X9_92 (by decide)) m_5_6 (As := [.long (Int32.toInt64 x2), .long (0 : Int64), .long (3 : Int64)]) rfl rfl (Nat.le_of_ble_eq_true rfl) rfl dX9_plan_16 ?_
    refine r_if_ne hR (tgt := 25) dX9_plan_19 (by decide) (fun c_19 => ?_) (fun c_19 => ?_)
    · replace h := it_f c_19 h
      refine r_aload_n hR dX9_plan_25 rfl 0 rfl ?_
      obtain ⟨r_26, q_26, hc, h⟩ := bd2_some h
      refine r_callVi hR (c9_goodOf N hc) (cf_X9_226 (by decide)) ⟨m_5_174, ms_4_11⟩ (As := []) (q0 := 0) (ci := 7) rfl rfl rfl rfl (rc_X9 ad _) (Nat.le_of_ble_eq_true rfl) rfl dX9_plan_26 ?_
      refine r_aload_n hR dX9_plan_29 rfl 0 rfl ?_
      refine g_X9_pageMany hR m_4_135 dX9_plan_30 ?_
      refine r_icmp_lt hR (tgt := 43) dX9_plan_33 (by decide) (fun c_33 => ?_) (fun c_33 => ?_)
      · replace h := it_t c_33 h
        refine r_bipush hR dX9_plan_43 kc_bipush_m103 ?_
        exact r_iret hR dX9_plan_45 rfl (rt2 hP h)
      · replace h := it_f c_33 h
        refine r_aload_n hR dX9_plan_36 rfl 0 rfl ?_
        refine g_X9_isDone hR m_4_140 dX9_plan_37 ?_
        refine r_if_ne hR (tgt := 46) dX9_plan_40 (by decide) (fun c_40 => ?_) (fun c_40 => ?_)
        · replace h := it_f c_40 h
          refine r_aload_n hR dX9_plan_46 rfl 0 rfl ?_
          refine r_iload_n hR dX9_plan_47 rfl 1 rfl ?_
          obtain ⟨q_48, hc, h⟩ := bd_some h
          refine r_callVv hR (c9_layPages N hc) (cf_X9_253 (by decide)) ⟨m_5_192, ms_4_14⟩ (As := [.int x1]) (q0 := 0) (ci := 7) rfl rfl rfl rfl (rc_X9 ad _) (Nat.le_of_ble_eq_true rfl) rfl dX9_plan_48 ?_
          refine r_aload_n hR dX9_plan_51 rfl 0 rfl ?_
          refine r_aload_n hR dX9_plan_52 rfl 0 rfl ?_
          refine g_X9_page hR m_4_134 dX9_plan_53 ?_
          refine r_iconst hR dX9_plan_56 kc_iconst_0 ?_
          refine r_aload_n hR dX9_plan_57 rfl 0 rfl ?_
          refine g_X9_pageMany hR m_4_135 dX9_plan_58 ?_
          obtain ⟨q_61, hc, h⟩ := bd_some h
          refine r_callVv hR (c9_workOff_v11 N hc) (cf_X9_256 (by decide)) ⟨m_5_196, ms_4_15⟩ (As := [.ref (ad 11), .int (0 : Int32), .int (fi q_48 5)]) (q0 := 0) (ci := 7) rfl rfl rfl rfl (rc_X9 ad _) (Nat.le_of_ble_eq_true rfl) rfl dX9_plan_61 ?_
          refine r_iload_n hR dX9_plan_64 rfl 2 rfl ?_
          refine r_if_eq hR (tgt := 73) dX9_plan_65 (by decide) (fun c_65 => ?_) (fun c_65 => ?_)
          · replace h := it_t c_65 h
            exact r_sub hR [0, 2] rfl (t9_plan_b73 hR N hP _ _ h)
          · replace h := it_f c_65 h
            refine r_iload_n hR dX9_plan_68 rfl 2 rfl ?_
            refine r_iconst hR dX9_plan_69 kc_iconst_3 ?_
            refine r_icmp_ne hR (tgt := 91) dX9_plan_70 (by decide) (fun c_70 => ?_) (fun c_70 => ?_)
            · replace h := it_f c_70 h
              refine r_aload_n hR dX9_plan_91 rfl 0 rfl ?_
              refine g_X9_canBeDone hR m_4_146 dX9_plan_92 ?_
              refine r_if_ne hR (tgt := 103) dX9_plan_95 (by decide) (fun c_95 => ?_) (fun c_95 => ?_)
              · replace h := it_f c_95 h
                refine r_iload_n hR dX9_plan_103 rfl 2 rfl ?_
                refine r_iconst hR dX9_plan_104 kc_iconst_1 ?_
                refine r_icmp_ne hR (tgt := 117) dX9_plan_105 (by decide) (fun c_105 => ?_) (fun c_105 => ?_)
                · replace h := it_f c_105 h
                  refine r_aload_n hR dX9_plan_117 rfl 0 rfl ?_
                  refine g_X9_readyOrders hR m_4_144 dX9_plan_118 ?_
                  refine r_iconst hR dX9_plan_121 kc_iconst_0 ?_
                  refine ld_X9_readyOrders hR dX9_plan_122 (show ¬ ((0 : Int32) < 0 ∨ 41 ≤ Int32.toNatClampNeg (0 : Int32)) by decide) ?_
                  refine r_iconst hR dX9_plan_123 kc_iconst_1 ?_
                  refine r_isub hR dX9_plan_124 ?_
                  exact r_iret hR dX9_plan_125 rfl (rt2 hP h)
                · replace h := it_t c_105 h
                  refine r_aload_n hR dX9_plan_108 rfl 0 rfl ?_
                  refine g_X9_readyCosts hR m_4_143 dX9_plan_109 ?_
                  refine r_iconst hR dX9_plan_112 kc_iconst_0 ?_
                  refine ld_X9_readyCosts hR dX9_plan_113 (show ¬ ((0 : Int32) < 0 ∨ 41 ≤ Int32.toNatClampNeg (0 : Int32)) by decide) ?_
                  refine r_goto hR (tgt := 125) dX9_plan_114 (by decide) ?_
                  exact r_iret hR dX9_plan_125 rfl (rt2 hP h)
              · replace h := it_t c_95 h
                refine r_bipush hR dX9_plan_98 kc_bipush_m2 ?_
                refine r_goto hR (tgt := 125) dX9_plan_100 (by decide) ?_
                exact r_iret hR dX9_plan_125 rfl (rt2 hP h)
            · replace h := it_t c_70 h
              exact r_sub hR [0, 2] rfl (t9_plan_b73 hR N hP _ _ h)
        · replace h := it_t c_40 h
          refine r_bipush hR dX9_plan_43 kc_bipush_m103 ?_
          exact r_iret hR dX9_plan_45 rfl (rt2 hP h)
    · replace h := it_t c_19 h
      refine r_bipush hR dX9_plan_22 kc_bipush_m102 ?_
      exact r_iret hR dX9_plan_24 rfl (rt2 hP h)
theorem c9_plan (N : Nat) {x1 : Int32} {x2 : Int32} {q : SS} {r : Int32} {q2 : SS} (h : f9_plan N x1 x2 q = some (r, q2)) : Ct wM 10 yX9_plan cX9_plan 3 (some .int) (fun ad => [.ref (ad 0), .int x1, .int x2]) q (fun _ => some (.int r)) q2 :=
  ct_of (by decide) (fun _ => Nat.le_of_ble_eq_true rfl) (fun ad J hR => t9_plan hR N ⟨rfl, rfl⟩ x1 x2 q h)
theorem t9_signsOf (hR : Rl wM 2 RX9 cX9_signsOf 1 (some .int) ad J P) (N : Nat) {q : SS} {r : Int32} (hP : P (some (.int r)) q) (x0 : Int32) (h : f9_signsOf N x0 = some r) : J [(0, .int x0)] [] q 0 := by
  unfold f9_signsOf at h
  refine r_iconst hR dX9_signsOf_0 kc_iconst_4 ?_
  refine r_iload_n hR dX9_signsOf_1 rfl 0 rfl ?_
  obtain ⟨r_2, hc, h⟩ := bd_some h
  refine r_callSi hR (c9_bitsOf N hc) (cf_X9_98 (by decide)) m_5_9 (As := [.int x0]) rfl rfl (Nat.le_of_ble_eq_true rfl) rfl dX9_signsOf_2 ?_
  refine r_imul hR dX9_signsOf_5 ?_
  refine r_iconst hR dX9_signsOf_6 kc_iconst_3 ?_
  refine r_isub hR dX9_signsOf_7 ?_
  exact r_iret hR dX9_signsOf_8 rfl (rt1 hP h)
theorem c9_signsOf (N : Nat) {x0 : Int32} {q : SS} {r : Int32} (h : f9_signsOf N x0 = some r) : Ct wM 2 yX9_signsOf cX9_signsOf 1 (some .int) (fun ad => [.int x0]) q (fun _ => some (.int r)) q :=
  ct_of (by decide) (fun _ => Nat.le_of_ble_eq_true rfl) (fun ad J hR => t9_signsOf hR N ⟨rfl, rfl⟩ x0 h)
theorem t9_offer_l96_B (hR : Rl wM 1 RX9 cX9_offer 7 none ad J P) (N : Nat) {q2 : SS} (hP : P none q2) (bk96 : Int32 → Int32 → SS → Option SS) (hbk96 : ∀ (x4 : Int32) (x6 : Int32) (q : SS), bk96 x4 x6 q = some q2 → J [(0, .ref (ad 0)), (4, .int x4), (6, .int x6)] [] q 96) (x4 : Int32) (x6 : Int32) (q : SS) (h : f9_offer_l96_B N bk96 x4 x6 q = some q2) : J [(0, .ref (ad 0)), (4, .int x4), (6, .int x6)] [] q 96 := by
  unfold f9_offer_l96_B at h
  refine r_iload hR dX9_offer_96 2 rfl ?_
  refine r_aload_n hR dX9_offer_98 rfl 0 rfl ?_
  refine g_X9_trialMany hR m_4_152 dX9_offer_99 ?_
  refine r_icmp_ge hR (tgt := 131) dX9_offer_102 (by decide) (fun c_102 => ?_) (fun c_102 => ?_)
  · replace h := it_t c_102 h
    exact r_vret hR dX9_offer_131 rfl (rtv hP h)
  · replace h := it_f c_102 h
    refine r_aload_n hR dX9_offer_105 rfl 0 rfl ?_
    refine g_X9_bestTexts hR m_4_150 dX9_offer_106 ?_
    refine r_bipush hR dX9_offer_109 kc_bipush_21 ?_
    refine r_iload hR dX9_offer_111 1 rfl ?_
    refine r_imul hR dX9_offer_113 ?_
    refine r_iload hR dX9_offer_114 2 rfl ?_
    refine r_iadd hR dX9_offer_116 ?_
    refine r_aload_n hR dX9_offer_117 rfl 0 rfl ?_
    refine g_X9_trial hR m_4_151 dX9_offer_118 ?_
    refine r_iload hR dX9_offer_121 2 rfl ?_
    obtain ⟨hin, h⟩ := ck_some h
    refine ld_X9_trial hR dX9_offer_123 hin ?_
    obtain ⟨hin, h⟩ := ck_some h
    obtain ⟨q_124, hq, h⟩ := bn_some h
    refine sv_X9_bestTexts hR dX9_offer_124 hin hq ?_
    obtain ⟨x6_125, hx, h⟩ := bn_some h
    refine r_iinc hR (i := 6) (lv' := [(6, .int x6_125), (0, .ref (ad 0)), (4, .int x4)]) dX9_offer_125 2 rfl (inc_ok hx kc_iconst_1) (by decide) rfl ?_
    refine r_goto hR (tgt := 96) dX9_offer_128 (by decide) ?_
    exact r_sub hR [1, 2, 0] rfl (hbk96 _ _ _ h)
theorem t9_offer_l96 (hR : Rl wM 1 RX9 cX9_offer 7 none ad J P) (N : Nat) {q2 : SS} (hP : P none q2) : ∀ (n : Nat) (x4 : Int32) (x6 : Int32) (q : SS), f9_offer_l96 N n x4 x6 q = some q2 → J [(0, .ref (ad 0)), (4, .int x4), (6, .int x6)] [] q 96 := by
  intro n
  induction n with
  | zero => intro x4 x6 q h; exact mu_noneF h
  | succ n ih => intro x4 x6 q h; exact t9_offer_l96_B hR N hP _ ih x4 x6 q h
theorem t9_offer_b80 (hR : Rl wM 1 RX9 cX9_offer 7 none ad J P) (N : Nat) {q2 : SS} (hP : P none q2) (x3 : Int32) (x4 : Int32) (x5 : Int32) (q : SS) (h : f9_offer_b80 N x3 x4 x5 q = some q2) : J [(0, .ref (ad 0)), (3, .int x3), (4, .int x4), (5, .int x5)] [] q 80 := by
  unfold f9_offer_b80 at h
  refine r_iload hR dX9_offer_80 3 rfl ?_
  refine r_if_ge hR (tgt := 131) dX9_offer_82 (by decide) (fun c_82 => ?_) (fun c_82 => ?_)
  · replace h := it_t c_82 h
    exact r_vret hR dX9_offer_131 rfl (rtv hP h)
  · replace h := it_f c_82 h
    refine r_aload_n hR dX9_offer_85 rfl 0 rfl ?_
    refine g_X9_bestCosts hR m_4_149 dX9_offer_86 ?_
    refine r_iload hR dX9_offer_89 2 rfl ?_
    refine r_iload_n hR dX9_offer_91 rfl 1 rfl ?_
    obtain ⟨hin, h⟩ := ck_some h
    obtain ⟨q_92, hq, h⟩ := bn_some h
    refine sv_X9_bestCosts hR dX9_offer_92 hin hq ?_
    refine r_iconst hR dX9_offer_93 kc_iconst_0 ?_
    refine r_istore hR (i := 6) (lv' := [(6, .int (0 : Int32)), (0, .ref (ad 0)), (3, .int x3), (4, .int x4), (5, .int x5)]) dX9_offer_94 rfl (by decide) rfl ?_
    exact r_sub hR [1, 3, 0] rfl (t9_offer_l96 hR N hP N _ _ _ h)
theorem t9_offer_l37_B (hR : Rl wM 1 RX9 cX9_offer 7 none ad J P) (N : Nat) {q2 : SS} (hP : P none q2) (bk37 : Int32 → Int32 → Int32 → Int32 → SS → Option SS) (hbk37 : ∀ (x3 : Int32) (x4 : Int32) (x5 : Int32) (x6 : Int32) (q : SS), bk37 x3 x4 x5 x6 q = some q2 → J [(0, .ref (ad 0)), (3, .int x3), (4, .int x4), (5, .int x5), (6, .int x6)] [] q 37) (x3 : Int32) (x4 : Int32) (x5 : Int32) (x6 : Int32) (q : SS) (h : f9_offer_l37_B N bk37 x3 x4 x5 x6 q = some q2) : J [(0, .ref (ad 0)), (3, .int x3), (4, .int x4), (5, .int x5), (6, .int x6)] [] q 37 := by
  unfold f9_offer_l37_B at h
  refine r_iload hR dX9_offer_37 4 rfl ?_
  refine r_aload_n hR dX9_offer_39 rfl 0 rfl ?_
  refine g_X9_trialMany hR m_4_152 dX9_offer_40 ?_
  refine r_icmp_ge hR (tgt := 80) dX9_offer_43 (by decide) (fun c_43 => ?_) (fun c_43 => ?_)
  · replace h := it_t c_43 h
    exact r_sub hR [0, 1, 2, 3] rfl (t9_offer_b80 hR N hP _ _ _ _ h)
  · replace h := it_f c_43 h
    refine r_iload hR dX9_offer_46 3 rfl ?_
    refine r_if_ne hR (tgt := 80) dX9_offer_48 (by decide) (fun c_48 => ?_) (fun c_48 => ?_)
    · replace h := it_f c_48 h
      exact r_sub hR [0, 1, 2, 3] rfl (t9_offer_b80 hR N hP _ _ _ _ h)
    · replace h := it_t c_48 h
      refine r_aload_n hR dX9_offer_51 rfl 0 rfl ?_
      refine g_X9_trial hR m_4_151 dX9_offer_52 ?_
      refine r_iload hR dX9_offer_55 4 rfl ?_
      obtain ⟨hin, h⟩ := ck_some h
      refine ld_X9_trial hR dX9_offer_57 hin ?_
      refine r_aload_n hR dX9_offer_58 rfl 0 rfl ?_
      refine g_X9_bestTexts hR m_4_150 dX9_offer_59 ?_
      refine r_bipush hR dX9_offer_62 kc_bipush_21 ?_
      refine r_iload hR dX9_offer_64 2 rfl ?_
      refine r_imul hR dX9_offer_66 ?_
      refine r_iload hR dX9_offer_67 4 rfl ?_
      refine r_iadd hR dX9_offer_69 ?_
      obtain ⟨hin, h⟩ := ck_some h
      refine ld_X9_bestTexts hR dX9_offer_70 hin ?_
      refine r_isub hR dX9_offer_71 ?_
      obtain ⟨x5_72, hx, h⟩ := bn_some h
      refine r_istore hR (i := 5) (lv' := [(5, .int x5_72), (0, .ref (ad 0)), (3, .int x3), (4, .int x4), (6, .int x6)]) dX9_offer_72 hx (by decide) rfl ?_
      obtain ⟨x6_74, hx, h⟩ := bn_some h
      refine r_iinc hR (i := 6) (lv' := [(6, .int x6_74), (5, .int x5_72), (0, .ref (ad 0)), (3, .int x3), (4, .int x4)]) dX9_offer_74 4 rfl (inc_ok hx kc_iconst_1) (by decide) rfl ?_
      refine r_goto hR (tgt := 37) dX9_offer_77 (by decide) ?_
      exact r_sub hR [2, 3, 4, 1, 0] rfl (hbk37 _ _ _ _ _ h)
theorem t9_offer_l37 (hR : Rl wM 1 RX9 cX9_offer 7 none ad J P) (N : Nat) {q2 : SS} (hP : P none q2) : ∀ (n : Nat) (x3 : Int32) (x4 : Int32) (x5 : Int32) (x6 : Int32) (q : SS), f9_offer_l37 N n x3 x4 x5 x6 q = some q2 → J [(0, .ref (ad 0)), (3, .int x3), (4, .int x4), (5, .int x5), (6, .int x6)] [] q 37 := by
  intro n
  induction n with
  | zero => intro x3 x4 x5 x6 q h; exact mu_noneF h
  | succ n ih => intro x3 x4 x5 x6 q h; exact t9_offer_l37_B hR N hP _ ih x3 x4 x5 x6 q h
theorem t9_offer_b32 (hR : Rl wM 1 RX9 cX9_offer 7 none ad J P) (N : Nat) {q2 : SS} (hP : P none q2) (x3 : Int32) (x4 : Int32) (s0 : Int32) (q : SS) (h : f9_offer_b32 N x3 x4 s0 q = some q2) : J [(0, .ref (ad 0)), (3, .int x3), (4, .int x4)] [.int s0] q 32 := by
  unfold f9_offer_b32 at h
  refine r_istore hR (i := 5) (lv' := [(5, .int s0), (0, .ref (ad 0)), (3, .int x3), (4, .int x4)]) dX9_offer_32 rfl (by decide) rfl ?_
  refine r_iconst hR dX9_offer_34 kc_iconst_0 ?_
  refine r_istore hR (i := 6) (lv' := [(6, .int (0 : Int32)), (5, .int s0), (0, .ref (ad 0)), (3, .int x3), (4, .int x4)]) dX9_offer_35 rfl (by decide) rfl ?_
  exact r_sub hR [2, 3, 4, 1, 0] rfl (t9_offer_l37 hR N hP N _ _ _ _ _ h)
theorem t9_offer (hR : Rl wM 1 RX9 cX9_offer 7 none ad J P) (N : Nat) {q2 : SS} (hP : P none q2) (x1 : Int32) (x2 : Int32) (x3 : Int32) (q : SS) (h : f9_offer N x1 x2 x3 q = some q2) : J [(0, .ref (ad 0)), (1, .int x1), (2, .int x2), (3, .int x3)] [] q 0 := by
  unfold f9_offer at h
  refine r_bipush hR dX9_offer_0 kc_bipush_9 ?_
  refine r_iload_n hR dX9_offer_2 rfl 1 rfl ?_
  refine r_imul hR dX9_offer_3 ?_
  refine r_iload_n hR dX9_offer_4 rfl 2 rfl ?_
  refine r_iadd hR dX9_offer_5 ?_
  obtain ⟨x4_6, hx, h⟩ := bn_some h
  refine r_istore hR (i := 4) (lv' := [(4, .int x4_6), (0, .ref (ad 0)), (1, .int x1), (2, .int x2), (3, .int x3)]) dX9_offer_6 hx (by decide) rfl ?_
  refine r_aload_n hR dX9_offer_8 rfl 1 rfl ?_
  refine g_X9_bestCosts hR m_4_149 dX9_offer_9 ?_
  refine r_iload hR dX9_offer_12 0 rfl ?_
  obtain ⟨hin, h⟩ := ck_some h
  refine ld_X9_bestCosts hR dX9_offer_14 hin ?_
  refine r_iconst hR dX9_offer_15 kc_iconst_m1 ?_
  refine r_icmp_ne hR (tgt := 23) dX9_offer_16 (by decide) (fun c_16 => ?_) (fun c_16 => ?_)
  · replace h := it_f c_16 h
    refine r_iload_n hR dX9_offer_23 rfl 4 rfl ?_
    refine r_aload_n hR dX9_offer_24 rfl 1 rfl ?_
    refine g_X9_bestCosts hR m_4_149 dX9_offer_25 ?_
    refine r_iload hR dX9_offer_28 0 rfl ?_
    obtain ⟨hin, h⟩ := ck_some h
    refine ld_X9_bestCosts hR dX9_offer_30 hin ?_
    refine r_isub hR dX9_offer_31 ?_
    exact r_sub hR [1, 4, 0] rfl (t9_offer_b32 hR N hP _ _ _ _ h)
  · replace h := it_t c_16 h
    refine r_iconst hR dX9_offer_19 kc_iconst_m1 ?_
    refine r_goto hR (tgt := 32) dX9_offer_20 (by decide) ?_
    exact r_sub hR [1, 4, 0] rfl (t9_offer_b32 hR N hP _ _ _ _ h)
theorem c9_offer (N : Nat) {x1 : Int32} {x2 : Int32} {x3 : Int32} {q : SS} {q2 : SS} (h : f9_offer N x1 x2 x3 q = some q2) : Ct wM 1 yX9_offer cX9_offer 7 none (fun ad => [.ref (ad 0), .int x1, .int x2, .int x3]) q (fun _ => none) q2 :=
  ct_of (by decide) (fun _ => Nat.le_of_ble_eq_true rfl) (fun ad J hR => t9_offer hR N ⟨rfl, rfl⟩ x1 x2 x3 q h)
theorem t9_putSign (hR : Rl wM 1 RX9 cX9_putSign 2 none ad J P) {q2 : SS} (hP : P none q2) (x1 : Int32) (q : SS) (h : f9_putSign x1 q = some q2) : J [(0, .ref (ad 0)), (1, .int x1)] [] q 0 := by
  unfold f9_putSign at h
  refine r_aload_n hR dX9_putSign_0 rfl 0 rfl ?_
  refine g_X9_trial hR m_4_151 dX9_putSign_1 ?_
  refine r_aload_n hR dX9_putSign_4 rfl 0 rfl ?_
  refine g_X9_trialMany hR m_4_152 dX9_putSign_5 ?_
  refine r_iload_n hR dX9_putSign_8 rfl 1 rfl ?_
  obtain ⟨hin, h⟩ := ck_some h
  obtain ⟨q_9, hq, h⟩ := bn_some h
  refine sv_X9_trial hR dX9_putSign_9 hin hq ?_
  refine r_aload_n hR dX9_putSign_10 rfl 0 rfl ?_
  refine r_dup hR dX9_putSign_11 rfl ?_
  refine g_X9_trialMany hR m_4_152 dX9_putSign_12 ?_
  refine r_iconst hR dX9_putSign_15 kc_iconst_1 ?_
  refine r_iadd hR dX9_putSign_16 ?_
  obtain ⟨q_17, hq, h⟩ := bn_some h
  refine p_X9_trialMany hR m_4_152 dX9_putSign_17 hq ?_
  exact r_vret hR dX9_putSign_20 rfl (rtv hP h)
theorem c9_putSign {x1 : Int32} {q : SS} {q2 : SS} (h : f9_putSign x1 q = some q2) : Ct wM 1 yX9_putSign cX9_putSign 2 none (fun ad => [.ref (ad 0), .int x1]) q (fun _ => none) q2 :=
  ct_of (by decide) (fun _ => Nat.le_of_ble_eq_true rfl) (fun ad J hR => t9_putSign hR ⟨rfl, rfl⟩ x1 q h)
theorem t9_putText_l2_B (hR : Rl wM 2 RX9 cX9_putText 4 none ad J P) (N : Nat) {q2 : SS} (hP : P none q2) (bk2 : Int32 → Int32 → Int32 → SS → Option SS) (hbk2 : ∀ (x1 : Int32) (x2 : Int32) (x3 : Int32) (q : SS), bk2 x1 x2 x3 q = some q2 → J [(0, .ref (ad 0)), (1, .int x1), (2, .int x2), (3, .int x3)] [] q 2) (x1 : Int32) (x2 : Int32) (x3 : Int32) (q : SS) (h : f9_putText_l2_B N bk2 x1 x2 x3 q = some q2) : J [(0, .ref (ad 0)), (1, .int x1), (2, .int x2), (3, .int x3)] [] q 2 := by
  unfold f9_putText_l2_B at h
  refine r_iload_n hR dX9_putText_2 rfl 3 rfl ?_
  refine r_iload_n hR dX9_putText_3 rfl 2 rfl ?_
  refine r_icmp_ge hR (tgt := 28) dX9_putText_4 (by decide) (fun c_4 => ?_) (fun c_4 => ?_)
  · replace h := it_t c_4 h
    exact r_vret hR dX9_putText_28 rfl (rtv hP h)
  · replace h := it_f c_4 h
    refine r_aload_n hR dX9_putText_7 rfl 0 rfl ?_
    refine r_aload_n hR dX9_putText_8 rfl 0 rfl ?_
    refine g_X9_bestTexts hR m_4_150 dX9_putText_9 ?_
    refine r_bipush hR dX9_putText_12 kc_bipush_21 ?_
    refine r_iload_n hR dX9_putText_14 rfl 1 rfl ?_
    refine r_imul hR dX9_putText_15 ?_
    refine r_iload_n hR dX9_putText_16 rfl 3 rfl ?_
    refine r_iadd hR dX9_putText_17 ?_
    obtain ⟨hin, h⟩ := ck_some h
    refine ld_X9_bestTexts hR dX9_putText_18 hin ?_
    obtain ⟨q_19, hc, h⟩ := bd_some h
    refine r_callVv hR (c9_putSign hc) (cf_X9_263 (by decide)) ⟨m_5_233, ms_5_7⟩ (As := [.int (ar q 19 (ix (((21 : Int32) * x1) + x3)))]) (q0 := 0) (ci := 7) rfl rfl rfl rfl (rc_X9 ad _) (Nat.le_of_ble_eq_true rfl) rfl dX9_putText_19 ?_
    obtain ⟨x3_22, hx, h⟩ := bn_some h
    refine r_iinc hR (i := 3) (lv' := [(3, .int x3_22), (0, .ref (ad 0)), (1, .int x1), (2, .int x2)]) dX9_putText_22 3 rfl (inc_ok hx kc_iconst_1) (by decide) rfl ?_
    refine r_goto hR (tgt := 2) dX9_putText_25 (by decide) ?_
    exact r_sub hR [1, 2, 3, 0] rfl (hbk2 _ _ _ _ h)
theorem t9_putText_l2 (hR : Rl wM 2 RX9 cX9_putText 4 none ad J P) (N : Nat) {q2 : SS} (hP : P none q2) : ∀ (n : Nat) (x1 : Int32) (x2 : Int32) (x3 : Int32) (q : SS), f9_putText_l2 N n x1 x2 x3 q = some q2 → J [(0, .ref (ad 0)), (1, .int x1), (2, .int x2), (3, .int x3)] [] q 2 := by
  intro n
  induction n with
  | zero => intro x1 x2 x3 q h; exact mu_noneF h
  | succ n ih => intro x1 x2 x3 q h; exact t9_putText_l2_B hR N hP _ ih x1 x2 x3 q h
theorem t9_putText (hR : Rl wM 2 RX9 cX9_putText 4 none ad J P) (N : Nat) {q2 : SS} (hP : P none q2) (x1 : Int32) (x2 : Int32) (q : SS) (h : f9_putText N x1 x2 q = some q2) : J [(0, .ref (ad 0)), (1, .int x1), (2, .int x2)] [] q 0 := by
  unfold f9_putText at h
  refine r_iconst hR dX9_putText_0 kc_iconst_0 ?_
  refine r_istore_n hR (i := 3) (lv' := [(3, .int (0 : Int32)), (0, .ref (ad 0)), (1, .int x1), (2, .int x2)]) dX9_putText_1 rfl rfl (by decide) rfl ?_
  exact r_sub hR [1, 2, 3, 0] rfl (t9_putText_l2 hR N hP N _ _ _ _ h)
theorem c9_putText (N : Nat) {x1 : Int32} {x2 : Int32} {q : SS} {q2 : SS} (h : f9_putText N x1 x2 q = some q2) : Ct wM 2 yX9_putText cX9_putText 4 none (fun ad => [.ref (ad 0), .int x1, .int x2]) q (fun _ => none) q2 :=
  ct_of (by decide) (fun _ => Nat.le_of_ble_eq_true rfl) (fun ad J hR => t9_putText hR N ⟨rfl, rfl⟩ x1 x2 q h)
theorem t9_joinSides_b193 (hR : Rl wM 4 RX9 cX9_joinSides 10 none ad J P) (N : Nat) {q2 : SS} (hP : P none q2) (bk2 : Int32 → Int32 → Int32 → SS → Option SS) (hbk2 : ∀ (x1 : Int32) (x2 : Int32) (x3 : Int32) (q : SS), bk2 x1 x2 x3 q = some q2 → J [(0, .ref (ad 0)), (1, .int x1), (2, .int x2), (3, .int x3)] [] q 2) (bk11 : Int32 → Int32 → Int32 → Int32 → SS → Option SS) (hbk11 : ∀ (x1 : Int32) (x2 : Int32) (x3 : Int32) (x4 : Int32) (q : SS), bk11 x1 x2 x3 x4 q = some q2 → J [(0, .ref (ad 0)), (1, .int x1), (2, .int x2), (3, .int x3), (4, .int x4)] [] q 11) (x1 : Int32) (x2 : Int32) (x3 : Int32) (x4 : Int32) (q : SS) (h : f9_joinSides_b193 N bk2 bk11 x1 x2 x3 x4 q = some q2) : J [(0, .ref (ad 0)), (1, .int x1), (2, .int x2), (3, .int x3), (4, .int x4)] [] q 193 := by
  unfold f9_joinSides_b193 at h
  obtain ⟨x4_193, hx, h⟩ := bn_some h
  refine r_iinc hR (i := 4) (lv' := [(4, .int x4_193), (0, .ref (ad 0)), (1, .int x1), (2, .int x2), (3, .int x3)]) dX9_joinSides_193 4 rfl (inc_ok hx kc_iconst_1) (by decide) rfl ?_
  refine r_goto hR (tgt := 11) dX9_joinSides_196 (by decide) ?_
  exact r_sub hR [1, 2, 3, 4, 0] rfl (hbk11 _ _ _ _ _ h)
theorem t9_joinSides_b187 (hR : Rl wM 4 RX9 cX9_joinSides 10 none ad J P) (N : Nat) {q2 : SS} (hP : P none q2) (bk2 : Int32 → Int32 → Int32 → SS → Option SS) (hbk2 : ∀ (x1 : Int32) (x2 : Int32) (x3 : Int32) (q : SS), bk2 x1 x2 x3 q = some q2 → J [(0, .ref (ad 0)), (1, .int x1), (2, .int x2), (3, .int x3)] [] q 2) (bk11 : Int32 → Int32 → Int32 → Int32 → SS → Option SS) (hbk11 : ∀ (x1 : Int32) (x2 : Int32) (x3 : Int32) (x4 : Int32) (q : SS), bk11 x1 x2 x3 x4 q = some q2 → J [(0, .ref (ad 0)), (1, .int x1), (2, .int x2), (3, .int x3), (4, .int x4)] [] q 11) (bk38 : Int32 → Int32 → Int32 → Int32 → Int32 → Int32 → Int32 → SS → Option SS) (hbk38 : ∀ (x1 : Int32) (x2 : Int32) (x3 : Int32) (x4 : Int32) (x5 : Int32) (x6 : Int32) (x7 : Int32) (q : SS), bk38 x1 x2 x3 x4 x5 x6 x7 q = some q2 → J [(0, .ref (ad 0)), (1, .int x1), (2, .int x2), (3, .int x3), (4, .int x4), (5, .int x5), (6, .int x6), (7, .int x7)] [] q 38) (x1 : Int32) (x2 : Int32) (x3 : Int32) (x4 : Int32) (x5 : Int32) (x6 : Int32) (x7 : Int32) (q : SS) (h : f9_joinSides_b187 N bk2 bk11 bk38 x1 x2 x3 x4 x5 x6 x7 q = some q2) : J [(0, .ref (ad 0)), (1, .int x1), (2, .int x2), (3, .int x3), (4, .int x4), (5, .int x5), (6, .int x6), (7, .int x7)] [] q 187 := by
  unfold f9_joinSides_b187 at h
  obtain ⟨x7_187, hx, h⟩ := bn_some h
  refine r_iinc hR (i := 7) (lv' := [(7, .int x7_187), (0, .ref (ad 0)), (1, .int x1), (2, .int x2), (3, .int x3), (4, .int x4), (5, .int x5), (6, .int x6)]) dX9_joinSides_187 7 rfl (inc_ok hx kc_iconst_1) (by decide) rfl ?_
  refine r_goto hR (tgt := 38) dX9_joinSides_190 (by decide) ?_
  exact r_sub hR [1, 2, 3, 4, 5, 6, 7, 0] rfl (hbk38 _ _ _ _ _ _ _ _ h)
theorem t9_joinSides_b89 (hR : Rl wM 4 RX9 cX9_joinSides 10 none ad J P) (N : Nat) {q2 : SS} (hP : P none q2) (bk2 : Int32 → Int32 → Int32 → SS → Option SS) (hbk2 : ∀ (x1 : Int32) (x2 : Int32) (x3 : Int32) (q : SS), bk2 x1 x2 x3 q = some q2 → J [(0, .ref (ad 0)), (1, .int x1), (2, .int x2), (3, .int x3)] [] q 2) (bk11 : Int32 → Int32 → Int32 → Int32 → SS → Option SS) (hbk11 : ∀ (x1 : Int32) (x2 : Int32) (x3 : Int32) (x4 : Int32) (q : SS), bk11 x1 x2 x3 x4 q = some q2 → J [(0, .ref (ad 0)), (1, .int x1), (2, .int x2), (3, .int x3), (4, .int x4)] [] q 11) (bk38 : Int32 → Int32 → Int32 → Int32 → Int32 → Int32 → Int32 → SS → Option SS) (hbk38 : ∀ (x1 : Int32) (x2 : Int32) (x3 : Int32) (x4 : Int32) (x5 : Int32) (x6 : Int32) (x7 : Int32) (q : SS), bk38 x1 x2 x3 x4 x5 x6 x7 q = some q2 → J [(0, .ref (ad 0)), (1, .int x1), (2, .int x2), (3, .int x3), (4, .int x4), (5, .int x5), (6, .int x6), (7, .int x7)] [] q 38) (x1 : Int32) (x2 : Int32) (x3 : Int32) (x4 : Int32) (x5 : Int32) (x6 : Int32) (x7 : Int32) (s0 : Int32) (q : SS) (h : f9_joinSides_b89 N bk2 bk11 bk38 x1 x2 x3 x4 x5 x6 x7 s0 q = some q2) : J [(0, .ref (ad 0)), (1, .int x1), (2, .int x2), (3, .int x3), (4, .int x4), (5, .int x5), (6, .int x6), (7, .int x7)] [.int s0] q 89 := by
  unfold f9_joinSides_b89 at h
  refine r_istore hR (i := 8) (lv' := [(8, .int s0), (0, .ref (ad 0)), (1, .int x1), (2, .int x2), (3, .int x3), (4, .int x4), (5, .int x5), (6, .int x6), (7, .int x7)]) dX9_joinSides_89 rfl (by decide) rfl ?_
  refine r_aload_n hR dX9_joinSides_91 rfl 1 rfl ?_
  refine r_iload hR dX9_joinSides_92 0 rfl ?_
  refine r_iload_n hR dX9_joinSides_94 rfl 2 rfl ?_
  refine r_iload_n hR dX9_joinSides_95 rfl 3 rfl ?_
  refine r_iload_n hR dX9_joinSides_96 rfl 4 rfl ?_
  refine r_iload hR dX9_joinSides_97 5 rfl ?_
  obtain ⟨r_99, hc, h⟩ := bd_some h
  refine r_callVi hR (c9_stepCost N hc) (cf_X9_245 (by decide)) ⟨m_5_200, ms_5_0⟩ (As := [.int s0, .int x1, .int x2, .int x3, .int x4]) (q0 := 0) (ci := 7) rfl rfl rfl rfl (rc_X9 ad _) (Nat.le_of_ble_eq_true rfl) rfl dX9_joinSides_99 ?_
  refine r_istore hR (i := 9) (lv' := [(9, .int r_99), (8, .int s0), (0, .ref (ad 0)), (1, .int x1), (2, .int x2), (3, .int x3), (4, .int x4), (5, .int x5), (6, .int x6), (7, .int x7)]) dX9_joinSides_102 rfl (by decide) rfl ?_
  refine r_iload hR dX9_joinSides_104 0 rfl ?_
  refine r_iconst hR dX9_joinSides_106 kc_iconst_m1 ?_
  refine r_icmp_eq hR (tgt := 187) dX9_joinSides_107 (by decide) (fun c_107 => ?_) (fun c_107 => ?_)
  · replace h := it_t c_107 h
    exact r_sub hR [2, 3, 4, 5, 6, 7, 8, 9] rfl (t9_joinSides_b187 hR N hP bk2 hbk2 bk11 hbk11 bk38 hbk38 _ _ _ _ _ _ _ _ h)
  · replace h := it_f c_107 h
    refine r_aload_n hR dX9_joinSides_110 rfl 2 rfl ?_
    refine r_iconst hR dX9_joinSides_111 kc_iconst_0 ?_
    obtain ⟨q_112, hq, h⟩ := bn_some h
    refine p_X9_trialMany hR m_4_152 dX9_joinSides_112 hq ?_
    refine r_aload_n hR dX9_joinSides_115 rfl 2 rfl ?_
    refine r_bipush hR dX9_joinSides_116 kc_bipush_40 ?_
    obtain ⟨q_118, hc, h⟩ := bd_some h
    refine r_callVv hR (c9_putSign hc) (cf_X9_263 (by decide)) ⟨m_5_233, ms_5_7⟩ (As := [.int (40 : Int32)]) (q0 := 0) (ci := 7) rfl rfl rfl rfl (rc_X9 ad _) (Nat.le_of_ble_eq_true rfl) rfl dX9_joinSides_118 ?_
    refine r_aload_n hR dX9_joinSides_121 rfl 2 rfl ?_
    refine r_iload hR dX9_joinSides_122 7 rfl ?_
    refine r_iload_n hR dX9_joinSides_124 rfl 3 rfl ?_
    obtain ⟨r_125, hc, h⟩ := bd_some h
    refine r_callSi hR (c9_signsOf N hc) (cf_X9_266 (by decide)) m_6_4 (As := [.int x1]) rfl rfl (Nat.le_of_ble_eq_true rfl) rfl dX9_joinSides_125 ?_
    obtain ⟨q_128, hc, h⟩ := bd_some h
    refine r_callVv hR (c9_putText N hc) (cf_X9_269 (by decide)) ⟨m_6_8, ms_5_10⟩ (As := [.int x5, .int r_125]) (q0 := 0) (ci := 7) rfl rfl rfl rfl (rc_X9 ad _) (Nat.le_of_ble_eq_true rfl) rfl dX9_joinSides_128 ?_
    refine r_aload_n hR dX9_joinSides_131 rfl 2 rfl ?_
    refine r_iload hR dX9_joinSides_132 1 rfl ?_
    obtain ⟨q_134, hc, h⟩ := bd_some h
    refine r_callVv hR (c9_putSign hc) (cf_X9_263 (by decide)) ⟨m_5_233, ms_5_7⟩ (As := [.int s0]) (q0 := 0) (ci := 7) rfl rfl rfl rfl (rc_X9 ad _) (Nat.le_of_ble_eq_true rfl) rfl dX9_joinSides_134 ?_
    refine r_aload_n hR dX9_joinSides_137 rfl 2 rfl ?_
    refine r_iload hR dX9_joinSides_138 8 rfl ?_
    refine r_iload_n hR dX9_joinSides_140 rfl 4 rfl ?_
    obtain ⟨r_141, hc, h⟩ := bd_some h
    refine r_callSi hR (c9_signsOf N hc) (cf_X9_266 (by decide)) m_6_4 (As := [.int x2]) rfl rfl (Nat.le_of_ble_eq_true rfl) rfl dX9_joinSides_141 ?_
    obtain ⟨q_144, hc, h⟩ := bd_some h
    refine r_callVv hR (c9_putText N hc) (cf_X9_269 (by decide)) ⟨m_6_8, ms_5_10⟩ (As := [.int x6, .int r_141]) (q0 := 0) (ci := 7) rfl rfl rfl rfl (rc_X9 ad _) (Nat.le_of_ble_eq_true rfl) rfl dX9_joinSides_144 ?_
    refine r_aload_n hR dX9_joinSides_147 rfl 2 rfl ?_
    refine r_bipush hR dX9_joinSides_148 kc_bipush_41 ?_
    obtain ⟨q_150, hc, h⟩ := bd_some h
    refine r_callVv hR (c9_putSign hc) (cf_X9_263 (by decide)) ⟨m_5_233, ms_5_7⟩ (As := [.int (41 : Int32)]) (q0 := 0) (ci := 7) rfl rfl rfl rfl (rc_X9 ad _) (Nat.le_of_ble_eq_true rfl) rfl dX9_joinSides_150 ?_
    refine r_aload_n hR dX9_joinSides_153 rfl 2 rfl ?_
    refine r_iload_n hR dX9_joinSides_154 rfl 3 rfl ?_
    refine r_iload_n hR dX9_joinSides_155 rfl 4 rfl ?_
    refine r_ior hR dX9_joinSides_156 ?_
    refine r_aload_n hR dX9_joinSides_157 rfl 2 rfl ?_
    refine r_iload hR dX9_joinSides_158 1 rfl ?_
    refine r_iload_n hR dX9_joinSides_160 rfl 3 rfl ?_
    refine r_iload_n hR dX9_joinSides_161 rfl 4 rfl ?_
    refine r_iload_n hR dX9_joinSides_162 rfl 5 rfl ?_
    obtain ⟨r_163, hc, h⟩ := bd_some h
    refine r_callVi hR (c9_stepOrder N hc) (cf_X9_249 (by decide)) ⟨m_5_216, ms_5_4⟩ (As := [.int s0, .int x1, .int x2, .int x3]) (q0 := 0) (ci := 7) rfl rfl rfl rfl (rc_X9 ad _) (Nat.le_of_ble_eq_true rfl) rfl dX9_joinSides_163 ?_
    refine r_aload_n hR dX9_joinSides_166 rfl 2 rfl ?_
    refine g_X9_bestCosts hR m_4_149 dX9_joinSides_167 ?_
    refine r_iload hR dX9_joinSides_170 7 rfl ?_
    obtain ⟨hin, h⟩ := ck_some h
    refine ld_X9_bestCosts hR dX9_joinSides_172 hin ?_
    refine r_aload_n hR dX9_joinSides_173 rfl 2 rfl ?_
    refine g_X9_bestCosts hR m_4_149 dX9_joinSides_174 ?_
    refine r_iload hR dX9_joinSides_177 8 rfl ?_
    obtain ⟨hin, h⟩ := ck_some h
    refine ld_X9_bestCosts hR dX9_joinSides_179 hin ?_
    refine r_iadd hR dX9_joinSides_180 ?_
    refine r_iload hR dX9_joinSides_181 0 rfl ?_
    refine r_iadd hR dX9_joinSides_183 ?_
    obtain ⟨q_184, hc, h⟩ := bd_some h
    refine r_callVv hR (c9_offer N hc) (cf_X9_273 (by decide)) ⟨m_5_237, ms_5_8⟩ (As := [.int (x1 ||| x2), .int r_163, .int (((ar q_150 18 (ix x5)) + (ar q_150 18 (ix x6))) + r_99)]) (q0 := 0) (ci := 7) rfl rfl rfl rfl (rc_X9 ad _) (Nat.le_of_ble_eq_true rfl) rfl dX9_joinSides_184 ?_
    exact r_sub hR [2, 3, 4, 5, 6, 7, 8, 9] rfl (t9_joinSides_b187 hR N hP bk2 hbk2 bk11 hbk11 bk38 hbk38 _ _ _ _ _ _ _ _ h)
theorem t9_joinSides_l38_B (hR : Rl wM 4 RX9 cX9_joinSides 10 none ad J P) (N : Nat) {q2 : SS} (hP : P none q2) (bk2 : Int32 → Int32 → Int32 → SS → Option SS) (hbk2 : ∀ (x1 : Int32) (x2 : Int32) (x3 : Int32) (q : SS), bk2 x1 x2 x3 q = some q2 → J [(0, .ref (ad 0)), (1, .int x1), (2, .int x2), (3, .int x3)] [] q 2) (bk11 : Int32 → Int32 → Int32 → Int32 → SS → Option SS) (hbk11 : ∀ (x1 : Int32) (x2 : Int32) (x3 : Int32) (x4 : Int32) (q : SS), bk11 x1 x2 x3 x4 q = some q2 → J [(0, .ref (ad 0)), (1, .int x1), (2, .int x2), (3, .int x3), (4, .int x4)] [] q 11) (bk38 : Int32 → Int32 → Int32 → Int32 → Int32 → Int32 → Int32 → SS → Option SS) (hbk38 : ∀ (x1 : Int32) (x2 : Int32) (x3 : Int32) (x4 : Int32) (x5 : Int32) (x6 : Int32) (x7 : Int32) (q : SS), bk38 x1 x2 x3 x4 x5 x6 x7 q = some q2 → J [(0, .ref (ad 0)), (1, .int x1), (2, .int x2), (3, .int x3), (4, .int x4), (5, .int x5), (6, .int x6), (7, .int x7)] [] q 38) (x1 : Int32) (x2 : Int32) (x3 : Int32) (x4 : Int32) (x5 : Int32) (x6 : Int32) (x7 : Int32) (q : SS) (h : f9_joinSides_l38_B N bk2 bk11 bk38 x1 x2 x3 x4 x5 x6 x7 q = some q2) : J [(0, .ref (ad 0)), (1, .int x1), (2, .int x2), (3, .int x3), (4, .int x4), (5, .int x5), (6, .int x6), (7, .int x7)] [] q 38 := by
  unfold f9_joinSides_l38_B at h
  refine r_iload hR dX9_joinSides_38 7 rfl ?_
  refine r_iconst hR dX9_joinSides_40 kc_iconst_3 ?_
  refine r_icmp_ge hR (tgt := 193) dX9_joinSides_41 (by decide) (fun c_41 => ?_) (fun c_41 => ?_)
  · replace h := it_t c_41 h
    exact r_sub hR [0, 1, 2, 3, 4] rfl (t9_joinSides_b193 hR N hP bk2 hbk2 bk11 hbk11 _ _ _ _ _ h)
  · replace h := it_f c_41 h
    refine r_aload_n hR dX9_joinSides_44 rfl 0 rfl ?_
    refine g_X9_bestCosts hR m_4_149 dX9_joinSides_45 ?_
    refine r_iload hR dX9_joinSides_48 5 rfl ?_
    obtain ⟨hin, h⟩ := ck_some h
    refine ld_X9_bestCosts hR dX9_joinSides_50 hin ?_
    refine r_iconst hR dX9_joinSides_51 kc_iconst_m1 ?_
    refine r_icmp_eq hR (tgt := 193) dX9_joinSides_52 (by decide) (fun c_52 => ?_) (fun c_52 => ?_)
    · replace h := it_t c_52 h
      exact r_sub hR [0, 1, 2, 3, 4] rfl (t9_joinSides_b193 hR N hP bk2 hbk2 bk11 hbk11 _ _ _ _ _ h)
    · replace h := it_f c_52 h
      refine r_aload_n hR dX9_joinSides_55 rfl 0 rfl ?_
      refine g_X9_bestCosts hR m_4_149 dX9_joinSides_56 ?_
      refine r_iload hR dX9_joinSides_59 6 rfl ?_
      obtain ⟨hin, h⟩ := ck_some h
      refine ld_X9_bestCosts hR dX9_joinSides_61 hin ?_
      refine r_iconst hR dX9_joinSides_62 kc_iconst_m1 ?_
      refine r_icmp_eq hR (tgt := 193) dX9_joinSides_63 (by decide) (fun c_63 => ?_) (fun c_63 => ?_)
      · replace h := it_t c_63 h
        exact r_sub hR [0, 1, 2, 3, 4] rfl (t9_joinSides_b193 hR N hP bk2 hbk2 bk11 hbk11 _ _ _ _ _ h)
      · replace h := it_f c_63 h
        refine r_iload hR dX9_joinSides_66 7 rfl ?_
        refine r_if_ne hR (tgt := 76) dX9_joinSides_68 (by decide) (fun c_68 => ?_) (fun c_68 => ?_)
        · replace h := it_f c_68 h
          refine r_iload hR dX9_joinSides_76 7 rfl ?_
          refine r_iconst hR dX9_joinSides_78 kc_iconst_1 ?_
          refine r_icmp_ne hR (tgt := 87) dX9_joinSides_79 (by decide) (fun c_79 => ?_) (fun c_79 => ?_)
          · replace h := it_f c_79 h
            refine r_bipush hR dX9_joinSides_87 kc_bipush_115 ?_
            exact r_sub hR [0, 1, 2, 3, 4, 5, 6, 7] rfl (t9_joinSides_b89 hR N hP bk2 hbk2 bk11 hbk11 bk38 hbk38 _ _ _ _ _ _ _ _ _ h)
          · replace h := it_t c_79 h
            refine r_bipush hR dX9_joinSides_82 kc_bipush_112 ?_
            refine r_goto hR (tgt := 89) dX9_joinSides_84 (by decide) ?_
            exact r_sub hR [0, 1, 2, 3, 4, 5, 6, 7] rfl (t9_joinSides_b89 hR N hP bk2 hbk2 bk11 hbk11 bk38 hbk38 _ _ _ _ _ _ _ _ _ h)
        · replace h := it_t c_68 h
          refine r_bipush hR dX9_joinSides_71 kc_bipush_108 ?_
          refine r_goto hR (tgt := 89) dX9_joinSides_73 (by decide) ?_
          exact r_sub hR [0, 1, 2, 3, 4, 5, 6, 7] rfl (t9_joinSides_b89 hR N hP bk2 hbk2 bk11 hbk11 bk38 hbk38 _ _ _ _ _ _ _ _ _ h)
theorem t9_joinSides_l38 (hR : Rl wM 4 RX9 cX9_joinSides 10 none ad J P) (N : Nat) {q2 : SS} (hP : P none q2) (bk2 : Int32 → Int32 → Int32 → SS → Option SS) (hbk2 : ∀ (x1 : Int32) (x2 : Int32) (x3 : Int32) (q : SS), bk2 x1 x2 x3 q = some q2 → J [(0, .ref (ad 0)), (1, .int x1), (2, .int x2), (3, .int x3)] [] q 2) (bk11 : Int32 → Int32 → Int32 → Int32 → SS → Option SS) (hbk11 : ∀ (x1 : Int32) (x2 : Int32) (x3 : Int32) (x4 : Int32) (q : SS), bk11 x1 x2 x3 x4 q = some q2 → J [(0, .ref (ad 0)), (1, .int x1), (2, .int x2), (3, .int x3), (4, .int x4)] [] q 11) : ∀ (n : Nat) (x1 : Int32) (x2 : Int32) (x3 : Int32) (x4 : Int32) (x5 : Int32) (x6 : Int32) (x7 : Int32) (q : SS), f9_joinSides_l38 N bk2 bk11 n x1 x2 x3 x4 x5 x6 x7 q = some q2 → J [(0, .ref (ad 0)), (1, .int x1), (2, .int x2), (3, .int x3), (4, .int x4), (5, .int x5), (6, .int x6), (7, .int x7)] [] q 38 := by
  intro n
  induction n with
  | zero => intro x1 x2 x3 x4 x5 x6 x7 q h; exact mu_noneF h
  | succ n ih => intro x1 x2 x3 x4 x5 x6 x7 q h; exact t9_joinSides_l38_B hR N hP bk2 hbk2 bk11 hbk11 _ ih x1 x2 x3 x4 x5 x6 x7 q h
theorem t9_joinSides_l11_B (hR : Rl wM 4 RX9 cX9_joinSides 10 none ad J P) (N : Nat) {q2 : SS} (hP : P none q2) (bk2 : Int32 → Int32 → Int32 → SS → Option SS) (hbk2 : ∀ (x1 : Int32) (x2 : Int32) (x3 : Int32) (q : SS), bk2 x1 x2 x3 q = some q2 → J [(0, .ref (ad 0)), (1, .int x1), (2, .int x2), (3, .int x3)] [] q 2) (bk11 : Int32 → Int32 → Int32 → Int32 → SS → Option SS) (hbk11 : ∀ (x1 : Int32) (x2 : Int32) (x3 : Int32) (x4 : Int32) (q : SS), bk11 x1 x2 x3 x4 q = some q2 → J [(0, .ref (ad 0)), (1, .int x1), (2, .int x2), (3, .int x3), (4, .int x4)] [] q 11) (x1 : Int32) (x2 : Int32) (x3 : Int32) (x4 : Int32) (q : SS) (h : f9_joinSides_l11_B N bk2 bk11 x1 x2 x3 x4 q = some q2) : J [(0, .ref (ad 0)), (1, .int x1), (2, .int x2), (3, .int x3), (4, .int x4)] [] q 11 := by
  unfold f9_joinSides_l11_B at h
  refine r_iload hR dX9_joinSides_11 4 rfl ?_
  refine r_bipush hR dX9_joinSides_13 kc_bipush_9 ?_
  refine r_icmp_ge hR (tgt := 199) dX9_joinSides_15 (by decide) (fun c_15 => ?_) (fun c_15 => ?_)
  · replace h := it_t c_15 h
    obtain ⟨x3_199, hx, h⟩ := bn_some h
    refine r_iinc hR (i := 3) (lv' := [(3, .int x3_199), (0, .ref (ad 0)), (1, .int x1), (2, .int x2), (4, .int x4)]) dX9_joinSides_199 3 rfl (inc_ok hx kc_iconst_1) (by decide) rfl ?_
    refine r_goto hR (tgt := 2) dX9_joinSides_202 (by decide) ?_
    exact r_sub hR [1, 2, 3, 0] rfl (hbk2 _ _ _ _ h)
  · replace h := it_f c_15 h
    refine r_bipush hR dX9_joinSides_18 kc_bipush_9 ?_
    refine r_iload_n hR dX9_joinSides_20 rfl 1 rfl ?_
    refine r_imul hR dX9_joinSides_21 ?_
    refine r_iload_n hR dX9_joinSides_22 rfl 3 rfl ?_
    refine r_iadd hR dX9_joinSides_23 ?_
    obtain ⟨x5_24, hx, h⟩ := bn_some h
    refine r_istore hR (i := 5) (lv' := [(5, .int x5_24), (0, .ref (ad 0)), (1, .int x1), (2, .int x2), (3, .int x3), (4, .int x4)]) dX9_joinSides_24 hx (by decide) rfl ?_
    refine r_bipush hR dX9_joinSides_26 kc_bipush_9 ?_
    refine r_iload_n hR dX9_joinSides_28 rfl 3 rfl ?_
    refine r_imul hR dX9_joinSides_29 ?_
    refine r_iload hR dX9_joinSides_30 5 rfl ?_
    refine r_iadd hR dX9_joinSides_32 ?_
    obtain ⟨x6_33, hx, h⟩ := bn_some h
    refine r_istore hR (i := 6) (lv' := [(6, .int x6_33), (5, .int x5_24), (0, .ref (ad 0)), (1, .int x1), (2, .int x2), (3, .int x3), (4, .int x4)]) dX9_joinSides_33 hx (by decide) rfl ?_
    refine r_iconst hR dX9_joinSides_35 kc_iconst_0 ?_
    refine r_istore hR (i := 7) (lv' := [(7, .int (0 : Int32)), (6, .int x6_33), (5, .int x5_24), (0, .ref (ad 0)), (1, .int x1), (2, .int x2), (3, .int x3), (4, .int x4)]) dX9_joinSides_36 rfl (by decide) rfl ?_
    exact r_sub hR [3, 4, 5, 6, 7, 2, 1, 0] rfl (t9_joinSides_l38 hR N hP bk2 hbk2 bk11 hbk11 N _ _ _ _ _ _ _ _ h)
theorem t9_joinSides_l11 (hR : Rl wM 4 RX9 cX9_joinSides 10 none ad J P) (N : Nat) {q2 : SS} (hP : P none q2) (bk2 : Int32 → Int32 → Int32 → SS → Option SS) (hbk2 : ∀ (x1 : Int32) (x2 : Int32) (x3 : Int32) (q : SS), bk2 x1 x2 x3 q = some q2 → J [(0, .ref (ad 0)), (1, .int x1), (2, .int x2), (3, .int x3)] [] q 2) : ∀ (n : Nat) (x1 : Int32) (x2 : Int32) (x3 : Int32) (x4 : Int32) (q : SS), f9_joinSides_l11 N bk2 n x1 x2 x3 x4 q = some q2 → J [(0, .ref (ad 0)), (1, .int x1), (2, .int x2), (3, .int x3), (4, .int x4)] [] q 11 := by
  intro n
  induction n with
  | zero => intro x1 x2 x3 x4 q h; exact mu_noneF h
  | succ n ih => intro x1 x2 x3 x4 q h; exact t9_joinSides_l11_B hR N hP bk2 hbk2 _ ih x1 x2 x3 x4 q h
theorem t9_joinSides_l2_B (hR : Rl wM 4 RX9 cX9_joinSides 10 none ad J P) (N : Nat) {q2 : SS} (hP : P none q2) (bk2 : Int32 → Int32 → Int32 → SS → Option SS) (hbk2 : ∀ (x1 : Int32) (x2 : Int32) (x3 : Int32) (q : SS), bk2 x1 x2 x3 q = some q2 → J [(0, .ref (ad 0)), (1, .int x1), (2, .int x2), (3, .int x3)] [] q 2) (x1 : Int32) (x2 : Int32) (x3 : Int32) (q : SS) (h : f9_joinSides_l2_B N bk2 x1 x2 x3 q = some q2) : J [(0, .ref (ad 0)), (1, .int x1), (2, .int x2), (3, .int x3)] [] q 2 := by
  unfold f9_joinSides_l2_B at h
  refine r_iload_n hR dX9_joinSides_2 rfl 3 rfl ?_
  refine r_bipush hR dX9_joinSides_3 kc_bipush_9 ?_
  refine r_icmp_ge hR (tgt := 205) dX9_joinSides_5 (by decide) (fun c_5 => ?_) (fun c_5 => ?_)
  · replace h := it_t c_5 h
    exact r_vret hR dX9_joinSides_205 rfl (rtv hP h)
  · replace h := it_f c_5 h
    refine r_iconst hR dX9_joinSides_8 kc_iconst_0 ?_
    refine r_istore hR (i := 4) (lv' := [(4, .int (0 : Int32)), (0, .ref (ad 0)), (1, .int x1), (2, .int x2), (3, .int x3)]) dX9_joinSides_9 rfl (by decide) rfl ?_
    exact r_sub hR [1, 2, 3, 4, 0] rfl (t9_joinSides_l11 hR N hP bk2 hbk2 N _ _ _ _ _ h)
theorem t9_joinSides_l2 (hR : Rl wM 4 RX9 cX9_joinSides 10 none ad J P) (N : Nat) {q2 : SS} (hP : P none q2) : ∀ (n : Nat) (x1 : Int32) (x2 : Int32) (x3 : Int32) (q : SS), f9_joinSides_l2 N n x1 x2 x3 q = some q2 → J [(0, .ref (ad 0)), (1, .int x1), (2, .int x2), (3, .int x3)] [] q 2 := by
  intro n
  induction n with
  | zero => intro x1 x2 x3 q h; exact mu_noneF h
  | succ n ih => intro x1 x2 x3 q h; exact t9_joinSides_l2_B hR N hP _ ih x1 x2 x3 q h
theorem t9_joinSides (hR : Rl wM 4 RX9 cX9_joinSides 10 none ad J P) (N : Nat) {q2 : SS} (hP : P none q2) (x1 : Int32) (x2 : Int32) (q : SS) (h : f9_joinSides N x1 x2 q = some q2) : J [(0, .ref (ad 0)), (1, .int x1), (2, .int x2)] [] q 0 := by
  unfold f9_joinSides at h
  refine r_iconst hR dX9_joinSides_0 kc_iconst_0 ?_
  refine r_istore_n hR (i := 3) (lv' := [(3, .int (0 : Int32)), (0, .ref (ad 0)), (1, .int x1), (2, .int x2)]) dX9_joinSides_1 rfl rfl (by decide) rfl ?_
  exact r_sub hR [1, 2, 3, 0] rfl (t9_joinSides_l2 hR N hP N _ _ _ _ h)
theorem c9_joinSides (N : Nat) {x1 : Int32} {x2 : Int32} {q : SS} {q2 : SS} (h : f9_joinSides N x1 x2 q = some q2) : Ct wM 4 yX9_joinSides cX9_joinSides 10 none (fun ad => [.ref (ad 0), .int x1, .int x2]) q (fun _ => none) q2 :=
  ct_of (by decide) (fun _ => Nat.le_of_ble_eq_true rfl) (fun ad J hR => t9_joinSides hR N ⟨rfl, rfl⟩ x1 x2 q h)
theorem t9_findBest_b187 (hR : Rl wM 10 RX9 cX9_findBest 7 none ad J P) (N : Nat) {q2 : SS} (hP : P none q2) (bk33 : Int32 → Int32 → Int32 → SS → Option SS) (hbk33 : ∀ (x1 : Int32) (x2 : Int32) (x4 : Int32) (q : SS), bk33 x1 x2 x4 q = some q2 → J [(0, .ref (ad 0)), (1, .int x1), (2, .int x2), (4, .int x4)] [] q 33) (x1 : Int32) (x2 : Int32) (x4 : Int32) (q : SS) (h : f9_findBest_b187 N bk33 x1 x2 x4 q = some q2) : J [(0, .ref (ad 0)), (1, .int x1), (2, .int x2), (4, .int x4)] [] q 187 := by
  unfold f9_findBest_b187 at h
  obtain ⟨x4_187, hx, h⟩ := bn_some h
  refine r_iinc hR (i := 4) (lv' := [(4, .int x4_187), (0, .ref (ad 0)), (1, .int x1), (2, .int x2)]) dX9_findBest_187 3 rfl (inc_ok hx kc_iconst_1) (by decide) rfl ?_
  refine r_goto hR (tgt := 33) dX9_findBest_190 (by decide) ?_
  exact r_sub hR [1, 2, 3, 0] rfl (hbk33 _ _ _ _ h)
theorem t9_findBest_b181 (hR : Rl wM 10 RX9 cX9_findBest 7 none ad J P) (N : Nat) {q2 : SS} (hP : P none q2) (bk33 : Int32 → Int32 → Int32 → SS → Option SS) (hbk33 : ∀ (x1 : Int32) (x2 : Int32) (x4 : Int32) (q : SS), bk33 x1 x2 x4 q = some q2 → J [(0, .ref (ad 0)), (1, .int x1), (2, .int x2), (4, .int x4)] [] q 33) (bk125 : Int32 → Int32 → Int32 → Int32 → SS → Option SS) (hbk125 : ∀ (x1 : Int32) (x2 : Int32) (x4 : Int32) (x5 : Int32) (q : SS), bk125 x1 x2 x4 x5 q = some q2 → J [(0, .ref (ad 0)), (1, .int x1), (2, .int x2), (4, .int x4), (5, .int x5)] [] q 125) (x1 : Int32) (x2 : Int32) (x4 : Int32) (x5 : Int32) (q : SS) (h : f9_findBest_b181 N bk33 bk125 x1 x2 x4 x5 q = some q2) : J [(0, .ref (ad 0)), (1, .int x1), (2, .int x2), (4, .int x4), (5, .int x5)] [] q 181 := by
  unfold f9_findBest_b181 at h
  obtain ⟨x5_181, hx, h⟩ := bn_some h
  refine r_iinc hR (i := 5) (lv' := [(5, .int x5_181), (0, .ref (ad 0)), (1, .int x1), (2, .int x2), (4, .int x4)]) dX9_findBest_181 4 rfl (inc_ok hx kc_iconst_1) (by decide) rfl ?_
  refine r_goto hR (tgt := 125) dX9_findBest_184 (by decide) ?_
  exact r_sub hR [1, 2, 3, 4, 0] rfl (hbk125 _ _ _ _ _ h)
theorem t9_findBest_b163 (hR : Rl wM 10 RX9 cX9_findBest 7 none ad J P) (N : Nat) {q2 : SS} (hP : P none q2) (bk33 : Int32 → Int32 → Int32 → SS → Option SS) (hbk33 : ∀ (x1 : Int32) (x2 : Int32) (x4 : Int32) (q : SS), bk33 x1 x2 x4 q = some q2 → J [(0, .ref (ad 0)), (1, .int x1), (2, .int x2), (4, .int x4)] [] q 33) (bk125 : Int32 → Int32 → Int32 → Int32 → SS → Option SS) (hbk125 : ∀ (x1 : Int32) (x2 : Int32) (x4 : Int32) (x5 : Int32) (q : SS), bk125 x1 x2 x4 x5 q = some q2 → J [(0, .ref (ad 0)), (1, .int x1), (2, .int x2), (4, .int x4), (5, .int x5)] [] q 125) (x1 : Int32) (x2 : Int32) (x4 : Int32) (x5 : Int32) (s0 : Int32) (q : SS) (h : f9_findBest_b163 N bk33 bk125 x1 x2 x4 x5 s0 q = some q2) : J [(0, .ref (ad 0)), (1, .int x1), (2, .int x2), (4, .int x4), (5, .int x5)] [.int s0] q 163 := by
  unfold f9_findBest_b163 at h
  refine r_istore hR (i := 6) (lv' := [(6, .int s0), (0, .ref (ad 0)), (1, .int x1), (2, .int x2), (4, .int x4), (5, .int x5)]) dX9_findBest_163 rfl (by decide) rfl ?_
  refine r_iload hR dX9_findBest_165 0 rfl ?_
  refine r_if_eq hR (tgt := 181) dX9_findBest_167 (by decide) (fun c_167 => ?_) (fun c_167 => ?_)
  · replace h := it_t c_167 h
    exact r_sub hR [1, 2, 3, 4, 5] rfl (t9_findBest_b181 hR N hP bk33 hbk33 bk125 hbk125 _ _ _ _ _ h)
  · replace h := it_f c_167 h
    refine r_aload_n hR dX9_findBest_170 rfl 1 rfl ?_
    refine r_iload hR dX9_findBest_171 5 rfl ?_
    refine r_iload hR dX9_findBest_173 4 rfl ?_
    refine r_iload hR dX9_findBest_175 5 rfl ?_
    refine r_isub hR dX9_findBest_177 ?_
    obtain ⟨q_178, hc, h⟩ := bd_some h
    refine r_callVv hR (c9_joinSides N hc) (cf_X9_277 (by decide)) ⟨m_6_1, ms_5_9⟩ (As := [.int x5, .int (x4 - x5)]) (q0 := 0) (ci := 7) rfl rfl rfl rfl (rc_X9 ad _) (Nat.le_of_ble_eq_true rfl) rfl dX9_findBest_178 ?_
    exact r_sub hR [1, 2, 3, 4, 5] rfl (t9_findBest_b181 hR N hP bk33 hbk33 bk125 hbk125 _ _ _ _ _ h)
theorem t9_findBest_b162 (hR : Rl wM 10 RX9 cX9_findBest 7 none ad J P) (N : Nat) {q2 : SS} (hP : P none q2) (bk33 : Int32 → Int32 → Int32 → SS → Option SS) (hbk33 : ∀ (x1 : Int32) (x2 : Int32) (x4 : Int32) (q : SS), bk33 x1 x2 x4 q = some q2 → J [(0, .ref (ad 0)), (1, .int x1), (2, .int x2), (4, .int x4)] [] q 33) (bk125 : Int32 → Int32 → Int32 → Int32 → SS → Option SS) (hbk125 : ∀ (x1 : Int32) (x2 : Int32) (x4 : Int32) (x5 : Int32) (q : SS), bk125 x1 x2 x4 x5 q = some q2 → J [(0, .ref (ad 0)), (1, .int x1), (2, .int x2), (4, .int x4), (5, .int x5)] [] q 125) (x1 : Int32) (x2 : Int32) (x4 : Int32) (x5 : Int32) (q : SS) (h : f9_findBest_b162 N bk33 bk125 x1 x2 x4 x5 q = some q2) : J [(0, .ref (ad 0)), (1, .int x1), (2, .int x2), (4, .int x4), (5, .int x5)] [] q 162 := by
  unfold f9_findBest_b162 at h
  refine r_iconst hR dX9_findBest_162 kc_iconst_0 ?_
  exact r_sub hR [0, 1, 2, 3, 4] rfl (t9_findBest_b163 hR N hP bk33 hbk33 bk125 hbk125 _ _ _ _ _ _ h)
theorem t9_findBest_b158 (hR : Rl wM 10 RX9 cX9_findBest 7 none ad J P) (N : Nat) {q2 : SS} (hP : P none q2) (bk33 : Int32 → Int32 → Int32 → SS → Option SS) (hbk33 : ∀ (x1 : Int32) (x2 : Int32) (x4 : Int32) (q : SS), bk33 x1 x2 x4 q = some q2 → J [(0, .ref (ad 0)), (1, .int x1), (2, .int x2), (4, .int x4)] [] q 33) (bk125 : Int32 → Int32 → Int32 → Int32 → SS → Option SS) (hbk125 : ∀ (x1 : Int32) (x2 : Int32) (x4 : Int32) (x5 : Int32) (q : SS), bk125 x1 x2 x4 x5 q = some q2 → J [(0, .ref (ad 0)), (1, .int x1), (2, .int x2), (4, .int x4), (5, .int x5)] [] q 125) (x1 : Int32) (x2 : Int32) (x4 : Int32) (x5 : Int32) (q : SS) (h : f9_findBest_b158 N bk33 bk125 x1 x2 x4 x5 q = some q2) : J [(0, .ref (ad 0)), (1, .int x1), (2, .int x2), (4, .int x4), (5, .int x5)] [] q 158 := by
  unfold f9_findBest_b158 at h
  refine r_iconst hR dX9_findBest_158 kc_iconst_1 ?_
  refine r_goto hR (tgt := 163) dX9_findBest_159 (by decide) ?_
  exact r_sub hR [0, 1, 2, 3, 4] rfl (t9_findBest_b163 hR N hP bk33 hbk33 bk125 hbk125 _ _ _ _ _ _ h)
theorem t9_findBest_l125_B (hR : Rl wM 10 RX9 cX9_findBest 7 none ad J P) (N : Nat) {q2 : SS} (hP : P none q2) (bk33 : Int32 → Int32 → Int32 → SS → Option SS) (hbk33 : ∀ (x1 : Int32) (x2 : Int32) (x4 : Int32) (q : SS), bk33 x1 x2 x4 q = some q2 → J [(0, .ref (ad 0)), (1, .int x1), (2, .int x2), (4, .int x4)] [] q 33) (bk125 : Int32 → Int32 → Int32 → Int32 → SS → Option SS) (hbk125 : ∀ (x1 : Int32) (x2 : Int32) (x4 : Int32) (x5 : Int32) (q : SS), bk125 x1 x2 x4 x5 q = some q2 → J [(0, .ref (ad 0)), (1, .int x1), (2, .int x2), (4, .int x4), (5, .int x5)] [] q 125) (x1 : Int32) (x2 : Int32) (x4 : Int32) (x5 : Int32) (q : SS) (h : f9_findBest_l125_B N bk33 bk125 x1 x2 x4 x5 q = some q2) : J [(0, .ref (ad 0)), (1, .int x1), (2, .int x2), (4, .int x4), (5, .int x5)] [] q 125 := by
  unfold f9_findBest_l125_B at h
  refine r_iload hR dX9_findBest_125 4 rfl ?_
  refine r_iload hR dX9_findBest_127 3 rfl ?_
  refine r_icmp_ge hR (tgt := 187) dX9_findBest_129 (by decide) (fun c_129 => ?_) (fun c_129 => ?_)
  · replace h := it_t c_129 h
    exact r_sub hR [0, 1, 2, 3] rfl (t9_findBest_b187 hR N hP bk33 hbk33 _ _ _ _ h)
  · replace h := it_f c_129 h
    refine r_iload hR dX9_findBest_132 4 rfl ?_
    refine r_iload hR dX9_findBest_134 3 rfl ?_
    refine r_iand hR dX9_findBest_136 ?_
    refine r_iload hR dX9_findBest_137 4 rfl ?_
    refine r_icmp_ne hR (tgt := 162) dX9_findBest_139 (by decide) (fun c_139 => ?_) (fun c_139 => ?_)
    · replace h := it_f c_139 h
      exact r_sub hR [0, 1, 2, 3, 4] rfl (t9_findBest_b162 hR N hP bk33 hbk33 bk125 hbk125 _ _ _ _ _ h)
    · replace h := it_t c_139 h
      refine r_iload_n hR dX9_findBest_142 rfl 2 rfl ?_
      refine r_if_eq hR (tgt := 158) dX9_findBest_143 (by decide) (fun c_143 => ?_) (fun c_143 => ?_)
      · replace h := it_t c_143 h
        exact r_sub hR [0, 1, 2, 3, 4] rfl (t9_findBest_b158 hR N hP bk33 hbk33 bk125 hbk125 _ _ _ _ _ h)
      · replace h := it_f c_143 h
        refine r_iload hR dX9_findBest_146 3 rfl ?_
        refine r_iload hR dX9_findBest_148 4 rfl ?_
        refine r_isub hR dX9_findBest_150 ?_
        obtain ⟨r_151, hc, h⟩ := bd_some h
        refine r_callSi hR (c9_bitsOf N hc) (cf_X9_98 (by decide)) m_5_9 (As := [.int (x4 - x5)]) rfl rfl (Nat.le_of_ble_eq_true rfl) rfl dX9_findBest_151 ?_
        refine r_iconst hR dX9_findBest_154 kc_iconst_1 ?_
        refine r_icmp_ne hR (tgt := 162) dX9_findBest_155 (by decide) (fun c_155 => ?_) (fun c_155 => ?_)
        · replace h := it_f c_155 h
          exact r_sub hR [0, 1, 2, 3, 4] rfl (t9_findBest_b162 hR N hP bk33 hbk33 bk125 hbk125 _ _ _ _ _ h)
        · replace h := it_t c_155 h
          exact r_sub hR [0, 1, 2, 3, 4] rfl (t9_findBest_b158 hR N hP bk33 hbk33 bk125 hbk125 _ _ _ _ _ h)
theorem t9_findBest_l125 (hR : Rl wM 10 RX9 cX9_findBest 7 none ad J P) (N : Nat) {q2 : SS} (hP : P none q2) (bk33 : Int32 → Int32 → Int32 → SS → Option SS) (hbk33 : ∀ (x1 : Int32) (x2 : Int32) (x4 : Int32) (q : SS), bk33 x1 x2 x4 q = some q2 → J [(0, .ref (ad 0)), (1, .int x1), (2, .int x2), (4, .int x4)] [] q 33) : ∀ (n : Nat) (x1 : Int32) (x2 : Int32) (x4 : Int32) (x5 : Int32) (q : SS), f9_findBest_l125 N bk33 n x1 x2 x4 x5 q = some q2 → J [(0, .ref (ad 0)), (1, .int x1), (2, .int x2), (4, .int x4), (5, .int x5)] [] q 125 := by
  intro n
  induction n with
  | zero => intro x1 x2 x4 x5 q h; exact mu_noneF h
  | succ n ih => intro x1 x2 x4 x5 q h; exact t9_findBest_l125_B hR N hP bk33 hbk33 _ ih x1 x2 x4 x5 q h
theorem t9_findBest_b113 (hR : Rl wM 10 RX9 cX9_findBest 7 none ad J P) (N : Nat) {q2 : SS} (hP : P none q2) (bk33 : Int32 → Int32 → Int32 → SS → Option SS) (hbk33 : ∀ (x1 : Int32) (x2 : Int32) (x4 : Int32) (q : SS), bk33 x1 x2 x4 q = some q2 → J [(0, .ref (ad 0)), (1, .int x1), (2, .int x2), (4, .int x4)] [] q 33) (x1 : Int32) (x2 : Int32) (x4 : Int32) (q : SS) (h : f9_findBest_b113 N bk33 x1 x2 x4 q = some q2) : J [(0, .ref (ad 0)), (1, .int x1), (2, .int x2), (4, .int x4)] [] q 113 := by
  unfold f9_findBest_b113 at h
  refine r_iload hR dX9_findBest_113 3 rfl ?_
  refine r_iload_n hR dX9_findBest_115 rfl 1 rfl ?_
  refine r_iand hR dX9_findBest_116 ?_
  refine r_iload hR dX9_findBest_117 3 rfl ?_
  refine r_icmp_ne hR (tgt := 187) dX9_findBest_119 (by decide) (fun c_119 => ?_) (fun c_119 => ?_)
  · replace h := it_f c_119 h
    exact r_sub hR [0, 1, 2, 3] rfl (t9_findBest_b187 hR N hP bk33 hbk33 _ _ _ _ h)
  · replace h := it_t c_119 h
    refine r_iconst hR dX9_findBest_122 kc_iconst_1 ?_
    refine r_istore hR (i := 5) (lv' := [(5, .int (1 : Int32)), (0, .ref (ad 0)), (1, .int x1), (2, .int x2), (4, .int x4)]) dX9_findBest_123 rfl (by decide) rfl ?_
    exact r_sub hR [1, 2, 3, 4, 0] rfl (t9_findBest_l125 hR N hP bk33 hbk33 N _ _ _ _ _ h)
theorem t9_findBest_l60_B (hR : Rl wM 10 RX9 cX9_findBest 7 none ad J P) (N : Nat) {q2 : SS} (hP : P none q2) (bk33 : Int32 → Int32 → Int32 → SS → Option SS) (hbk33 : ∀ (x1 : Int32) (x2 : Int32) (x4 : Int32) (q : SS), bk33 x1 x2 x4 q = some q2 → J [(0, .ref (ad 0)), (1, .int x1), (2, .int x2), (4, .int x4)] [] q 33) (bk60 : Int32 → Int32 → Int32 → Int32 → SS → Option SS) (hbk60 : ∀ (x1 : Int32) (x2 : Int32) (x4 : Int32) (x5 : Int32) (q : SS), bk60 x1 x2 x4 x5 q = some q2 → J [(0, .ref (ad 0)), (1, .int x1), (2, .int x2), (4, .int x4), (5, .int x5)] [] q 60) (x1 : Int32) (x2 : Int32) (x4 : Int32) (x5 : Int32) (q : SS) (h : f9_findBest_l60_B N bk33 bk60 x1 x2 x4 x5 q = some q2) : J [(0, .ref (ad 0)), (1, .int x1), (2, .int x2), (4, .int x4), (5, .int x5)] [] q 60 := by
  unfold f9_findBest_l60_B at h
  refine r_iconst hR dX9_findBest_60 kc_iconst_1 ?_
  refine r_iload hR dX9_findBest_61 4 rfl ?_
  refine r_ishl hR dX9_findBest_63 ?_
  refine r_iload hR dX9_findBest_64 3 rfl ?_
  refine r_icmp_eq hR (tgt := 75) dX9_findBest_66 (by decide) (fun c_66 => ?_) (fun c_66 => ?_)
  · replace h := it_t c_66 h
    refine r_aload_n hR dX9_findBest_75 rfl 0 rfl ?_
    refine r_iconst hR dX9_findBest_76 kc_iconst_0 ?_
    obtain ⟨q_77, hq, h⟩ := bn_some h
    refine p_X9_trialMany hR m_4_152 dX9_findBest_77 hq ?_
    refine r_aload_n hR dX9_findBest_80 rfl 0 rfl ?_
    refine r_bipush hR dX9_findBest_81 kc_bipush_48 ?_
    refine r_iload hR dX9_findBest_83 4 rfl ?_
    refine r_iadd hR dX9_findBest_85 ?_
    obtain ⟨q_86, hc, h⟩ := bd_some h
    refine r_callVv hR (c9_putSign hc) (cf_X9_263 (by decide)) ⟨m_5_233, ms_5_7⟩ (As := [.int ((48 : Int32) + x5)]) (q0 := 0) (ci := 7) rfl rfl rfl rfl (rc_X9 ad _) (Nat.le_of_ble_eq_true rfl) rfl dX9_findBest_86 ?_
    refine r_aload_n hR dX9_findBest_89 rfl 0 rfl ?_
    refine r_iload hR dX9_findBest_90 3 rfl ?_
    refine r_aload_n hR dX9_findBest_92 rfl 0 rfl ?_
    refine r_iload hR dX9_findBest_93 4 rfl ?_
    obtain ⟨r_95, hc, h⟩ := bd_some h
    refine r_callVi hR (c9_sortedBy N hc) (cf_X9_146 (by decide)) ⟨m_5_73, ms_3_12⟩ (As := [.int x5]) (q0 := 0) (ci := 7) rfl rfl rfl rfl (rc_X9 ad _) (Nat.le_of_ble_eq_true rfl) rfl dX9_findBest_95 ?_
    refine r_iconst hR dX9_findBest_98 kc_iconst_1 ?_
    refine r_iadd hR dX9_findBest_99 ?_
    refine r_aload_n hR dX9_findBest_100 rfl 0 rfl ?_
    refine g_X9_pagesNow hR m_4_141 dX9_findBest_101 ?_
    refine r_iload hR dX9_findBest_104 3 rfl ?_
    obtain ⟨hin, h⟩ := ck_some h
    refine ld_X9_pagesNow hR dX9_findBest_106 hin ?_
    obtain ⟨q_107, hc, h⟩ := bd_some h
    refine r_callVv hR (c9_offer N hc) (cf_X9_273 (by decide)) ⟨m_5_237, ms_5_8⟩ (As := [.int x4, .int (r_95 + (1 : Int32)), .int (ar q_86 13 (ix x4))]) (q0 := 0) (ci := 7) rfl rfl rfl rfl (rc_X9 ad _) (Nat.le_of_ble_eq_true rfl) rfl dX9_findBest_107 ?_
    refine r_goto hR (tgt := 187) dX9_findBest_110 (by decide) ?_
    exact r_sub hR [0, 1, 2, 3] rfl (t9_findBest_b187 hR N hP bk33 hbk33 _ _ _ _ h)
  · replace h := it_f c_66 h
    obtain ⟨x5_69, hx, h⟩ := bn_some h
    refine r_iinc hR (i := 5) (lv' := [(5, .int x5_69), (0, .ref (ad 0)), (1, .int x1), (2, .int x2), (4, .int x4)]) dX9_findBest_69 4 rfl (inc_ok hx kc_iconst_1) (by decide) rfl ?_
    refine r_goto hR (tgt := 60) dX9_findBest_72 (by decide) ?_
    exact r_sub hR [1, 2, 3, 4, 0] rfl (hbk60 _ _ _ _ _ h)
theorem t9_findBest_l60 (hR : Rl wM 10 RX9 cX9_findBest 7 none ad J P) (N : Nat) {q2 : SS} (hP : P none q2) (bk33 : Int32 → Int32 → Int32 → SS → Option SS) (hbk33 : ∀ (x1 : Int32) (x2 : Int32) (x4 : Int32) (q : SS), bk33 x1 x2 x4 q = some q2 → J [(0, .ref (ad 0)), (1, .int x1), (2, .int x2), (4, .int x4)] [] q 33) : ∀ (n : Nat) (x1 : Int32) (x2 : Int32) (x4 : Int32) (x5 : Int32) (q : SS), f9_findBest_l60 N bk33 n x1 x2 x4 x5 q = some q2 → J [(0, .ref (ad 0)), (1, .int x1), (2, .int x2), (4, .int x4), (5, .int x5)] [] q 60 := by
  intro n
  induction n with
  | zero => intro x1 x2 x4 x5 q h; exact mu_noneF h
  | succ n ih => intro x1 x2 x4 x5 q h; exact t9_findBest_l60_B hR N hP bk33 hbk33 _ ih x1 x2 x4 x5 q h
theorem t9_findBest_l33_B (hR : Rl wM 10 RX9 cX9_findBest 7 none ad J P) (N : Nat) {q2 : SS} (hP : P none q2) (bk33 : Int32 → Int32 → Int32 → SS → Option SS) (hbk33 : ∀ (x1 : Int32) (x2 : Int32) (x4 : Int32) (q : SS), bk33 x1 x2 x4 q = some q2 → J [(0, .ref (ad 0)), (1, .int x1), (2, .int x2), (4, .int x4)] [] q 33) (x1 : Int32) (x2 : Int32) (x4 : Int32) (q : SS) (h : f9_findBest_l33_B N bk33 x1 x2 x4 q = some q2) : J [(0, .ref (ad 0)), (1, .int x1), (2, .int x2), (4, .int x4)] [] q 33 := by
  unfold f9_findBest_l33_B at h
  refine r_iload hR dX9_findBest_33 3 rfl ?_
  refine r_iload_n hR dX9_findBest_35 rfl 1 rfl ?_
  refine r_icmp_gt hR (tgt := 193) dX9_findBest_36 (by decide) (fun c_36 => ?_) (fun c_36 => ?_)
  · replace h := it_t c_36 h
    exact r_vret hR dX9_findBest_193 rfl (rtv hP h)
  · replace h := it_f c_36 h
    refine r_iload hR dX9_findBest_39 3 rfl ?_
    refine r_iload_n hR dX9_findBest_41 rfl 1 rfl ?_
    refine r_iand hR dX9_findBest_42 ?_
    refine r_iload hR dX9_findBest_43 3 rfl ?_
    refine r_icmp_ne hR (tgt := 113) dX9_findBest_45 (by decide) (fun c_45 => ?_) (fun c_45 => ?_)
    · replace h := it_f c_45 h
      exact r_sub hR [0, 1, 2, 3] rfl (t9_findBest_b113 hR N hP bk33 hbk33 _ _ _ _ h)
    · replace h := it_t c_45 h
      refine r_iload hR dX9_findBest_48 3 rfl ?_
      obtain ⟨r_50, hc, h⟩ := bd_some h
      refine r_callSi hR (c9_bitsOf N hc) (cf_X9_98 (by decide)) m_5_9 (As := [.int x4]) rfl rfl (Nat.le_of_ble_eq_true rfl) rfl dX9_findBest_50 ?_
      refine r_iconst hR dX9_findBest_53 kc_iconst_1 ?_
      refine r_icmp_ne hR (tgt := 113) dX9_findBest_54 (by decide) (fun c_54 => ?_) (fun c_54 => ?_)
      · replace h := it_f c_54 h
        exact r_sub hR [0, 1, 2, 3] rfl (t9_findBest_b113 hR N hP bk33 hbk33 _ _ _ _ h)
      · replace h := it_t c_54 h
        refine r_iconst hR dX9_findBest_57 kc_iconst_0 ?_
        refine r_istore hR (i := 5) (lv' := [(5, .int (0 : Int32)), (0, .ref (ad 0)), (1, .int x1), (2, .int x2), (4, .int x4)]) dX9_findBest_58 rfl (by decide) rfl ?_
        exact r_sub hR [1, 2, 3, 4, 0] rfl (t9_findBest_l60 hR N hP bk33 hbk33 N _ _ _ _ _ h)
theorem t9_findBest_l33 (hR : Rl wM 10 RX9 cX9_findBest 7 none ad J P) (N : Nat) {q2 : SS} (hP : P none q2) : ∀ (n : Nat) (x1 : Int32) (x2 : Int32) (x4 : Int32) (q : SS), f9_findBest_l33 N n x1 x2 x4 q = some q2 → J [(0, .ref (ad 0)), (1, .int x1), (2, .int x2), (4, .int x4)] [] q 33 := by
  intro n
  induction n with
  | zero => intro x1 x2 x4 q h; exact mu_noneF h
  | succ n ih => intro x1 x2 x4 q h; exact t9_findBest_l33_B hR N hP _ ih x1 x2 x4 q h
theorem t9_findBest_l8_B (hR : Rl wM 10 RX9 cX9_findBest 7 none ad J P) (N : Nat) {q2 : SS} (hP : P none q2) (bk8 : Int32 → Int32 → Int32 → SS → Option SS) (hbk8 : ∀ (x1 : Int32) (x2 : Int32) (x4 : Int32) (q : SS), bk8 x1 x2 x4 q = some q2 → J [(0, .ref (ad 0)), (1, .int x1), (2, .int x2), (4, .int x4)] [] q 8) (x1 : Int32) (x2 : Int32) (x4 : Int32) (q : SS) (h : f9_findBest_l8_B N bk8 x1 x2 x4 q = some q2) : J [(0, .ref (ad 0)), (1, .int x1), (2, .int x2), (4, .int x4)] [] q 8 := by
  unfold f9_findBest_l8_B at h
  refine r_iload hR dX9_findBest_8 3 rfl ?_
  refine r_sipush hR dX9_findBest_10 kc_sipush_576 ?_
  refine r_icmp_ge hR (tgt := 30) dX9_findBest_13 (by decide) (fun c_13 => ?_) (fun c_13 => ?_)
  · replace h := it_t c_13 h
    refine r_iconst hR dX9_findBest_30 kc_iconst_1 ?_
    refine r_istore hR (i := 4) (lv' := [(4, .int (1 : Int32)), (0, .ref (ad 0)), (1, .int x1), (2, .int x2)]) dX9_findBest_31 rfl (by decide) rfl ?_
    exact r_sub hR [1, 2, 3, 0] rfl (t9_findBest_l33 hR N hP N _ _ _ _ h)
  · replace h := it_f c_13 h
    refine r_aload_n hR dX9_findBest_16 rfl 0 rfl ?_
    refine g_X9_bestCosts hR m_4_149 dX9_findBest_17 ?_
    refine r_iload hR dX9_findBest_20 3 rfl ?_
    refine r_iconst hR dX9_findBest_22 kc_iconst_m1 ?_
    obtain ⟨hin, h⟩ := ck_some h
    obtain ⟨q_23, hq, h⟩ := bn_some h
    refine sv_X9_bestCosts hR dX9_findBest_23 hin hq ?_
    obtain ⟨x4_24, hx, h⟩ := bn_some h
    refine r_iinc hR (i := 4) (lv' := [(4, .int x4_24), (0, .ref (ad 0)), (1, .int x1), (2, .int x2)]) dX9_findBest_24 3 rfl (inc_ok hx kc_iconst_1) (by decide) rfl ?_
    refine r_goto hR (tgt := 8) dX9_findBest_27 (by decide) ?_
    exact r_sub hR [1, 2, 3, 0] rfl (hbk8 _ _ _ _ h)
theorem t9_findBest_l8 (hR : Rl wM 10 RX9 cX9_findBest 7 none ad J P) (N : Nat) {q2 : SS} (hP : P none q2) : ∀ (n : Nat) (x1 : Int32) (x2 : Int32) (x4 : Int32) (q : SS), f9_findBest_l8 N n x1 x2 x4 q = some q2 → J [(0, .ref (ad 0)), (1, .int x1), (2, .int x2), (4, .int x4)] [] q 8 := by
  intro n
  induction n with
  | zero => intro x1 x2 x4 q h; exact mu_noneF h
  | succ n ih => intro x1 x2 x4 q h; exact t9_findBest_l8_B hR N hP _ ih x1 x2 x4 q h
theorem t9_findBest (hR : Rl wM 10 RX9 cX9_findBest 7 none ad J P) (N : Nat) {q2 : SS} (hP : P none q2) (x1 : Int32) (x2 : Int32) (x3 : Int32) (q : SS) (h : f9_findBest N x1 x2 x3 q = some q2) : J [(0, .ref (ad 0)), (1, .int x1), (2, .int x2), (3, .int x3)] [] q 0 := by
  unfold f9_findBest at h
  refine r_aload_n hR dX9_findBest_0 rfl 0 rfl ?_
  refine r_iload_n hR dX9_findBest_1 rfl 3 rfl ?_
  obtain ⟨q_2, hc, h⟩ := bd_some h
  refine r_callVv hR (c9_layPages N hc) (cf_X9_253 (by decide)) ⟨m_5_192, ms_4_14⟩ (As := [.int x3]) (q0 := 0) (ci := 7) rfl rfl rfl rfl (rc_X9 ad _) (Nat.le_of_ble_eq_true rfl) rfl dX9_findBest_2 ?_
  refine r_iconst hR dX9_findBest_5 kc_iconst_0 ?_
  refine r_istore hR (i := 4) (lv' := [(4, .int (0 : Int32)), (0, .ref (ad 0)), (1, .int x1), (2, .int x2), (3, .int x3)]) dX9_findBest_6 rfl (by decide) rfl ?_
  exact r_sub hR [1, 2, 3, 0] rfl (t9_findBest_l8 hR N hP N _ _ _ _ h)
theorem c9_findBest (N : Nat) {x1 : Int32} {x2 : Int32} {x3 : Int32} {q : SS} {q2 : SS} (h : f9_findBest N x1 x2 x3 q = some q2) : Ct wM 10 yX9_findBest cX9_findBest 7 none (fun ad => [.ref (ad 0), .int x1, .int x2, .int x3]) q (fun _ => none) q2 :=
  ct_of (by decide) (fun _ => Nat.le_of_ble_eq_true rfl) (fun ad J hR => t9_findBest hR N ⟨rfl, rfl⟩ x1 x2 x3 q h)
theorem t9_bestOrder_b178 (hR : Rl wM 3 RX9 cX9_bestOrder 9 (some .int) ad J P) (N : Nat) {r : Int32} {q2 : SS} (hP : P (some (.int r)) q2) (bk10 : Int32 → Int32 → Int32 → Int32 → SS → Option (Int32 × SS)) (hbk10 : ∀ (x1 : Int32) (x2 : Int32) (x3 : Int32) (x4 : Int32) (q : SS), bk10 x1 x2 x3 x4 q = some (r, q2) → J [(0, .ref (ad 0)), (1, .int x1), (2, .int x2), (3, .int x3), (4, .int x4)] [] q 10) (x1 : Int32) (x2 : Int32) (x3 : Int32) (x4 : Int32) (q : SS) (h : f9_bestOrder_b178 N bk10 x1 x2 x3 x4 q = some (r, q2)) : J [(0, .ref (ad 0)), (1, .int x1), (2, .int x2), (3, .int x3), (4, .int x4)] [] q 178 := by
  unfold f9_bestOrder_b178 at h
  obtain ⟨x4_178, hx, h⟩ := bn_some h
  refine r_iinc hR (i := 4) (lv' := [(4, .int x4_178), (0, .ref (ad 0)), (1, .int x1), (2, .int x2), (3, .int x3)]) dX9_bestOrder_178 4 rfl (inc_ok hx kc_iconst_1) (by decide) rfl ?_
  refine r_goto hR (tgt := 10) dX9_bestOrder_181 (by decide) ?_
  exact r_sub hR [1, 2, 3, 4, 0] rfl (hbk10 _ _ _ _ _ h)
theorem t9_bestOrder_b175 (hR : Rl wM 3 RX9 cX9_bestOrder 9 (some .int) ad J P) (N : Nat) {r : Int32} {q2 : SS} (hP : P (some (.int r)) q2) (bk10 : Int32 → Int32 → Int32 → Int32 → SS → Option (Int32 × SS)) (hbk10 : ∀ (x1 : Int32) (x2 : Int32) (x3 : Int32) (x4 : Int32) (q : SS), bk10 x1 x2 x3 x4 q = some (r, q2) → J [(0, .ref (ad 0)), (1, .int x1), (2, .int x2), (3, .int x3), (4, .int x4)] [] q 10) (x1 : Int32) (x2 : Int32) (x3 : Int32) (x4 : Int32) (s0 : Int32) (q : SS) (h : f9_bestOrder_b175 N bk10 x1 x2 x3 x4 s0 q = some (r, q2)) : J [(0, .ref (ad 0)), (1, .int x1), (2, .int x2), (3, .int x3), (4, .int x4)] [.int s0, .ref (ad 0)] q 175 := by
  unfold f9_bestOrder_b175 at h
  obtain ⟨q_175, hq, h⟩ := bn_some h
  refine p_X9_wishedCost hR m_4_153 dX9_bestOrder_175 hq ?_
  exact r_sub hR [0, 1, 2, 3, 4] rfl (t9_bestOrder_b178 hR N hP bk10 hbk10 _ _ _ _ _ h)
theorem t9_bestOrder_b159 (hR : Rl wM 3 RX9 cX9_bestOrder 9 (some .int) ad J P) (N : Nat) {r : Int32} {q2 : SS} (hP : P (some (.int r)) q2) (bk10 : Int32 → Int32 → Int32 → Int32 → SS → Option (Int32 × SS)) (hbk10 : ∀ (x1 : Int32) (x2 : Int32) (x3 : Int32) (x4 : Int32) (q : SS), bk10 x1 x2 x3 x4 q = some (r, q2) → J [(0, .ref (ad 0)), (1, .int x1), (2, .int x2), (3, .int x3), (4, .int x4)] [] q 10) (x1 : Int32) (x2 : Int32) (x4 : Int32) (x6 : Int32) (x7 : Int32) (s0 : Int32) (q : SS) (h : f9_bestOrder_b159 N bk10 x1 x2 x4 x6 x7 s0 q = some (r, q2)) : J [(0, .ref (ad 0)), (1, .int x1), (2, .int x2), (4, .int x4), (6, .int x6), (7, .int x7)] [.int s0] q 159 := by
  unfold f9_bestOrder_b159 at h
  refine r_istore_n hR (i := 3) (lv' := [(3, .int s0), (0, .ref (ad 0)), (1, .int x1), (2, .int x2), (4, .int x4), (6, .int x6), (7, .int x7)]) dX9_bestOrder_159 rfl rfl (by decide) rfl ?_
  refine r_aload_n hR dX9_bestOrder_160 rfl 1 rfl ?_
  refine r_iload hR dX9_bestOrder_161 6 rfl ?_
  refine r_if_ge hR (tgt := 171) dX9_bestOrder_163 (by decide) (fun c_163 => ?_) (fun c_163 => ?_)
  · replace h := it_t c_163 h
    refine r_aload_n hR dX9_bestOrder_171 rfl 1 rfl ?_
    refine g_X9_wishedCost hR m_4_153 dX9_bestOrder_172 ?_
    exact r_sub hR [1, 2, 3, 0, 4] rfl (t9_bestOrder_b175 hR N hP bk10 hbk10 _ _ _ _ _ _ h)
  · replace h := it_f c_163 h
    refine r_iload hR dX9_bestOrder_166 5 rfl ?_
    refine r_goto hR (tgt := 175) dX9_bestOrder_168 (by decide) ?_
    exact r_sub hR [1, 2, 3, 0, 4] rfl (t9_bestOrder_b175 hR N hP bk10 hbk10 _ _ _ _ _ _ h)
theorem t9_bestOrder_b148 (hR : Rl wM 3 RX9 cX9_bestOrder 9 (some .int) ad J P) (N : Nat) {r : Int32} {q2 : SS} (hP : P (some (.int r)) q2) (bk10 : Int32 → Int32 → Int32 → Int32 → SS → Option (Int32 × SS)) (hbk10 : ∀ (x1 : Int32) (x2 : Int32) (x3 : Int32) (x4 : Int32) (q : SS), bk10 x1 x2 x3 x4 q = some (r, q2) → J [(0, .ref (ad 0)), (1, .int x1), (2, .int x2), (3, .int x3), (4, .int x4)] [] q 10) (x1 : Int32) (x2 : Int32) (x3 : Int32) (x4 : Int32) (x6 : Int32) (x7 : Int32) (q : SS) (h : f9_bestOrder_b148 N bk10 x1 x2 x3 x4 x6 x7 q = some (r, q2)) : J [(0, .ref (ad 0)), (1, .int x1), (2, .int x2), (3, .int x3), (4, .int x4), (6, .int x6), (7, .int x7)] [] q 148 := by
  unfold f9_bestOrder_b148 at h
  refine r_iload hR dX9_bestOrder_148 6 rfl ?_
  refine r_if_ge hR (tgt := 158) dX9_bestOrder_150 (by decide) (fun c_150 => ?_) (fun c_150 => ?_)
  · replace h := it_t c_150 h
    refine r_iload_n hR dX9_bestOrder_158 rfl 3 rfl ?_
    exact r_sub hR [0, 1, 2, 4, 5, 6] rfl (t9_bestOrder_b159 hR N hP bk10 hbk10 _ _ _ _ _ _ _ h)
  · replace h := it_f c_150 h
    refine r_iload hR dX9_bestOrder_153 4 rfl ?_
    refine r_goto hR (tgt := 159) dX9_bestOrder_155 (by decide) ?_
    exact r_sub hR [0, 1, 2, 4, 5, 6] rfl (t9_bestOrder_b159 hR N hP bk10 hbk10 _ _ _ _ _ _ _ h)
theorem t9_bestOrder_l95_B (hR : Rl wM 3 RX9 cX9_bestOrder 9 (some .int) ad J P) (N : Nat) {r : Int32} {q2 : SS} (hP : P (some (.int r)) q2) (bk10 : Int32 → Int32 → Int32 → Int32 → SS → Option (Int32 × SS)) (hbk10 : ∀ (x1 : Int32) (x2 : Int32) (x3 : Int32) (x4 : Int32) (q : SS), bk10 x1 x2 x3 x4 q = some (r, q2) → J [(0, .ref (ad 0)), (1, .int x1), (2, .int x2), (3, .int x3), (4, .int x4)] [] q 10) (bk95 : Int32 → Int32 → Int32 → Int32 → Int32 → Int32 → Int32 → Int32 → SS → Option (Int32 × SS)) (hbk95 : ∀ (x1 : Int32) (x2 : Int32) (x3 : Int32) (x4 : Int32) (x5 : Int32) (x6 : Int32) (x7 : Int32) (x8 : Int32) (q : SS), bk95 x1 x2 x3 x4 x5 x6 x7 x8 q = some (r, q2) → J [(0, .ref (ad 0)), (1, .int x1), (2, .int x2), (3, .int x3), (4, .int x4), (5, .int x5), (6, .int x6), (7, .int x7), (8, .int x8)] [] q 95) (x1 : Int32) (x2 : Int32) (x3 : Int32) (x4 : Int32) (x5 : Int32) (x6 : Int32) (x7 : Int32) (x8 : Int32) (q : SS) (h : f9_bestOrder_l95_B N bk10 bk95 x1 x2 x3 x4 x5 x6 x7 x8 q = some (r, q2)) : J [(0, .ref (ad 0)), (1, .int x1), (2, .int x2), (3, .int x3), (4, .int x4), (5, .int x5), (6, .int x6), (7, .int x7), (8, .int x8)] [] q 95 := by
  unfold f9_bestOrder_l95_B at h
  refine r_iload hR dX9_bestOrder_95 8 rfl ?_
  refine r_iload_n hR dX9_bestOrder_97 rfl 1 rfl ?_
  obtain ⟨r_98, hc, h⟩ := bd_some h
  refine r_callSi hR (c9_signsOf N hc) (cf_X9_266 (by decide)) m_6_4 (As := [.int x1]) rfl rfl (Nat.le_of_ble_eq_true rfl) rfl dX9_bestOrder_98 ?_
  refine r_icmp_ge hR (tgt := 148) dX9_bestOrder_101 (by decide) (fun c_101 => ?_) (fun c_101 => ?_)
  · replace h := it_t c_101 h
    exact r_sub hR [0, 1, 2, 3, 4, 6, 7] rfl (t9_bestOrder_b148 hR N hP bk10 hbk10 _ _ _ _ _ _ _ h)
  · replace h := it_f c_101 h
    refine r_iload hR dX9_bestOrder_104 7 rfl ?_
    refine r_if_ne hR (tgt := 148) dX9_bestOrder_106 (by decide) (fun c_106 => ?_) (fun c_106 => ?_)
    · replace h := it_f c_106 h
      exact r_sub hR [0, 1, 2, 3, 4, 6, 7] rfl (t9_bestOrder_b148 hR N hP bk10 hbk10 _ _ _ _ _ _ _ h)
    · replace h := it_t c_106 h
      refine r_aload_n hR dX9_bestOrder_109 rfl 0 rfl ?_
      refine g_X9_bestTexts hR m_4_150 dX9_bestOrder_110 ?_
      refine r_bipush hR dX9_bestOrder_113 kc_bipush_21 ?_
      refine r_iload hR dX9_bestOrder_115 5 rfl ?_
      refine r_imul hR dX9_bestOrder_117 ?_
      refine r_iload hR dX9_bestOrder_118 8 rfl ?_
      refine r_iadd hR dX9_bestOrder_120 ?_
      obtain ⟨hin, h⟩ := ck_some h
      refine ld_X9_bestTexts hR dX9_bestOrder_121 hin ?_
      refine r_aload_n hR dX9_bestOrder_122 rfl 0 rfl ?_
      refine g_X9_bestTexts hR m_4_150 dX9_bestOrder_123 ?_
      refine r_bipush hR dX9_bestOrder_126 kc_bipush_21 ?_
      refine r_bipush hR dX9_bestOrder_128 kc_bipush_9 ?_
      refine r_iload_n hR dX9_bestOrder_130 rfl 1 rfl ?_
      refine r_imul hR dX9_bestOrder_131 ?_
      refine r_iload_n hR dX9_bestOrder_132 rfl 3 rfl ?_
      refine r_iadd hR dX9_bestOrder_133 ?_
      refine r_imul hR dX9_bestOrder_134 ?_
      refine r_iload hR dX9_bestOrder_135 8 rfl ?_
      refine r_iadd hR dX9_bestOrder_137 ?_
      obtain ⟨hin, h⟩ := ck_some h
      refine ld_X9_bestTexts hR dX9_bestOrder_138 hin ?_
      refine r_isub hR dX9_bestOrder_139 ?_
      obtain ⟨x7_140, hx, h⟩ := bn_some h
      refine r_istore hR (i := 7) (lv' := [(7, .int x7_140), (0, .ref (ad 0)), (1, .int x1), (2, .int x2), (3, .int x3), (4, .int x4), (5, .int x5), (6, .int x6), (8, .int x8)]) dX9_bestOrder_140 hx (by decide) rfl ?_
      obtain ⟨x8_142, hx, h⟩ := bn_some h
      refine r_iinc hR (i := 8) (lv' := [(8, .int x8_142), (7, .int x7_140), (0, .ref (ad 0)), (1, .int x1), (2, .int x2), (3, .int x3), (4, .int x4), (5, .int x5), (6, .int x6)]) dX9_bestOrder_142 8 rfl (inc_ok hx kc_iconst_1) (by decide) rfl ?_
      refine r_goto hR (tgt := 95) dX9_bestOrder_145 (by decide) ?_
      exact r_sub hR [2, 3, 4, 5, 6, 7, 8, 1, 0] rfl (hbk95 _ _ _ _ _ _ _ _ _ h)
theorem t9_bestOrder_l95 (hR : Rl wM 3 RX9 cX9_bestOrder 9 (some .int) ad J P) (N : Nat) {r : Int32} {q2 : SS} (hP : P (some (.int r)) q2) (bk10 : Int32 → Int32 → Int32 → Int32 → SS → Option (Int32 × SS)) (hbk10 : ∀ (x1 : Int32) (x2 : Int32) (x3 : Int32) (x4 : Int32) (q : SS), bk10 x1 x2 x3 x4 q = some (r, q2) → J [(0, .ref (ad 0)), (1, .int x1), (2, .int x2), (3, .int x3), (4, .int x4)] [] q 10) : ∀ (n : Nat) (x1 : Int32) (x2 : Int32) (x3 : Int32) (x4 : Int32) (x5 : Int32) (x6 : Int32) (x7 : Int32) (x8 : Int32) (q : SS), f9_bestOrder_l95 N bk10 n x1 x2 x3 x4 x5 x6 x7 x8 q = some (r, q2) → J [(0, .ref (ad 0)), (1, .int x1), (2, .int x2), (3, .int x3), (4, .int x4), (5, .int x5), (6, .int x6), (7, .int x7), (8, .int x8)] [] q 95 := by
  intro n
  induction n with
  | zero => intro x1 x2 x3 x4 x5 x6 x7 x8 q h; exact mu_noneF h
  | succ n ih => intro x1 x2 x3 x4 x5 x6 x7 x8 q h; exact t9_bestOrder_l95_B hR N hP bk10 hbk10 _ ih x1 x2 x3 x4 x5 x6 x7 x8 q h
theorem t9_bestOrder_b90 (hR : Rl wM 3 RX9 cX9_bestOrder 9 (some .int) ad J P) (N : Nat) {r : Int32} {q2 : SS} (hP : P (some (.int r)) q2) (bk10 : Int32 → Int32 → Int32 → Int32 → SS → Option (Int32 × SS)) (hbk10 : ∀ (x1 : Int32) (x2 : Int32) (x3 : Int32) (x4 : Int32) (q : SS), bk10 x1 x2 x3 x4 q = some (r, q2) → J [(0, .ref (ad 0)), (1, .int x1), (2, .int x2), (3, .int x3), (4, .int x4)] [] q 10) (x1 : Int32) (x2 : Int32) (x3 : Int32) (x4 : Int32) (x5 : Int32) (x6 : Int32) (s0 : Int32) (q : SS) (h : f9_bestOrder_b90 N bk10 x1 x2 x3 x4 x5 x6 s0 q = some (r, q2)) : J [(0, .ref (ad 0)), (1, .int x1), (2, .int x2), (3, .int x3), (4, .int x4), (5, .int x5), (6, .int x6)] [.int s0] q 90 := by
  unfold f9_bestOrder_b90 at h
  refine r_istore hR (i := 7) (lv' := [(7, .int s0), (0, .ref (ad 0)), (1, .int x1), (2, .int x2), (3, .int x3), (4, .int x4), (5, .int x5), (6, .int x6)]) dX9_bestOrder_90 rfl (by decide) rfl ?_
  refine r_iconst hR dX9_bestOrder_92 kc_iconst_0 ?_
  refine r_istore hR (i := 8) (lv' := [(8, .int (0 : Int32)), (7, .int s0), (0, .ref (ad 0)), (1, .int x1), (2, .int x2), (3, .int x3), (4, .int x4), (5, .int x5), (6, .int x6)]) dX9_bestOrder_93 rfl (by decide) rfl ?_
  exact r_sub hR [2, 3, 4, 5, 6, 7, 8, 1, 0] rfl (t9_bestOrder_l95 hR N hP bk10 hbk10 N _ _ _ _ _ _ _ _ _ h)
theorem t9_bestOrder_b71 (hR : Rl wM 3 RX9 cX9_bestOrder 9 (some .int) ad J P) (N : Nat) {r : Int32} {q2 : SS} (hP : P (some (.int r)) q2) (bk10 : Int32 → Int32 → Int32 → Int32 → SS → Option (Int32 × SS)) (hbk10 : ∀ (x1 : Int32) (x2 : Int32) (x3 : Int32) (x4 : Int32) (q : SS), bk10 x1 x2 x3 x4 q = some (r, q2) → J [(0, .ref (ad 0)), (1, .int x1), (2, .int x2), (3, .int x3), (4, .int x4)] [] q 10) (x1 : Int32) (x2 : Int32) (x3 : Int32) (x4 : Int32) (x5 : Int32) (s0 : Int32) (s1 : Int32) (q : SS) (h : f9_bestOrder_b71 N bk10 x1 x2 x3 x4 x5 s0 s1 q = some (r, q2)) : J [(0, .ref (ad 0)), (1, .int x1), (2, .int x2), (3, .int x3), (4, .int x4), (5, .int x5)] [.int s0, .int s1] q 71 := by
  unfold f9_bestOrder_b71 at h
  refine r_iadd hR dX9_bestOrder_71 ?_
  obtain ⟨x6_72, hx, h⟩ := bn_some h
  refine r_istore hR (i := 6) (lv' := [(6, .int x6_72), (0, .ref (ad 0)), (1, .int x1), (2, .int x2), (3, .int x3), (4, .int x4), (5, .int x5)]) dX9_bestOrder_72 hx (by decide) rfl ?_
  refine r_iload_n hR dX9_bestOrder_74 rfl 4 rfl ?_
  refine r_iconst hR dX9_bestOrder_75 kc_iconst_m1 ?_
  refine r_icmp_ne hR (tgt := 83) dX9_bestOrder_76 (by decide) (fun c_76 => ?_) (fun c_76 => ?_)
  · replace h := it_f c_76 h
    refine r_iload hR dX9_bestOrder_83 0 rfl ?_
    refine r_aload_n hR dX9_bestOrder_85 rfl 1 rfl ?_
    refine g_X9_wishedCost hR m_4_153 dX9_bestOrder_86 ?_
    refine r_isub hR dX9_bestOrder_89 ?_
    exact r_sub hR [1, 2, 3, 4, 5, 6, 0] rfl (t9_bestOrder_b90 hR N hP bk10 hbk10 _ _ _ _ _ _ _ _ h)
  · replace h := it_t c_76 h
    refine r_iconst hR dX9_bestOrder_79 kc_iconst_m1 ?_
    refine r_goto hR (tgt := 90) dX9_bestOrder_80 (by decide) ?_
    exact r_sub hR [1, 2, 3, 4, 5, 6, 0] rfl (t9_bestOrder_b90 hR N hP bk10 hbk10 _ _ _ _ _ _ _ _ h)
theorem t9_bestOrder_b57 (hR : Rl wM 3 RX9 cX9_bestOrder 9 (some .int) ad J P) (N : Nat) {r : Int32} {q2 : SS} (hP : P (some (.int r)) q2) (bk10 : Int32 → Int32 → Int32 → Int32 → SS → Option (Int32 × SS)) (hbk10 : ∀ (x1 : Int32) (x2 : Int32) (x3 : Int32) (x4 : Int32) (q : SS), bk10 x1 x2 x3 x4 q = some (r, q2) → J [(0, .ref (ad 0)), (1, .int x1), (2, .int x2), (3, .int x3), (4, .int x4)] [] q 10) (x1 : Int32) (x2 : Int32) (x3 : Int32) (x4 : Int32) (x5 : Int32) (s0 : Int32) (q : SS) (h : f9_bestOrder_b57 N bk10 x1 x2 x3 x4 x5 s0 q = some (r, q2)) : J [(0, .ref (ad 0)), (1, .int x1), (2, .int x2), (3, .int x3), (4, .int x4), (5, .int x5)] [.int s0] q 57 := by
  unfold f9_bestOrder_b57 at h
  refine r_iconst hR dX9_bestOrder_57 kc_iconst_0 ?_
  refine r_goto hR (tgt := 71) dX9_bestOrder_58 (by decide) ?_
  exact r_sub hR [0, 1, 2, 3, 4, 5] rfl (t9_bestOrder_b71 hR N hP bk10 hbk10 _ _ _ _ _ _ _ _ h)
theorem t9_bestOrder_l10_B (hR : Rl wM 3 RX9 cX9_bestOrder 9 (some .int) ad J P) (N : Nat) {r : Int32} {q2 : SS} (hP : P (some (.int r)) q2) (bk10 : Int32 → Int32 → Int32 → Int32 → SS → Option (Int32 × SS)) (hbk10 : ∀ (x1 : Int32) (x2 : Int32) (x3 : Int32) (x4 : Int32) (q : SS), bk10 x1 x2 x3 x4 q = some (r, q2) → J [(0, .ref (ad 0)), (1, .int x1), (2, .int x2), (3, .int x3), (4, .int x4)] [] q 10) (x1 : Int32) (x2 : Int32) (x3 : Int32) (x4 : Int32) (q : SS) (h : f9_bestOrder_l10_B N bk10 x1 x2 x3 x4 q = some (r, q2)) : J [(0, .ref (ad 0)), (1, .int x1), (2, .int x2), (3, .int x3), (4, .int x4)] [] q 10 := by
  unfold f9_bestOrder_l10_B at h
  refine r_iload hR dX9_bestOrder_10 4 rfl ?_
  refine r_bipush hR dX9_bestOrder_12 kc_bipush_9 ?_
  refine r_icmp_ge hR (tgt := 184) dX9_bestOrder_14 (by decide) (fun c_14 => ?_) (fun c_14 => ?_)
  · replace h := it_t c_14 h
    refine r_iload_n hR dX9_bestOrder_184 rfl 3 rfl ?_
    exact r_iret hR dX9_bestOrder_185 rfl (rt2 hP h)
  · replace h := it_f c_14 h
    refine r_bipush hR dX9_bestOrder_17 kc_bipush_9 ?_
    refine r_iload_n hR dX9_bestOrder_19 rfl 1 rfl ?_
    refine r_imul hR dX9_bestOrder_20 ?_
    refine r_iload hR dX9_bestOrder_21 4 rfl ?_
    refine r_iadd hR dX9_bestOrder_23 ?_
    obtain ⟨x5_24, hx, h⟩ := bn_some h
    refine r_istore hR (i := 5) (lv' := [(5, .int x5_24), (0, .ref (ad 0)), (1, .int x1), (2, .int x2), (3, .int x3), (4, .int x4)]) dX9_bestOrder_24 hx (by decide) rfl ?_
    refine r_aload_n hR dX9_bestOrder_26 rfl 1 rfl ?_
    refine g_X9_bestCosts hR m_4_149 dX9_bestOrder_27 ?_
    refine r_iload hR dX9_bestOrder_30 0 rfl ?_
    obtain ⟨hin, h⟩ := ck_some h
    refine ld_X9_bestCosts hR dX9_bestOrder_32 hin ?_
    refine r_iconst hR dX9_bestOrder_33 kc_iconst_m1 ?_
    refine r_icmp_eq hR (tgt := 178) dX9_bestOrder_34 (by decide) (fun c_34 => ?_) (fun c_34 => ?_)
    · replace h := it_t c_34 h
      exact r_sub hR [1, 2, 3, 4, 5] rfl (t9_bestOrder_b178 hR N hP bk10 hbk10 _ _ _ _ _ h)
    · replace h := it_f c_34 h
      refine r_aload_n hR dX9_bestOrder_37 rfl 1 rfl ?_
      refine g_X9_bestCosts hR m_4_149 dX9_bestOrder_38 ?_
      refine r_iload hR dX9_bestOrder_41 0 rfl ?_
      obtain ⟨hin, h⟩ := ck_some h
      refine ld_X9_bestCosts hR dX9_bestOrder_43 hin ?_
      refine r_iload_n hR dX9_bestOrder_44 rfl 3 rfl ?_
      refine r_iconst hR dX9_bestOrder_45 kc_iconst_m1 ?_
      refine r_icmp_eq hR (tgt := 57) dX9_bestOrder_46 (by decide) (fun c_46 => ?_) (fun c_46 => ?_)
      · replace h := it_t c_46 h
        exact r_sub hR [1, 2, 3, 4, 5, 0] rfl (t9_bestOrder_b57 hR N hP bk10 hbk10 _ _ _ _ _ _ _ h)
      · replace h := it_f c_46 h
        refine r_iload hR dX9_bestOrder_49 5 rfl ?_
        refine r_iload_n hR dX9_bestOrder_51 rfl 3 rfl ?_
        refine r_iconst hR dX9_bestOrder_52 kc_iconst_1 ?_
        refine r_iadd hR dX9_bestOrder_53 ?_
        refine r_icmp_ne hR (tgt := 61) dX9_bestOrder_54 (by decide) (fun c_54 => ?_) (fun c_54 => ?_)
        · replace h := it_f c_54 h
          refine r_aload_n hR dX9_bestOrder_61 rfl 1 rfl ?_
          refine r_aload_n hR dX9_bestOrder_62 rfl 1 rfl ?_
          refine g_X9_pagesNow hR m_4_141 dX9_bestOrder_63 ?_
          refine r_iload_n hR dX9_bestOrder_66 rfl 2 rfl ?_
          obtain ⟨hin, h⟩ := ck_some h
          refine ld_X9_pagesNow hR dX9_bestOrder_67 hin ?_
          obtain ⟨r_68, hc, h⟩ := bd_some h
          refine r_callVi hR (c9_sorting N hc) (cf_X9_236 (by decide)) ⟨m_5_212, ms_5_3⟩ (As := [.int (ar q 13 (ix x1))]) (q0 := 0) (ci := 7) rfl rfl rfl rfl (rc_X9 ad _) (Nat.le_of_ble_eq_true rfl) rfl dX9_bestOrder_68 ?_
          exact r_sub hR [1, 2, 3, 4, 5, 0] rfl (t9_bestOrder_b71 hR N hP bk10 hbk10 _ _ _ _ _ _ _ _ h)
        · replace h := it_t c_54 h
          exact r_sub hR [1, 2, 3, 4, 5, 0] rfl (t9_bestOrder_b57 hR N hP bk10 hbk10 _ _ _ _ _ _ _ h)
theorem t9_bestOrder_l10 (hR : Rl wM 3 RX9 cX9_bestOrder 9 (some .int) ad J P) (N : Nat) {r : Int32} {q2 : SS} (hP : P (some (.int r)) q2) : ∀ (n : Nat) (x1 : Int32) (x2 : Int32) (x3 : Int32) (x4 : Int32) (q : SS), f9_bestOrder_l10 N n x1 x2 x3 x4 q = some (r, q2) → J [(0, .ref (ad 0)), (1, .int x1), (2, .int x2), (3, .int x3), (4, .int x4)] [] q 10 := by
  intro n
  induction n with
  | zero => intro x1 x2 x3 x4 q h; exact mu_noneF h
  | succ n ih => intro x1 x2 x3 x4 q h; exact t9_bestOrder_l10_B hR N hP _ ih x1 x2 x3 x4 q h
theorem t9_bestOrder (hR : Rl wM 3 RX9 cX9_bestOrder 9 (some .int) ad J P) (N : Nat) {r : Int32} {q2 : SS} (hP : P (some (.int r)) q2) (x1 : Int32) (x2 : Int32) (q : SS) (h : f9_bestOrder N x1 x2 q = some (r, q2)) : J [(0, .ref (ad 0)), (1, .int x1), (2, .int x2)] [] q 0 := by
  unfold f9_bestOrder at h
  refine r_iconst hR dX9_bestOrder_0 kc_iconst_m1 ?_
  refine r_istore_n hR (i := 3) (lv' := [(3, .int (-1 : Int32)), (0, .ref (ad 0)), (1, .int x1), (2, .int x2)]) dX9_bestOrder_1 rfl rfl (by decide) rfl ?_
  refine r_aload_n hR dX9_bestOrder_2 rfl 1 rfl ?_
  refine r_iconst hR dX9_bestOrder_3 kc_iconst_0 ?_
  obtain ⟨q_4, hq, h⟩ := bn_some h
  refine p_X9_wishedCost hR m_4_153 dX9_bestOrder_4 hq ?_
  refine r_iconst hR dX9_bestOrder_7 kc_iconst_0 ?_
  refine r_istore hR (i := 4) (lv' := [(4, .int (0 : Int32)), (3, .int (-1 : Int32)), (0, .ref (ad 0)), (1, .int x1), (2, .int x2)]) dX9_bestOrder_8 rfl (by decide) rfl ?_
  exact r_sub hR [2, 3, 4, 1, 0] rfl (t9_bestOrder_l10 hR N hP N _ _ _ _ _ h)
theorem c9_bestOrder (N : Nat) {x1 : Int32} {x2 : Int32} {q : SS} {r : Int32} {q2 : SS} (h : f9_bestOrder N x1 x2 q = some (r, q2)) : Ct wM 3 yX9_bestOrder cX9_bestOrder 9 (some .int) (fun ad => [.ref (ad 0), .int x1, .int x2]) q (fun _ => some (.int r)) q2 :=
  ct_of (by decide) (fun _ => Nat.le_of_ble_eq_true rfl) (fun ad J hR => t9_bestOrder hR N ⟨rfl, rfl⟩ x1 x2 q h)
theorem t9_isAsked (hR : Rl wM 3 RX9 cX9_isAsked 5 (some .boolean) ad J P) (q : SS) {r : Int32} (hP : P (some (.int r)) q) (x1 : Int32) (x2 : Int32) (x3 : Int32) (x4 : Int32) (h : f9_isAsked q x1 x2 x3 x4 = some r) : J [(0, .ref (ad 0)), (1, .int x1), (2, .int x2), (3, .int x3), (4, .int x4)] [] q 0 := by
  unfold f9_isAsked at h
  refine r_aload_n hR dX9_isAsked_0 rfl 0 rfl ?_
  refine r_iload_n hR dX9_isAsked_1 rfl 1 rfl ?_
  obtain ⟨r_2, hc, h⟩ := bd_some h
  refine r_callVi hR (c9_isSet hc) (cf_X9_186 (by decide)) ⟨m_5_94, ms_3_14⟩ (As := [.int x1]) (q0 := 0) (ci := 7) rfl rfl rfl rfl (rc_X9 ad _) (Nat.le_of_ble_eq_true rfl) rfl dX9_isAsked_2 ?_
  refine r_if_eq hR (tgt := 47) dX9_isAsked_5 (by decide) (fun c_5 => ?_) (fun c_5 => ?_)
  · replace h := it_t c_5 h
    refine r_iconst hR dX9_isAsked_47 kc_iconst_0 ?_
    exact r_zret hR dX9_isAsked_48 rfl (Or.inl rfl) (rt1 hP h)
  · replace h := it_f c_5 h
    refine r_iload_n hR dX9_isAsked_8 rfl 2 rfl ?_
    refine r_i2l hR dX9_isAsked_9 ?_
    refine r_lconst hR dX9_isAsked_10 kc_lconst_0 ?_
    refine r_lconst hR dX9_isAsked_11 kc_lconst_1 ?_
    obtain ⟨r_12, hc, h⟩ := bd_some h
    refine r_callSi hR (c9_in hc) (cf_X9_92 (by decide)) m_5_6 (As := [.long (Int32.toInt64 x2), .long (0 : Int64), .long (1 : Int64)]) rfl rfl (Nat.le_of_ble_eq_true rfl) rfl dX9_isAsked_12 ?_
    refine r_if_eq hR (tgt := 47) dX9_isAsked_15 (by decide) (fun c_15 => ?_) (fun c_15 => ?_)
    · replace h := it_t c_15 h
      refine r_iconst hR dX9_isAsked_47 kc_iconst_0 ?_
      exact r_zret hR dX9_isAsked_48 rfl (Or.inl rfl) (rt1 hP h)
    · replace h := it_f c_15 h
      refine r_iload_n hR dX9_isAsked_18 rfl 3 rfl ?_
      refine r_i2l hR dX9_isAsked_19 ?_
      refine r_lconst hR dX9_isAsked_20 kc_lconst_0 ?_
      refine r_lconst hR dX9_isAsked_21 kc_lconst_1 ?_
      obtain ⟨r_22, hc, h⟩ := bd_some h
      refine r_callSi hR (c9_in hc) (cf_X9_92 (by decide)) m_5_6 (As := [.long (Int32.toInt64 x3), .long (0 : Int64), .long (1 : Int64)]) rfl rfl (Nat.le_of_ble_eq_true rfl) rfl dX9_isAsked_22 ?_
      refine r_if_eq hR (tgt := 47) dX9_isAsked_25 (by decide) (fun c_25 => ?_) (fun c_25 => ?_)
      · replace h := it_t c_25 h
        refine r_iconst hR dX9_isAsked_47 kc_iconst_0 ?_
        exact r_zret hR dX9_isAsked_48 rfl (Or.inl rfl) (rt1 hP h)
      · replace h := it_f c_25 h
        refine r_iload hR dX9_isAsked_28 4 rfl ?_
        refine r_i2l hR dX9_isAsked_30 ?_
        refine r_ldc2 hR dX9_isAsked_31 m_5_226 ?_
        refine r_ldc2 hR dX9_isAsked_34 m_5_55 ?_
        obtain ⟨r_37, hc, h⟩ := bd_some h
        refine r_callSi hR (c9_in hc) (cf_X9_92 (by decide)) m_5_6 (As := [.long (Int32.toInt64 x4), .long (-1 : Int64), .long (7 : Int64)]) rfl rfl (Nat.le_of_ble_eq_true rfl) rfl dX9_isAsked_37 ?_
        refine r_if_eq hR (tgt := 47) dX9_isAsked_40 (by decide) (fun c_40 => ?_) (fun c_40 => ?_)
        · replace h := it_t c_40 h
          refine r_iconst hR dX9_isAsked_47 kc_iconst_0 ?_
          exact r_zret hR dX9_isAsked_48 rfl (Or.inl rfl) (rt1 hP h)
        · replace h := it_f c_40 h
          refine r_iconst hR dX9_isAsked_43 kc_iconst_1 ?_
          refine r_goto hR (tgt := 48) dX9_isAsked_44 (by decide) ?_
          exact r_zret hR dX9_isAsked_48 rfl (Or.inr rfl) (rt1 hP h)
theorem c9_isAsked {x1 : Int32} {x2 : Int32} {x3 : Int32} {x4 : Int32} {q : SS} {r : Int32} (h : f9_isAsked q x1 x2 x3 x4 = some r) : Ct wM 3 yX9_isAsked cX9_isAsked 5 (some .boolean) (fun ad => [.ref (ad 0), .int x1, .int x2, .int x3, .int x4]) q (fun _ => some (.int r)) q :=
  ct_of (by decide) (fun _ => Nat.le_of_ble_eq_true rfl) (fun ad J hR => t9_isAsked hR q ⟨rfl, rfl⟩ x1 x2 x3 x4 h)
end
