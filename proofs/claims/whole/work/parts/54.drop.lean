/-! drop -/
theorem loop_st {α β : Type} (f : Nat → α → Option β) (B : (α → Option β) → α → Option β) (hf : ∀ n s, f (n + 1) s = B (f n) s) (s : Nat → SS → α) (I : Nat → SS → Prop) (c b : Nat) (r : SS → Option β)
    (hstep : ∀ i q, c ≤ i → i < b → I i q → ∃ q', I (i + 1) q' ∧ ∀ k, B k (s i q) = k (s (i + 1) q')) (hend : ∀ q, I b q → ∀ k, B k (s b q) = r q) : ∀ (n a : Nat) (q : SS), c ≤ a → a ≤ b → b - a < n → I a q → ∃ q', I b q' ∧ f n (s a q) = r q' := by
  intro n
  induction n with
  | zero => intro a _ _ _ h; omega
  | succ n ih =>
    intro a q hc ha hn hI
    by_cases h : a = b
    · subst h; exact ⟨q, hI, by rw [hf]; exact hend q hI _⟩
    · obtain ⟨q', h1, h2⟩ := hstep a q hc (by omega) hI
      obtain ⟨q'', h3, h4⟩ := ih (a + 1) q' (by omega) (by omega) (by omega) h1
      exact ⟨q'', h3, by rw [hf, h2]; exact h4⟩
theorem loop_bk {K α β : Type} (f : K → Nat → α → Option β) (B : K → (α → Option β) → α → Option β) (hf : ∀ bk n s, f bk (n + 1) s = B bk (f bk n) s) (s : Nat → SS → α) (I : Nat → SS → Prop) (c b : Nat) (r : K → SS → Option β)
    (hstep : ∀ i q, c ≤ i → i < b → I i q → ∃ q', I (i + 1) q' ∧ ∀ bk k, B bk k (s i q) = k (s (i + 1) q')) (hend : ∀ q, I b q → ∀ bk k, B bk k (s b q) = r bk q) : ∀ (n a : Nat) (q : SS), c ≤ a → a ≤ b → b - a < n → I a q → ∃ q', I b q' ∧ ∀ bk, f bk n (s a q) = r bk q' := by
  intro n
  induction n with
  | zero => intro a _ _ _ h; omega
  | succ n ih =>
    intro a q hc ha hn hI
    by_cases h : a = b
    · subst h; exact ⟨q, hI, fun bk => by rw [hf]; exact hend q hI _ _⟩
    · obtain ⟨q', h1, h2⟩ := hstep a q hc (by omega) hI
      obtain ⟨q'', h3, h4⟩ := ih (a + 1) q' (by omega) (by omega) (by omega) h1
      exact ⟨q'', h3, fun bk => by rw [hf, h2]; exact h4 bk⟩
section Drop
variable {N : Nat} {d : DB} {q : SS}
def dropR (d : DB) (t i : Nat) : DB := setRows d t (dR d t - 1) (fun j l => dV d t (if j < i then j else j + 1) l)
theorem WF_drop (hw : WF d) {t i : Nat} (ht : t < dT d) : WF (dropR d t i) := WF_rows hw ht (by have := (hw.2.1 t ht).2.2.2.2.2; omega) (fun j l => hw.2.2.2.1 t _ l)
theorem c_drop (hw : WF d) (h : RC d q) {t i : Nat} (hN : 1000 ≤ N) (ht : t < dT d) (hi : i < dR d t) : ∃ q', f7_dropRow N (nI t) (nI i) q = some (nI (dR d t - 1), q') ∧ RC (dropR d t i) q' := by
  have hT := hw.1
  have hR := (hw.2.1 t ht).2.2.2.2.2
  have h9 := h.2.2.2.2.2.2.1 t (by omega)
  obtain ⟨q', ⟨hf, ha, h10⟩, hrun⟩ := loop_st (fun n (p : Int32 × Int32 × SS) => f7_dropRow_l19 N n p.1 p.2.1 p.2.2) (fun k p => f7_dropRow_l19_B N (fun x1 x2 x3 => k (x1, x2, x3)) p.1 p.2.1 p.2.2) (fun n p => rfl) (fun k q => (nI t, nI k, q)) (fun k q1 => (∀ j, fi q1 j = fi q j) ∧ (∀ j, j ≠ 10 → ar q1 j = ar q j) ∧ ∀ m, ar q1 10 m = if 8 * t + i ≤ m ∧ m + 1 < 8 * t + k then ar q 10 (m + 1) else ar q 10 m) (i + 1) (dR d t) (fun q1 => some (nI (dR d t - 1), sa q1 9 t (nI (dR d t - 1)))) (by
    rintro k q1 hc hk ⟨hf, ha, h10⟩
    have e9 : ar q1 9 t = nI (dR d t) := by rw [ha 9 (by decide)]; exact h9
    refine ⟨sa q1 10 (8 * t + k - 1) (ar q 10 (8 * t + k)), ⟨fun j => hf j, fun j hj => ?_, fun m => ?_⟩, fun kk => ?_⟩
    · funext m
      rw [ar_sa, if_neg hj, ha j hj]
    · rw [ar_sa, if_pos rfl]
      by_cases hm : m = 8 * t + k - 1
      · rw [if_pos hm, if_pos (by omega), hm, show 8 * t + k - 1 + 1 = 8 * t + k by omega]
      · rw [if_neg hm, h10]
        by_cases hm2 : 8 * t + i ≤ m ∧ m + 1 < 8 * t + k
        · rw [if_pos hm2, if_pos (by omega)]
        · rw [if_neg hm2, if_neg (by omega)]
    · have e10 : ar q1 10 (8 * t + k) = ar q 10 (8 * t + k) := by rw [h10, if_neg (by omega)]
      dsimp only
      unfold f7_dropRow_l19_B
      simp (disch := omega) only [bd_s, bd2_s, bn_e, ck_nI, dz_nI, cz_0, cz_1, ix_nI, le_t, le_f, lt_t, lt_f, eq_t, eq_f, if_true, if_false, nI_add, pk_sub, pk_mul, pk_div, e9, Nat.mul_comm t 8, e10, li0, li1, li2, li3, li4, li5, li6, li7, li8, li9, li10, li12, li15, li16, li20, li21, li24, li31, li32, li40, li41, li48, li53, li55, li56, li57, li63, li64, li100, li108, li112, li115, li126, li127, li255, li256, li576, li384]) (by
    rintro q1 ⟨hf, ha, h10⟩ k
    have e9 : ar q1 9 t = nI (dR d t) := by rw [ha 9 (by decide)]; exact h9
    dsimp only
    unfold f7_dropRow_l19_B
    simp (disch := omega) only [bd_s, bd2_s, bn_e, ck_nI, dz_nI, cz_0, cz_1, ix_nI, le_t, le_f, lt_t, lt_f, eq_t, eq_f, if_true, if_false, nI_add, pk_sub, pk_mul, pk_div, e9, ar_sa, li0, li1, li2, li3, li4, li5, li6, li7, li8, li9, li10, li12, li15, li16, li20, li21, li24, li31, li32, li40, li41, li48, li53, li55, li56, li57, li63, li64, li100, li108, li112, li115, li126, li127, li255, li256, li576, li384]) N (i + 1) q (by omega) (by omega) (by omega) ⟨fun _ => rfl, fun _ _ => rfl, fun m => by rw [if_neg (by omega)]⟩
  refine ⟨sa q' 9 t (nI (dR d t - 1)), ?_, ?_⟩
  · unfold f7_dropRow
    simp (disch := omega) only [bd_s, bd2_s, bn_e, ck_nI, dz_nI, cz_0, cz_1, ix_nI, le_t, le_f, lt_t, lt_f, eq_t, eq_f, if_true, if_false, nI_add, pk_sub, pk_mul, pk_div, c_holdsRow hw h ht hi, li0, li1, li2, li3, li4, li5, li6, li7, li8, li9, li10, li12, li15, li16, li20, li21, li24, li31, li32, li40, li41, li48, li53, li55, li56, li57, li63, li64, li100, li108, li112, li115, li126, li127, li255, li256, li576, li384]
    exact hrun
  · refine RC_rows hw h ht (fun k _ => hf k) (fun k hk => ?_) (fun u hu => ?_) (fun u j hu hne hj => ?_) (fun j hj => ?_)
    · funext m
      rw [ar_sa, if_neg (by omega), ha k (by omega)]
    · rw [ar_sa, if_pos rfl, ha 9 (by decide)]
    · rw [ar_sa, if_neg (by decide), h10, if_neg]
      rcases Nat.lt_or_ge u t with z | z <;> omega
    · rw [ar_sa, if_neg (by decide), h10]
      have hc := h.2.2.2.2.2.2.2.1
      by_cases hji : j < i
      · rw [if_neg (by omega), hc t j ht (by omega)]
        simp only [hji, if_true]
        rfl
      · rw [if_pos (by omega), show 8 * t + j + 1 = 8 * t + (j + 1) by omega, hc t (j + 1) ht (by omega)]
        simp only [hji, if_false]
        rfl
theorem m_drop (hw : WF d) (h : RMk d q) {t i : Nat} (hN : 1000 ≤ N) (ht : t < dT d) (hi : i < dR d t) : ∃ q', f9_drop N (nI t) (nI i) q = some (nI (dR d t - 1), q') ∧ RMk (dropR d t i) q' ∧ fi q' 3 = 0 := by
  have hT := hw.1
  have hR := (hw.2.1 t ht).2.2.2.2.2
  have h3 := h.2.2.2.2.2.2.1 t (by omega)
  obtain ⟨q0, hq0⟩ : ∃ q0, q0 = sa q 3 t (nI (dR d t - 1)) := ⟨_, rfl⟩
  obtain ⟨q', ⟨hf, ha, h4⟩, hrun⟩ := loop_st (fun n (p : Int32 × Int32 × SS) => f9_drop_l24 N n p.1 p.2.1 p.2.2) (fun k p => f9_drop_l24_B N (fun x1 x2 x3 => k (x1, x2, x3)) p.1 p.2.1 p.2.2) (fun n p => rfl) (fun k q => (nI t, nI k, q)) (fun k q1 => (∀ j, fi q1 j = fi q0 j) ∧ (∀ j, j ≠ 4 → ar q1 j = ar q0 j) ∧ ∀ m, ar q1 4 m = if 64 * t + 8 * i ≤ m ∧ m < 64 * t + 8 * k then ar q 4 (m + 8) else ar q 4 m) i (dR d t - 1) (fun q1 => some (nI (dR d t - 1), sf q1 3 0)) (by
    rintro k q1 hc hk ⟨hf, ha, h4⟩
    have e3 : ar q1 3 t = nI (dR d t - 1) := by rw [ha 3 (by decide), hq0, ar_sa, if_pos rfl, if_pos rfl]
    have inner : ∃ q2, ((∀ j, fi q2 j = fi q0 j) ∧ (∀ j, j ≠ 4 → ar q2 j = ar q0 j) ∧ ∀ m, ar q2 4 m = if 64 * t + 8 * i ≤ m ∧ m < 64 * t + 8 * k + 8 then ar q 4 (m + 8) else ar q 4 m) ∧ ∀ bk, f9_drop_l37 N bk N (nI t) (nI k) (nI 0) q1 = bk (nI t) (nI (k + 1)) q2 :=
      loop_bk (fun bk n (p : Int32 × Int32 × Int32 × SS) => f9_drop_l37 N bk n p.1 p.2.1 p.2.2.1 p.2.2.2) (fun bk k p => f9_drop_l37_B N bk (fun x1 x2 x3 x4 => k (x1, x2, x3, x4)) p.1 p.2.1 p.2.2.1 p.2.2.2) (fun bk n p => rfl) (fun l q => (nI t, nI k, nI l, q)) (fun l q1 => (∀ j, fi q1 j = fi q0 j) ∧ (∀ j, j ≠ 4 → ar q1 j = ar q0 j) ∧ ∀ m, ar q1 4 m = if 64 * t + 8 * i ≤ m ∧ m < 64 * t + 8 * k + l then ar q 4 (m + 8) else ar q 4 m) 0 8 (fun bk q1 => bk (nI t) (nI (k + 1)) q1) (by
        rintro l q2 - hl ⟨hf, ha, h4⟩
        refine ⟨sa q2 4 (64 * t + 8 * k + l) (ar q 4 (64 * t + 8 * k + 8 + l)), ⟨fun j => hf j, fun j hj => ?_, fun m => ?_⟩, fun bk kk => ?_⟩
        · funext m
          rw [ar_sa, if_neg hj, ha j hj]
        · rw [ar_sa, if_pos rfl]
          by_cases hm : m = 64 * t + 8 * k + l
          · rw [if_pos hm, if_pos (by omega), hm, show 64 * t + 8 * k + l + 8 = 64 * t + 8 * k + 8 + l by omega]
          · rw [if_neg hm, h4]
            by_cases hm2 : 64 * t + 8 * i ≤ m ∧ m < 64 * t + 8 * k + l
            · rw [if_pos hm2, if_pos (by omega)]
            · rw [if_neg hm2, if_neg (by omega)]
        · have e4 : ar q2 4 (64 * t + 8 * k + 8 + l) = ar q 4 (64 * t + 8 * k + 8 + l) := by rw [h4, if_neg (by omega)]
          dsimp only
          unfold f9_drop_l37_B
          simp (disch := omega) only [bd_s, bd2_s, bn_e, ck_nI, dz_nI, cz_0, cz_1, ix_nI, le_t, le_f, lt_t, lt_f, eq_t, eq_f, if_true, if_false, nI_add, pk_sub, pk_mul, pk_div, e4, li0, li1, li2, li3, li4, li5, li6, li7, li8, li9, li10, li12, li15, li16, li20, li21, li24, li31, li32, li40, li41, li48, li53, li55, li56, li57, li63, li64, li100, li108, li112, li115, li126, li127, li255, li256, li576, li384]) (by
        rintro q2 - bk kk
        dsimp only
        unfold f9_drop_l37_B
        simp (disch := omega) only [bd_s, bd2_s, bn_e, ck_nI, dz_nI, cz_0, cz_1, ix_nI, le_t, le_f, lt_t, lt_f, eq_t, eq_f, if_true, if_false, nI_add, pk_sub, pk_mul, pk_div, li0, li1, li2, li3, li4, li5, li6, li7, li8, li9, li10, li12, li15, li16, li20, li21, li24, li31, li32, li40, li41, li48, li53, li55, li56, li57, li63, li64, li100, li108, li112, li115, li126, li127, li255, li256, li576, li384]) N 0 q1 (by omega) (by omega) (by omega) ⟨hf, ha, h4⟩
    obtain ⟨q2, g1, g2⟩ := inner
    refine ⟨q2, g1, fun kk => ?_⟩
    dsimp only
    unfold f9_drop_l24_B
    rw [ck_nI (by omega) (by decide), ix_nI (by omega), e3, if_neg (nI_ge (by omega) (by omega))]
    exact g2 _) (by
    rintro q1 ⟨hf, ha, h4⟩ k
    have e3 : ar q1 3 t = nI (dR d t - 1) := by rw [ha 3 (by decide), hq0, ar_sa, if_pos rfl, if_pos rfl]
    dsimp only
    unfold f9_drop_l24_B
    simp (disch := omega) only [bd_s, bd2_s, bn_e, ck_nI, dz_nI, cz_0, cz_1, ix_nI, le_t, le_f, lt_t, lt_f, eq_t, eq_f, if_true, if_false, nI_add, pk_sub, pk_mul, pk_div, e3, ar_sf, li0, li1, li2, li3, li4, li5, li6, li7, li8, li9, li10, li12, li15, li16, li20, li21, li24, li31, li32, li40, li41, li48, li53, li55, li56, li57, li63, li64, li100, li108, li112, li115, li126, li127, li255, li256, li576, li384]) N i q0 (by omega) (by omega) (by omega) ⟨fun _ => rfl, fun _ _ => rfl, fun m => by rw [if_neg (by omega), hq0, ar_sa, if_neg (by decide)]⟩
  refine ⟨sf q' 3 0, ?_, ?_, rfl⟩
  · unfold f9_drop
    simp (disch := omega) only [bd_s, bd2_s, bn_e, ck_nI, dz_nI, cz_0, cz_1, ix_nI, le_t, le_f, lt_t, lt_f, eq_t, eq_f, if_true, if_false, nI_add, pk_sub, pk_mul, pk_div, m_isRow hw h ht hi, h3, li0, li1, li2, li3, li4, li5, li6, li7, li8, li9, li10, li12, li15, li16, li20, li21, li24, li31, li32, li40, li41, li48, li53, li55, li56, li57, li63, li64, li100, li108, li112, li115, li126, li127, li255, li256, li576, li384]
    rw [← hq0]
    exact hrun
  · refine RM_rows hw h ht (fun k hk => ?_) (fun k hk => ?_) (fun u hu => ?_) (fun u j l hu hne hj hl => ?_) (fun j l hj hl hb => ?_)
    · rw [fi_sf, if_neg (by omega), hf, hq0, fi_sa]
    · rw [ar_sf, ha k (by omega), hq0]
      funext m
      rw [ar_sa, if_neg (by omega)]
    · rw [ar_sf, ha 3 (by decide), hq0, ar_sa, if_pos rfl]
    · rw [ar_sf, h4, if_neg]
      rcases Nat.lt_or_ge u t with z | z <;> omega
    · rw [ar_sf, h4]
      by_cases hji : j < i
      · rw [if_neg (by omega), m_addr hw h ht (by omega) hl hb]
        simp only [hji, if_true]
      · rw [if_pos (by omega), show 64 * t + 8 * j + l + 8 = 64 * t + 8 * (j + 1) + l by omega, m_addr hw h ht (by omega) hl hb]
        simp only [hji, if_false]
theorem op_drop (hN : 1000 ≤ N) : Op_drop N Sim := by
  rintro a b qC qM ⟨d, hw, hC, hM, hH⟩
  have hT := hw.1
  rcases tcase a (n := dT d) (by omega) with ⟨t, ht, rfl⟩ | ha
  · have hR := (hw.2.1 t ht).2.2.2.2.2
    rcases tcase b (n := dR d t) (by omega) with ⟨i, hi, rfl⟩ | hb
    · obtain ⟨qC', g1, g2⟩ := c_drop hw hC hN ht hi
      obtain ⟨qM', k1, k2, k3⟩ := m_drop hw hM hN ht hi
      refine ⟨_, qC', qM', ?_, k1, dropR d t i, WF_drop hw ht, g2, k2, Or.inl k3⟩
      unfold f8_drop
      simp (disch := omega) only [bd_s, bd2_s, bn_e, ck_nI, dz_nI, cz_0, cz_1, ix_nI, le_t, le_f, lt_t, lt_f, eq_t, eq_f, if_true, if_false, nI_add, pk_sub, pk_mul, pk_div, c_holdsRow hw hC ht hi, g1, li0, li1, li2, li3, li4, li5, li6, li7, li8, li9, li10, li12, li15, li16, li20, li21, li24, li31, li32, li40, li41, li48, li53, li55, li56, li57, li63, li64, li100, li108, li112, li115, li126, li127, li255, li256, li576, li384]
    · refine ⟨-101, _, _, ?_, ?_, d, hw, hC, hM, hH⟩
      · unfold f8_drop
        simp (disch := omega) only [bd_s, bd2_s, bn_e, ck_nI, dz_nI, cz_0, cz_1, ix_nI, le_t, le_f, lt_t, lt_f, eq_t, eq_f, if_true, if_false, nI_add, pk_sub, pk_mul, pk_div, c_holdsRow_f hw hC ht hb, li0, li1, li2, li3, li4, li5, li6, li7, li8, li9, li10, li12, li15, li16, li20, li21, li24, li31, li32, li40, li41, li48, li53, li55, li56, li57, li63, li64, li100, li108, li112, li115, li126, li127, li255, li256, li576, li384]
      · unfold f9_drop
        simp (disch := omega) only [bd_s, bd2_s, bn_e, ck_nI, dz_nI, cz_0, cz_1, ix_nI, le_t, le_f, lt_t, lt_f, eq_t, eq_f, if_true, if_false, nI_add, pk_sub, pk_mul, pk_div, m_isRow_f hw hM ht hb, li0, li1, li2, li3, li4, li5, li6, li7, li8, li9, li10, li12, li15, li16, li20, li21, li24, li31, li32, li40, li41, li48, li53, li55, li56, li57, li63, li64, li100, li108, li112, li115, li126, li127, li255, li256, li576, li384]
  · refine ⟨-101, _, _, ?_, ?_, d, hw, hC, hM, hH⟩
    · unfold f8_drop
      simp (disch := omega) only [bd_s, bd2_s, bn_e, ck_nI, dz_nI, cz_0, cz_1, ix_nI, le_t, le_f, lt_t, lt_f, eq_t, eq_f, if_true, if_false, nI_add, pk_sub, pk_mul, pk_div, c_holdsRow_g hC ha, li0, li1, li2, li3, li4, li5, li6, li7, li8, li9, li10, li12, li15, li16, li20, li21, li24, li31, li32, li40, li41, li48, li53, li55, li56, li57, li63, li64, li100, li108, li112, li115, li126, li127, li255, li256, li576, li384]
    · unfold f9_drop
      simp (disch := omega) only [bd_s, bd2_s, bn_e, ck_nI, dz_nI, cz_0, cz_1, ix_nI, le_t, le_f, lt_t, lt_f, eq_t, eq_f, if_true, if_false, nI_add, pk_sub, pk_mul, pk_div, m_isRow_g hw hM ha, li0, li1, li2, li3, li4, li5, li6, li7, li8, li9, li10, li12, li15, li16, li20, li21, li24, li31, li32, li40, li41, li48, li53, li55, li56, li57, li63, li64, li100, li108, li112, li115, li126, li127, li255, li256, li576, li384]
end Drop
