/-! digest -/
section Digest
variable {N : Nat} {d : DB}
def dg31 (g : Nat → Int32) (x : Int64) : Nat → Int64
  | 0 => x
  | k + 1 => 31 * dg31 g x k + (g k).toInt64
/-- letters of a row -/
def dgL (d : DB) (t i : Nat) (x : Int64) : Nat → Int64
  | 0 => x
  | l + 1 => if (dL d t).testBit l then 31 * dgL d t i x l + (nI (dV d t i l)).toInt64 else dgL d t i x l
def dgR (d : DB) (t : Nat) (x : Int64) : Nat → Int64
  | 0 => x
  | i + 1 => dgL d t i (dgR d t x i) 8
theorem c_dgTable {qC : SS} (hw : WF d) (hC : RC d qC) (hN : 1000 ≤ N) {t : Nat} (ht : t < dT d) {ab : Nat → Int32} (hab : ∀ k, k < 5 → f8_about N qC (nI t) (nI k) = some (ab k)) (x : Int64) : f8_digestOfTable N qC x (nI t) = some (dgR d t (dg31 ab x 5) (dR d t)) := by
  have hT := hw.1
  have hR := R8 hw t
  have rows : f8_digestOfTable_l38 N qC N (nI t) (dg31 ab x 5) (nI 0) = some (dgR d t (dg31 ab x 5) (dR d t)) := by
    refine loop_run (fun n (p : Int32 × Int64 × Int32) => f8_digestOfTable_l38 N qC n p.1 p.2.1 p.2.2) (fun k p => f8_digestOfTable_l38_B N qC (fun x1 x2 x3 => k (x1, x2, x3)) p.1 p.2.1 p.2.2) (fun n p => rfl) (fun i => (nI t, dgR d t (dg31 ab x 5) i, nI i)) (dR d t) _ (c := 0) ?_ ?_ N 0 (Nat.le_refl _) (Nat.zero_le _) (by omega)
    · intro i _ hi kr
      dsimp only
      unfold f8_digestOfTable_l38_B
      rw [c_rowsOf hw hC (by omega), bd_s, if_neg (nI_ge hi (by omega))]
      refine loop_run (fun n (p : Int32 × Int64 × Int32 × Int32) => f8_digestOfTable_l54 N qC (fun x1 x2 x3 => kr (x1, x2, x3)) n p.1 p.2.1 p.2.2.1 p.2.2.2) (fun k p => f8_digestOfTable_l54_B N qC (fun x1 x2 x3 => kr (x1, x2, x3)) (fun x1 x2 x3 x4 => k (x1, x2, x3, x4)) p.1 p.2.1 p.2.2.1 p.2.2.2) (fun n p => rfl) (fun l => (nI t, dgL d t i (dgR d t (dg31 ab x 5) i) l, nI i, nI l)) 8 _ (c := 0) ?_ ?_ N 0 (Nat.le_refl _) (Nat.zero_le _) (by omega)
      · intro l _ hl kl
        have hs : dgL d t i (dgR d t (dg31 ab x 5) i) (l + 1) = if (dL d t).testBit l then 31 * dgL d t i (dgR d t (dg31 ab x 5) i) l + (nI (dV d t i l)).toInt64 else dgL d t i (dgR d t (dg31 ab x 5) i) l := rfl
        have e3 := c_number hw (t := t) (i := i) hl
        dsimp only
        rw [hs]
        unfold f8_digestOfTable_l54_B f8_digestOfTable_b99
        rw [if_neg (show ¬ (8 : Int32) ≤ nI l from nI_ge (b := 8) hl (by decide)), c_has hw hC ht hl, bd_s, nI_s]
        cases hb : (dL d t).testBit l
        · rw [if_pos (show nI (false).toNat = 0 from rfl), if_neg Bool.false_ne_true, bn_e]
        · rw [show cdf d t i l = dV d t i l from if_pos hb] at e3
          rw [if_neg (show ¬ nI (true).toNat = 0 by decide), if_pos rfl, c_codeAt hw hC ht hi, bd_s, e3, bd_s, bn_e, bn_e]
      · intro kl
        dsimp only
        unfold f8_digestOfTable_l54_B
        rw [if_pos (show (8 : Int32) ≤ nI 8 by decide), nI_s, bn_e]
        rfl
    · intro k
      dsimp only
      unfold f8_digestOfTable_l38_B
      rw [c_rowsOf hw hC (by omega), bd_s, if_pos (nI_le (Nat.le_refl _) (by omega))]
  refine loop_run (fun n (p : Int32 × Int64 × Int32) => f8_digestOfTable_l6 N qC n p.1 p.2.1 p.2.2) (fun k p => f8_digestOfTable_l6_B N qC (fun x1 x2 x3 => k (x1, x2, x3)) p.1 p.2.1 p.2.2) (fun n p => rfl) (fun k => (nI t, dg31 ab x k, nI k)) 5 _ (c := 0) ?_ ?_ N 0 (Nat.le_refl _) (Nat.zero_le _) (by omega)
  · intro k _ hk kk
    dsimp only
    unfold f8_digestOfTable_l6_B
    rw [if_neg (show ¬ (4 : Int32) < nI k from nI_nlt (a := 4) (by omega) (by decide)), hab k hk, bd_s, bn_e, nI_s, bn_e]
    rfl
  · intro kk
    dsimp only
    unfold f8_digestOfTable_l6_B
    rw [if_pos (show (4 : Int32) < nI 5 by decide)]
    exact rows
theorem m_dgTable {qM : SS} (hw : WF d) (hM : RMk d qM) (hN : 1000 ≤ N) {t : Nat} (ht : t < dT d) {ab : Nat → Int32} (hab : ∀ k, k < 5 → f9_aboutOf N qM (nI t) (nI k) = some (ab k)) (x : Int64) (bk : Int64 → Int32 → SS → Option (Int64 × SS)) : f9_digest_l17 N bk N x (nI t) (nI 0) qM = bk (dgR d t (dg31 ab x 5) (dR d t)) (nI (t + 1)) qM := by
  have hT := hw.1
  have hR := R8 hw t
  have e3 := hM.2.2.2.2.2.2.1 t (by omega)
  have rows : f9_digest_l47 N bk N (dg31 ab x 5) (nI t) (nI 0) qM = bk (dgR d t (dg31 ab x 5) (dR d t)) (nI (t + 1)) qM := by
    refine loop_run (fun n (p : Int64 × Int32 × Int32 × SS) => f9_digest_l47 N bk n p.1 p.2.1 p.2.2.1 p.2.2.2) (fun k p => f9_digest_l47_B N bk (fun x1 x2 x3 x4 => k (x1, x2, x3, x4)) p.1 p.2.1 p.2.2.1 p.2.2.2) (fun n p => rfl) (fun i => (dgR d t (dg31 ab x 5) i, nI t, nI i, qM)) (dR d t) _ (c := 0) ?_ ?_ N 0 (Nat.le_refl _) (Nat.zero_le _) (by omega)
    · intro i _ hi kr
      dsimp only
      unfold f9_digest_l47_B
      rw [ck_nI (by omega) (by decide), ix_nI (by omega), e3, if_neg (nI_ge hi (by omega))]
      refine loop_run (fun n (p : Int64 × Int32 × Int32 × Int32 × SS) => f9_digest_l61 N bk (fun x1 x2 x3 x4 => kr (x1, x2, x3, x4)) n p.1 p.2.1 p.2.2.1 p.2.2.2.1 p.2.2.2.2) (fun k p => f9_digest_l61_B N bk (fun x1 x2 x3 x4 => kr (x1, x2, x3, x4)) (fun x1 x2 x3 x4 x5 => k (x1, x2, x3, x4, x5)) p.1 p.2.1 p.2.2.1 p.2.2.2.1 p.2.2.2.2) (fun n p => rfl) (fun l => (dgL d t i (dgR d t (dg31 ab x 5) i) l, nI t, nI i, nI l, qM)) 8 _ (c := 0) ?_ ?_ N 0 (Nat.le_refl _) (Nat.zero_le _) (by omega)
      · intro l _ hl kl
        have hs : dgL d t i (dgR d t (dg31 ab x 5) i) (l + 1) = if (dL d t).testBit l then 31 * dgL d t i (dgR d t (dg31 ab x 5) i) l + (nI (dV d t i l)).toInt64 else dgL d t i (dgR d t (dg31 ab x 5) i) l := rfl
        dsimp only
        rw [hs]
        unfold f9_digest_l61_B f9_digest_b107
        rw [if_neg (show ¬ (8 : Int32) ≤ nI l from nI_ge (b := 8) hl (by decide)), m_has hw hM ht (by omega), bd_s, nI_s, bn_e]
        cases hb : (dL d t).testBit l
        · rw [if_pos (show nI (false).toNat = 0 from rfl), if_neg Bool.false_ne_true]
        · have a1 : (64 : Int32) * nI t + 8 * nI i + nI l = nI (64 * t + 8 * i + l) := by simp (disch := omega) only [bd_s, bd2_s, bn_e, ck_nI, dz_nI, cz_0, cz_1, ix_nI, le_t, le_f, lt_t, lt_f, eq_t, eq_f, if_true, if_false, nI_add, pk_sub, pk_mul, pk_div, li0, li1, li2, li3, li4, li5, li6, li7, li8, li9, li10, li12, li15, li16, li20, li21, li24, li31, li32, li40, li41, li48, li53, li55, li56, li57, li63, li64, li100, li108, li112, li115, li126, li127, li255, li256, li576, li384]
          rw [if_neg (show ¬ nI (true).toNat = 0 by decide), if_pos rfl, a1, ck_nI (by omega) (by decide), ix_nI (by omega), m_addr hw hM ht hi hl hb, bn_e]
      · intro kl
        dsimp only
        unfold f9_digest_l61_B
        rw [if_pos (show (8 : Int32) ≤ nI 8 by decide), nI_s, bn_e]
        rfl
    · intro k
      dsimp only
      unfold f9_digest_l47_B
      rw [ck_nI (by omega) (by decide), ix_nI (by omega), e3, if_pos (nI_le (Nat.le_refl _) (by omega)), nI_s, bn_e]
  refine loop_run (fun n (p : Int64 × Int32 × Int32 × SS) => f9_digest_l17 N bk n p.1 p.2.1 p.2.2.1 p.2.2.2) (fun k p => f9_digest_l17_B N bk (fun x1 x2 x3 x4 => k (x1, x2, x3, x4)) p.1 p.2.1 p.2.2.1 p.2.2.2) (fun n p => rfl) (fun k => (dg31 ab x k, nI t, nI k, qM)) 5 _ (c := 0) ?_ ?_ N 0 (Nat.le_refl _) (Nat.zero_le _) (by omega)
  · intro k _ hk kk
    dsimp only
    unfold f9_digest_l17_B
    rw [if_neg (show ¬ (5 : Int32) ≤ nI k from nI_ge (b := 5) hk (by decide)), hab k hk, bd_s, bn_e, nI_s, bn_e]
    rfl
  · intro kk
    dsimp only
    unfold f9_digest_l17_B
    rw [if_pos (show (5 : Int32) ≤ nI 5 by decide)]
    exact rows
/-- the page and the counts behind it -/
theorem tail_both {qC qM : SS} (hw : WF d) (hC : RC d qC) (hM : RMk d qM) (hN : 1000 ≤ N) (x : Int64) : ∃ r, f8_digest_b126 N x qC = some (r, qC) ∧ f9_digest_b226 N x qM = some (r, qM) := by
  have hG := hw.2.2.2.2.2.2.2.2.1
  have hct : ∀ k, ∃ r, f8_count N qC (nI k) = some r ∧ f9_countOf N qM (nI k) = some r := fun k => count_both hN hw hC hM (nI k)
  obtain ⟨ct, hct2⟩ : ∃ ct : Nat → Int32, ∀ k, f8_count N qC (nI k) = some (ct k) ∧ f9_countOf N qM (nI k) = some (ct k) := ⟨fun k => (f9_countOf N qM (nI k)).getD 0, fun k => by
    obtain ⟨r, h1, h2⟩ := hct k
    show f8_count N qC (nI k) = some ((f9_countOf N qM (nI k)).getD 0) ∧ f9_countOf N qM (nI k) = some ((f9_countOf N qM (nI k)).getD 0)
    rw [h2]
    exact ⟨h1, rfl⟩⟩
  refine ⟨dg31 ct (dg31 (fun k => nI (dg d k)) x (dG d)) 5, ?_, ?_⟩
  · have counts : f8_digest_l167 N N (dg31 (fun k => nI (dg d k)) x (dG d)) 0 qC = some (dg31 ct (dg31 (fun k => nI (dg d k)) x (dG d)) 5, qC) := by
      refine loop_run (fun n (p : Int64 × Int32 × SS) => f8_digest_l167 N n p.1 p.2.1 p.2.2) (fun k p => f8_digest_l167_B N (fun x1 x2 x3 => k (x1, x2, x3)) p.1 p.2.1 p.2.2) (fun n p => rfl) (fun k => (dg31 ct (dg31 (fun k => nI (dg d k)) x (dG d)) k, nI k, qC)) 5 _ (c := 0) ?_ ?_ N 0 (Nat.le_refl _) (Nat.zero_le _) (by omega)
      · intro k _ hk kk
        dsimp only
        unfold f8_digest_l167_B
        rw [if_neg (show ¬ (4 : Int32) < nI k from nI_nlt (a := 4) (by omega) (by decide)), (hct2 k).1, bd_s, bn_e, nI_s, bn_e]
        rfl
      · intro kk
        dsimp only
        unfold f8_digest_l167_B
        rw [if_pos (show (4 : Int32) < nI 5 by decide)]
    refine loop_run (fun n (p : Int64 × Int32 × SS) => f8_digest_l129 N n p.1 p.2.1 p.2.2) (fun k p => f8_digest_l129_B N (fun x1 x2 x3 => k (x1, x2, x3)) p.1 p.2.1 p.2.2) (fun n p => rfl) (fun k => (dg31 (fun k => nI (dg d k)) x k, nI k, qC)) (dG d) _ (c := 0) ?_ ?_ N 0 (Nat.le_refl _) (Nat.zero_le _) (by omega)
    · intro k _ hk kk
      have e1 : f6_length qC = some (nI (dG d)) := by unfold f6_length; rw [hC.2.2.2.2.1]
      have e2 : f6_signAt qC (nI k) = some (nI (dg d k)) := by
        unfold f6_signAt
        simp (disch := omega) only [bd_s, bd2_s, bn_e, ck_nI, dz_nI, cz_0, cz_1, ix_nI, le_t, le_f, lt_t, lt_f, eq_t, eq_f, if_true, if_false, nI_add, pk_sub, pk_mul, pk_div, hC.2.2.2.2.1, hC.2.2.2.2.2.2.2.2 k hk, li0, li1, li2, li3, li4, li5, li6, li7, li8, li9, li10, li12, li15, li16, li20, li21, li24, li31, li32, li40, li41, li48, li53, li55, li56, li57, li63, li64, li100, li108, li112, li115, li126, li127, li255, li256, li576, li384]
      dsimp only
      unfold f8_digest_l129_B
      rw [e1, bd_s, if_neg (nI_ge hk (by omega)), e2, bd_s, bn_e, nI_s, bn_e]
      rfl
    · intro kk
      have e1 : f6_length qC = some (nI (dG d)) := by unfold f6_length; rw [hC.2.2.2.2.1]
      dsimp only
      unfold f8_digest_l129_B
      rw [e1, bd_s, if_pos (nI_le (Nat.le_refl _) (by omega))]
      exact counts
  · have counts : f9_digest_l258 N N (dg31 (fun k => nI (dg d k)) x (dG d)) 0 qM = some (dg31 ct (dg31 (fun k => nI (dg d k)) x (dG d)) 5, qM) := by
      refine loop_run (fun n (p : Int64 × Int32 × SS) => f9_digest_l258 N n p.1 p.2.1 p.2.2) (fun k p => f9_digest_l258_B N (fun x1 x2 x3 => k (x1, x2, x3)) p.1 p.2.1 p.2.2) (fun n p => rfl) (fun k => (dg31 ct (dg31 (fun k => nI (dg d k)) x (dG d)) k, nI k, qM)) 5 _ (c := 0) ?_ ?_ N 0 (Nat.le_refl _) (Nat.zero_le _) (by omega)
      · intro k _ hk kk
        dsimp only
        unfold f9_digest_l258_B
        rw [if_neg (show ¬ (5 : Int32) ≤ nI k from nI_ge (b := 5) hk (by decide)), (hct2 k).2, bd_s, bn_e, nI_s, bn_e]
        rfl
      · intro kk
        dsimp only
        unfold f9_digest_l258_B
        rw [if_pos (show (5 : Int32) ≤ nI 5 by decide)]
    refine loop_run (fun n (p : Int64 × Int32 × SS) => f9_digest_l228 N n p.1 p.2.1 p.2.2) (fun k p => f9_digest_l228_B N (fun x1 x2 x3 => k (x1, x2, x3)) p.1 p.2.1 p.2.2) (fun n p => rfl) (fun k => (dg31 (fun k => nI (dg d k)) x k, nI k, qM)) (dG d) _ (c := 0) ?_ ?_ N 0 (Nat.le_refl _) (Nat.zero_le _) (by omega)
    · intro k _ hk kk
      dsimp only
      unfold f9_digest_l228_B
      rw [hM.2.2.2.1, if_neg (nI_ge hk (by omega)), ck_nI (by omega) (by decide), ix_nI (by omega), hM.2.2.2.2.2.2.2.2 k hk, bn_e, nI_s, bn_e]
      rfl
    · intro kk
      dsimp only
      unfold f9_digest_l228_B
      rw [hM.2.2.2.1, if_pos (nI_le (Nat.le_refl _) (by omega))]
      exact counts
def dgT (d : DB) (ab : Nat → Nat → Int32) : Nat → Int64
  | 0 => 269
  | t + 1 => dgR d t (dg31 (ab t) (dgT d ab t) 5) (dR d t)
theorem op_digest (hN : 2 ^ 40 ≤ N) : Op_digest N Sim := by
  rintro qC qM ⟨d, hw, hC, hM, hH⟩
  have hT := hw.1
  have h2 := two_pow_T hw
  have h21 := two_pow_T1 hw
  have hN1 : 1000 ≤ N := by omega
  obtain ⟨ab, hab⟩ : ∃ ab : Nat → Nat → Int32, ∀ t, t < dT d → ∀ k, f8_about N qC (nI t) (nI k) = some (ab t k) ∧ f9_aboutOf N qM (nI t) (nI k) = some (ab t k) := ⟨fun t k => (f9_aboutOf N qM (nI t) (nI k)).getD 0, fun t ht k => by
    obtain ⟨r, h1, h2⟩ := about_both hN1 hw hC hM ht (nI k)
    show f8_about N qC (nI t) (nI k) = some ((f9_aboutOf N qM (nI t) (nI k)).getD 0) ∧ f9_aboutOf N qM (nI t) (nI k) = some ((f9_aboutOf N qM (nI t) (nI k)).getD 0)
    rw [h2]
    exact ⟨h1, rfl⟩⟩
  have key : ∃ r qC2 qM2, f8_digest_l6_B N (fun _ _ _ => none) (dgT d ab (dT d)) (nI (dT d)) qC = some (r, qC2) ∧ f9_digest_l6_B N (fun _ _ _ => none) (dgT d ab (dT d)) (nI (dT d)) qM = some (r, qM2) ∧ Sim qC2 qM2 := by
    have e1 : f7_tablesMade qC = some (nI (dT d)) := by unfold f7_tablesMade; rw [hC.2.1]
    have e2 : f7_wide qC = some (nI (dW d)) := by unfold f7_wide; rw [hC.2.2.1]
    have e3 : f7_memory qC = some (nI (dM d)) := by unfold f7_memory; rw [hC.2.2.2.1]
    have e4 : f7_allTables qC = some (nI (2 ^ dT d - 1)) := by
      unfold f7_allTables
      rw [hC.2.1, shl1_T hw, li1, pk_sub h21]
    unfold f8_digest_l6_B f9_digest_l6_B
    rw [e1, bd_s, if_pos (nI_le (Nat.le_refl _) (by omega)), e2, bd_s, bn_e, e3, bd_s, bn_e, e4, bd_s, hM.1, if_pos (nI_le (Nat.le_refl _) (by omega)), hM.2.1, bn_e, hM.2.2.1, bn_e]
    generalize (31 : Int64) * (31 * dgT d ab (dT d) + (nI (dW d)).toInt64) + (nI (dM d)).toInt64 = x
    by_cases hT0 : dT d = 0
    · rw [hT0, if_pos (show nI (2 ^ 0 - 1) = 0 by decide), if_pos (show nI 0 ≤ 0 by decide)]
      obtain ⟨r, t1, t2⟩ := tail_both (N := N) hw hC hM hN1 x
      exact ⟨r, qC, qM, t1, t2, d, hw, hC, hM, hH⟩
    · have hp2 : 2 ≤ 2 ^ dT d := by
        have := Nat.pow_le_pow_right (n := 2) (by decide) (show 1 ≤ dT d by omega)
        omega
      have hs1 : 1 ≤ 2 ^ dT d - 1 := by omega
      have hs : 2 ^ dT d - 1 < 2 ^ dT d := by omega
      generalize hse : 2 ^ dT d - 1 = s at *
      obtain ⟨qM1, m1, m2, m3⟩ := m_trueSize hw hM hH hN hs1 hs
      have hM1 := m2.rm hM
      obtain ⟨qM2, m4, m5, -⟩ := m_doesHang (N := N) hw hM1 hN1 hs
      have hM2 := hM1.same m5
      obtain ⟨qC1, c1, c2⟩ := c_sizeOf (N := N) (b := 0) hw hC hN1 hs (by omega)
      have hC1 := hC.same c2.same
      obtain ⟨qC2, c3, c4⟩ := c_sizeOf (N := N) (b := 1) hw hC1 hN1 hs (by omega)
      have hC2 := hC1.same c4.same
      obtain ⟨qC3, c5, c6, -⟩ := c_takeAway (N := N) hw hC2 hN1 hs
      have hC3 := hC2.same c6
      have z1 : f8_size N (nI s) 0 qC = some (nI (tsz d s), qC1) := by
        unfold f8_size
        rw [c_isSet hw hC hs1 hs, bd_s, if_neg (show ¬ (1 : Int32) = 0 by decide), show f8_isBy 0 = some 1 from rfl, bd_s, if_neg (show ¬ (1 : Int32) = 0 by decide), show (0 : Int32) = nI 0 from rfl, c1, bd2_s]
        rfl
      have z2 : f8_size N (nI s) 1 qC1 = some (nI (fz d s), qC2) := by
        unfold f8_size
        rw [c_isSet hw hC1 hs1 hs, bd_s, if_neg (show ¬ (1 : Int32) = 0 by decide), show f8_isBy 1 = some 1 from rfl, bd_s, if_neg (show ¬ (1 : Int32) = 0 by decide), show (1 : Int32) = nI 1 from rfl, c3, bd2_s]
        rfl
      have z3 : f8_hangs N (nI s) qC2 = some (if Sq d s (KK d s) = 0 then 1 else 0, qC3) := by
        unfold f8_hangs
        rw [c_isSet hw hC2 hs1 hs, bd_s, if_neg (show ¬ (1 : Int32) = 0 by decide), c5, bd2_s]
        by_cases hh : Sq d s (KK d s) = 0
        · rw [if_pos hh, if_neg (show ¬ (1 : Int32) = 0 by decide)]
        · rw [if_neg hh, if_pos rfl]
      have z4 : f8_cover N qC3 (nI s) = some (nI (cov d s)) := by
        unfold f8_cover
        rw [c_isSet hw hC3 hs1 hs, bd_s, if_neg (show ¬ (1 : Int32) = 0 by decide), c_cover hw hC3 hN1 hs1 (by omega), bd_s]
      have z5 := m_cover (N := N) hw hM2 hN1 hs1 (show s < 64 by omega)
      have z6 := m_foretold (N := N) hw hM1 hN1 hs
      have z7 : jshl 1 (nI (dT d)) - 1 = nI s := by rw [shl1_T hw, li1, pk_sub h21, hse]
      rw [if_neg (nz (show ¬ s = 0 by omega) (by omega)), if_neg (show ¬ nI (dT d) ≤ 0 from nI_ge (a := 0) (by omega) (by omega)), z1, bd2_s, bn_e, z2, bd2_s, bn_e, z3, bd2_s, bn_e, z4, bd_s, bn_e, z7, bn_e, m1, bd2_s, bn_e, z6, bd_s, bn_e, m4, bd2_s]
      unfold f9_digest_b210
      rw [z5]
      simp only [bn_e, bd_s]
      have hsim : Sim qC3 qM2 := ⟨d, hw, hC3, hM2, m3.same m5⟩
      by_cases hh : Sq d s (KK d s) = 0
      · rw [if_pos hh, if_neg (show ¬ (1 : Int32) = 0 by decide)]
        obtain ⟨r, t1, t2⟩ := tail_both (N := N) hw hC3 hM2 hN1 (31 * (31 * (31 * (31 * x + (nI (tsz d s)).toInt64) + (nI (fz d s)).toInt64) + (1 : Int32).toInt64) + (nI (cov d s)).toInt64)
        exact ⟨r, qC3, qM2, t1, t2, hsim⟩
      · rw [if_neg hh, if_pos rfl]
        obtain ⟨r, t1, t2⟩ := tail_both (N := N) hw hC3 hM2 hN1 (31 * (31 * (31 * (31 * x + (nI (tsz d s)).toInt64) + (nI (fz d s)).toInt64) + (0 : Int32).toInt64) + (nI (cov d s)).toInt64)
        exact ⟨r, qC3, qM2, t1, t2, hsim⟩
  obtain ⟨r, qC2, qM2, k1, k2, k3⟩ := key
  refine ⟨r, qC2, qM2, ?_, ?_, k3⟩
  · refine loop_run (fun n (p : Int64 × Int32 × SS) => f8_digest_l6 N n p.1 p.2.1 p.2.2) (fun k p => f8_digest_l6_B N (fun x1 x2 x3 => k (x1, x2, x3)) p.1 p.2.1 p.2.2) (fun n p => rfl) (fun t => (dgT d ab t, nI t, qC)) (dT d) _ (c := 0) ?_ ?_ N 0 (Nat.le_refl _) (Nat.zero_le _) (by omega)
    · intro t _ ht k
      dsimp only
      unfold f8_digest_l6_B f7_tablesMade
      rw [hC.2.1, bd_s, if_neg (nI_ge ht (by omega)), c_dgTable hw hC hN1 ht (fun k _ => (hab t ht k).1), bd_s, nI_s, bn_e]
      rfl
    · intro k
      rw [← k1]
      dsimp only
      unfold f8_digest_l6_B f7_tablesMade
      rw [hC.2.1, bd_s, bd_s, if_pos (nI_le (Nat.le_refl _) (by omega)), if_pos (nI_le (Nat.le_refl _) (by omega))]
  · refine loop_run (fun n (p : Int64 × Int32 × SS) => f9_digest_l6 N n p.1 p.2.1 p.2.2) (fun k p => f9_digest_l6_B N (fun x1 x2 x3 => k (x1, x2, x3)) p.1 p.2.1 p.2.2) (fun n p => rfl) (fun t => (dgT d ab t, nI t, qM)) (dT d) _ (c := 0) ?_ ?_ N 0 (Nat.le_refl _) (Nat.zero_le _) (by omega)
    · intro t _ ht k
      dsimp only
      unfold f9_digest_l6_B
      rw [hM.1, if_neg (nI_ge ht (by omega))]
      exact m_dgTable hw hM hN1 ht (fun k _ => (hab t ht k).2) _ _
    · intro k
      rw [← k2]
      dsimp only
      unfold f9_digest_l6_B
      rw [hM.1, if_pos (nI_le (Nat.le_refl _) (by omega)), if_pos (nI_le (Nat.le_refl _) (by omega))]
end Digest
