/-! digest -/
section Digest
variable {N : Nat} {d : DB}
def dg31 (g : Nat → Int32) (x : Int64) : Nat → Int64
  | 0 => x
  | k + 1 => 31 * dg31 g x k + (g k).toInt64
/-- letters of a row -/
def dgL (d : DB) (t i : Nat) (x : Int64) : Nat → Int64
  | 0 => x
  | l + 1 => if (dL d t).testBit l then 31 * dgL d t i x l + (nI (dV d t i l)).toInt64 else dgL d t i x l
def dgR (d : DB) (t : Nat) (x : Int64) : Nat → Int64
  | 0 => x
  | i + 1 => dgL d t i (dgR d t x i) 8
theorem c_dgTable {qC : SS} (hw : WF d) (hC : RC d qC) (hN : 1000 ≤ N) {t : Nat} (ht : t < dT d) {ab : Nat → Int32} (hab : ∀ k, k < 5 → f8_about N (nI t) (nI k) qC = some (ab k, qC)) (x : Int64) : f8_digestOfTable N x (nI t) qC = some (dgR d t (dg31 ab x 5) (dR d t), qC) := by
  have hT := hw.1
  have hR := R8 hw t
  have rows : f8_digestOfTable_l38 N N (nI t) (dg31 ab x 5) (nI 0) qC = some (dgR d t (dg31 ab x 5) (dR d t), qC) := by
    refine loop_run (fun n (p : Int32 × Int64 × Int32 × SS) => f8_digestOfTable_l38 N n p.1 p.2.1 p.2.2.1 p.2.2.2) (fun k p => f8_digestOfTable_l38_B N (fun x1 x2 x3 x4 => k (x1, x2, x3, x4)) p.1 p.2.1 p.2.2.1 p.2.2.2) (fun n p => rfl) (fun i => (nI t, dgR d t (dg31 ab x 5) i, nI i, qC)) (dR d t) _ (c := 0) ?_ ?_ N 0 (Nat.le_refl _) (Nat.zero_le _) (by omega)
    · intro i _ hi kr
      dsimp only
      unfold f8_digestOfTable_l38_B
      rw [c_rowsOf hw hC (by omega), bd_s, if_neg (nI_ge hi (by omega))]
      refine loop_run (fun n (p : Int32 × Int64 × Int32 × Int32 × SS) => f8_digestOfTable_l54 N (fun x1 x2 x3 x4 => kr (x1, x2, x3, x4)) n p.1 p.2.1 p.2.2.1 p.2.2.2.1 p.2.2.2.2) (fun k p => f8_digestOfTable_l54_B N (fun x1 x2 x3 x4 => kr (x1, x2, x3, x4)) (fun x1 x2 x3 x4 x5 => k (x1, x2, x3, x4, x5)) p.1 p.2.1 p.2.2.1 p.2.2.2.1 p.2.2.2.2) (fun n p => rfl) (fun l => (nI t, dgL d t i (dgR d t (dg31 ab x 5) i) l, nI i, nI l, qC)) 8 _ (c := 0) ?_ ?_ N 0 (Nat.le_refl _) (Nat.zero_le _) (by omega)
      · intro l _ hl kl
        have hs : dgL d t i (dgR d t (dg31 ab x 5) i) (l + 1) = if (dL d t).testBit l then 31 * dgL d t i (dgR d t (dg31 ab x 5) i) l + (nI (dV d t i l)).toInt64 else dgL d t i (dgR d t (dg31 ab x 5) i) l := rfl
        have e3 := c_number hw (t := t) (i := i) hl
        dsimp only
        rw [hs]
        unfold f8_digestOfTable_l54_B f8_digestOfTable_b99
        rw [if_neg (show ¬ (8 : Int32) ≤ nI l from nI_ge (b := 8) hl (by decide)), c_has hw hC ht hl, bd_s, nI_s]
        cases hb : (dL d t).testBit l
        · rw [if_pos (show nI (false).toNat = 0 from rfl), if_neg Bool.false_ne_true, bn_e]
        · rw [show cdf d t i l = dV d t i l from if_pos hb] at e3
          rw [if_neg (show ¬ nI (true).toNat = 0 by decide), if_pos rfl, c_codeAt hw hC ht hi, bd_s, e3, bd_s, bn_e, bn_e]
      · intro kl
        dsimp only
        unfold f8_digestOfTable_l54_B
        rw [if_pos (show (8 : Int32) ≤ nI 8 by decide), nI_s, bn_e]
        rfl
    · intro k
      dsimp only
      unfold f8_digestOfTable_l38_B
      rw [c_rowsOf hw hC (by omega), bd_s, if_pos (nI_le (Nat.le_refl _) (by omega))]
  refine loop_run (fun n (p : Int32 × Int64 × Int32 × SS) => f8_digestOfTable_l6 N n p.1 p.2.1 p.2.2.1 p.2.2.2) (fun k p => f8_digestOfTable_l6_B N (fun x1 x2 x3 x4 => k (x1, x2, x3, x4)) p.1 p.2.1 p.2.2.1 p.2.2.2) (fun n p => rfl) (fun k => (nI t, dg31 ab x k, nI k, qC)) 5 _ (c := 0) ?_ ?_ N 0 (Nat.le_refl _) (Nat.zero_le _) (by omega)
  · intro k _ hk kk
    dsimp only
    unfold f8_digestOfTable_l6_B
    rw [if_neg (show ¬ (4 : Int32) < nI k from nI_nlt (a := 4) (by omega) (by decide)), hab k hk, bd2_s, bn_e, nI_s, bn_e]
    rfl
  · intro kk
    dsimp only
    unfold f8_digestOfTable_l6_B
    rw [if_pos (show (4 : Int32) < nI 5 by decide)]
    exact rows
theorem m_dgTable {qM : SS} (hw : WF d) (hM : RMk d qM) (hN : 1000 ≤ N) {t : Nat} (ht : t < dT d) {ab : Nat → Int32} (hab : ∀ k, k < 5 → f9_aboutOf N qM (nI t) (nI k) = some (ab k)) (x : Int64) (bk : Int64 → Int32 → SS → Option (Int64 × SS)) : f9_digest_l17 N bk N x (nI t) (nI 0) qM = bk (dgR d t (dg31 ab x 5) (dR d t)) (nI (t + 1)) qM := by
  have hT := hw.1
  have hR := R8 hw t
  have e3 := hM.2.2.2.2.2.2.1 t (by omega)
  have rows : f9_digest_l47 N bk N (dg31 ab x 5) (nI t) (nI 0) qM = bk (dgR d t (dg31 ab x 5) (dR d t)) (nI (t + 1)) qM := by
    refine loop_run (fun n (p : Int64 × Int32 × Int32 × SS) => f9_digest_l47 N bk n p.1 p.2.1 p.2.2.1 p.2.2.2) (fun k p => f9_digest_l47_B N bk (fun x1 x2 x3 x4 => k (x1, x2, x3, x4)) p.1 p.2.1 p.2.2.1 p.2.2.2) (fun n p => rfl) (fun i => (dgR d t (dg31 ab x 5) i, nI t, nI i, qM)) (dR d t) _ (c := 0) ?_ ?_ N 0 (Nat.le_refl _) (Nat.zero_le _) (by omega)
    · intro i _ hi kr
      dsimp only
      unfold f9_digest_l47_B
      rw [ck_nI (by omega) (by decide), ix_nI (by omega), e3, if_neg (nI_ge hi (by omega))]
      refine loop_run (fun n (p : Int64 × Int32 × Int32 × Int32 × SS) => f9_digest_l61 N bk (fun x1 x2 x3 x4 => kr (x1, x2, x3, x4)) n p.1 p.2.1 p.2.2.1 p.2.2.2.1 p.2.2.2.2) (fun k p => f9_digest_l61_B N bk (fun x1 x2 x3 x4 => kr (x1, x2, x3, x4)) (fun x1 x2 x3 x4 x5 => k (x1, x2, x3, x4, x5)) p.1 p.2.1 p.2.2.1 p.2.2.2.1 p.2.2.2.2) (fun n p => rfl) (fun l => (dgL d t i (dgR d t (dg31 ab x 5) i) l, nI t, nI i, nI l, qM)) 8 _ (c := 0) ?_ ?_ N 0 (Nat.le_refl _) (Nat.zero_le _) (by omega)
      · intro l _ hl kl
        have hs : dgL d t i (dgR d t (dg31 ab x 5) i) (l + 1) = if (dL d t).testBit l then 31 * dgL d t i (dgR d t (dg31 ab x 5) i) l + (nI (dV d t i l)).toInt64 else dgL d t i (dgR d t (dg31 ab x 5) i) l := rfl
        dsimp only
        rw [hs]
        unfold f9_digest_l61_B f9_digest_b107
        rw [if_neg (show ¬ (8 : Int32) ≤ nI l from nI_ge (b := 8) hl (by decide)), m_has hw hM ht (by omega), bd_s, nI_s, bn_e]
        cases hb : (dL d t).testBit l
        · rw [if_pos (show nI (false).toNat = 0 from rfl), if_neg Bool.false_ne_true]
        · have a1 : (64 : Int32) * nI t + 8 * nI i + nI l = nI (64 * t + 8 * i + l) := by simp (disch := omega) only [bd_s, bd2_s, bn_e, ck_nI, dz_nI, cz_0, cz_1, ix_nI, le_t, le_f, lt_t, lt_f, eq_t, eq_f, if_true, if_false, nI_add, pk_sub, pk_mul, pk_div, li0, li1, li2, li3, li4, li5, li6, li7, li8, li9, li10, li12, li15, li16, li20, li21, li24, li31, li32, li40, li41, li48, li53, li55, li56, li57, li63, li64, li100, li108, li112, li115, li126, li127, li255, li256, li576, li384]
          rw [if_neg (show ¬ nI (true).toNat = 0 by decide), if_pos rfl, a1, ck_nI (by omega) (by decide), ix_nI (by omega), m_addr hw hM ht hi hl hb, bn_e]
      · intro kl
        dsimp only
        unfold f9_digest_l61_B
        rw [if_pos (show (8 : Int32) ≤ nI 8 by decide), nI_s, bn_e]
        rfl
    · intro k
      dsimp only
      unfold f9_digest_l47_B
      rw [ck_nI (by omega) (by decide), ix_nI (by omega), e3, if_pos (nI_le (Nat.le_refl _) (by omega)), nI_s, bn_e]
  refine loop_run (fun n (p : Int64 × Int32 × Int32 × SS) => f9_digest_l17 N bk n p.1 p.2.1 p.2.2.1 p.2.2.2) (fun k p => f9_digest_l17_B N bk (fun x1 x2 x3 x4 => k (x1, x2, x3, x4)) p.1 p.2.1 p.2.2.1 p.2.2.2) (fun n p => rfl) (fun k => (dg31 ab x k, nI t, nI k, qM)) 5 _ (c := 0) ?_ ?_ N 0 (Nat.le_refl _) (Nat.zero_le _) (by omega)
  · intro k _ hk kk
    dsimp only
    unfold f9_digest_l17_B
    rw [if_neg (show ¬ (5 : Int32) ≤ nI k from nI_ge (b := 5) hk (by decide)), hab k hk, bd_s, bn_e, nI_s, bn_e]
    rfl
  · intro kk
    dsimp only
    unfold f9_digest_l17_B
    rw [if_pos (show (5 : Int32) ≤ nI 5 by decide)]
    exact rows
/-- the page and the counts behind it -/
theorem tail_both {qC qM : SS} (hw : WF d) (hC : RC d qC) (hM : RMk d qM) (hN : 1000 ≤ N) (x : Int64) : ∃ r, f8_digest_b126 N x qC = some (r, qC) ∧ f9_digest_b226 N x qM = some (r, qM) := by
  have hG := hw.2.2.2.2.2.2.2.2.1
  have hct : ∀ k, ∃ r, f8_count N qC (nI k) = some r ∧ f9_countOf N qM (nI k) = some r := fun k => count_both hN hw hC hM (nI k)
  obtain ⟨ct, hct2⟩ : ∃ ct : Nat → Int32, ∀ k, f8_count N qC (nI k) = some (ct k) ∧ f9_countOf N qM (nI k) = some (ct k) := ⟨fun k => (f9_countOf N qM (nI k)).getD 0, fun k => by
    obtain ⟨r, h1, h2⟩ := hct k
    rw [h2]
    exact ⟨h1, rfl⟩⟩
  refine ⟨dg31 ct (dg31 (fun k => nI (dg d k)) x (dG d)) 5, ?_, ?_⟩
  · have counts : f8_digest_l167 N N (dg31 (fun k => nI (dg d k)) x (dG d)) 0 qC = some (dg31 ct (dg31 (fun k => nI (dg d k)) x (dG d)) 5, qC) := by
      refine loop_run (fun n (p : Int64 × Int32 × SS) => f8_digest_l167 N n p.1 p.2.1 p.2.2) (fun k p => f8_digest_l167_B N (fun x1 x2 x3 => k (x1, x2, x3)) p.1 p.2.1 p.2.2) (fun n p => rfl) (fun k => (dg31 ct (dg31 (fun k => nI (dg d k)) x (dG d)) k, nI k, qC)) 5 _ (c := 0) ?_ ?_ N 0 (Nat.le_refl _) (Nat.zero_le _) (by omega)
      · intro k _ hk kk
        dsimp only
        unfold f8_digest_l167_B
        rw [if_neg (show ¬ (4 : Int32) < nI k from nI_nlt (a := 4) (by omega) (by decide)), (hct2 k).1, bd_s, bn_e, nI_s, bn_e]
        rfl
      · intro kk
        dsimp only
        unfold f8_digest_l167_B
        rw [if_pos (show (4 : Int32) < nI 5 by decide)]
    refine loop_run (fun n (p : Int64 × Int32 × SS) => f8_digest_l129 N n p.1 p.2.1 p.2.2) (fun k p => f8_digest_l129_B N (fun x1 x2 x3 => k (x1, x2, x3)) p.1 p.2.1 p.2.2) (fun n p => rfl) (fun k => (dg31 (fun k => nI (dg d k)) x k, nI k, qC)) (dG d) _ (c := 0) ?_ ?_ N 0 (Nat.le_refl _) (Nat.zero_le _) (by omega)
    · intro k _ hk kk
      have e1 : f6_length qC = some (nI (dG d)) := by unfold f6_length; rw [hC.2.2.2.2.1]
      have e2 : f6_signAt qC (nI k) = some (nI (dg d k)) := by
        unfold f6_signAt
        simp (disch := omega) only [bd_s, bd2_s, bn_e, ck_nI, dz_nI, cz_0, cz_1, ix_nI, le_t, le_f, lt_t, lt_f, eq_t, eq_f, if_true, if_false, nI_add, pk_sub, pk_mul, pk_div, hC.2.2.2.2.1, hC.2.2.2.2.2.2.2.2 k hk, li0, li1, li2, li3, li4, li5, li6, li7, li8, li9, li10, li12, li15, li16, li20, li21, li24, li31, li32, li40, li41, li48, li53, li55, li56, li57, li63, li64, li100, li108, li112, li115, li126, li127, li255, li256, li576, li384]
      dsimp only
      unfold f8_digest_l129_B
      rw [e1, bd_s, if_neg (nI_ge hk (by omega)), e2, bd_s, bn_e, nI_s, bn_e]
      rfl
    · intro kk
      have e1 : f6_length qC = some (nI (dG d)) := by unfold f6_length; rw [hC.2.2.2.2.1]
      dsimp only
      unfold f8_digest_l129_B
      rw [e1, bd_s, if_pos (nI_le (Nat.le_refl _) (by omega))]
      exact counts
  · have counts : f9_digest_l258 N N (dg31 (fun k => nI (dg d k)) x (dG d)) 0 qM = some (dg31 ct (dg31 (fun k => nI (dg d k)) x (dG d)) 5, qM) := by
      refine loop_run (fun n (p : Int64 × Int32 × SS) => f9_digest_l258 N n p.1 p.2.1 p.2.2) (fun k p => f9_digest_l258_B N (fun x1 x2 x3 => k (x1, x2, x3)) p.1 p.2.1 p.2.2) (fun n p => rfl) (fun k => (dg31 ct (dg31 (fun k => nI (dg d k)) x (dG d)) k, nI k, qM)) 5 _ (c := 0) ?_ ?_ N 0 (Nat.le_refl _) (Nat.zero_le _) (by omega)
      · intro k _ hk kk
        dsimp only
        unfold f9_digest_l258_B
        rw [if_neg (show ¬ (5 : Int32) ≤ nI k from nI_ge (b := 5) hk (by decide)), (hct2 k).2, bd_s, bn_e, nI_s, bn_e]
        rfl
      · intro kk
        dsimp only
        unfold f9_digest_l258_B
        rw [if_pos (show (5 : Int32) ≤ nI 5 by decide)]
    refine loop_run (fun n (p : Int64 × Int32 × SS) => f9_digest_l228 N n p.1 p.2.1 p.2.2) (fun k p => f9_digest_l228_B N (fun x1 x2 x3 => k (x1, x2, x3)) p.1 p.2.1 p.2.2) (fun n p => rfl) (fun k => (dg31 (fun k => nI (dg d k)) x k, nI k, qM)) (dG d) _ (c := 0) ?_ ?_ N 0 (Nat.le_refl _) (Nat.zero_le _) (by omega)
    · intro k _ hk kk
      dsimp only
      unfold f9_digest_l228_B
      rw [hM.2.2.2.1, if_neg (nI_ge hk (by omega)), ck_nI (by omega) (by decide), ix_nI (by omega), hM.2.2.2.2.2.2.2.2 k hk, bn_e, nI_s, bn_e]
      rfl
    · intro kk
      dsimp only
      unfold f9_digest_l228_B
      rw [hM.2.2.2.1, if_pos (nI_le (Nat.le_refl _) (by omega))]
      exact counts
end Digest
