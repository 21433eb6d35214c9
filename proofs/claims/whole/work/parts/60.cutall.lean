/-! the reference's cut; the two ways -/
section CutAll
variable {N : Nat} {d : DB} {q : SS}
def frM (q q' : SS) : Prop := (∀ j, fi q' j = fi q j) ∧ ∀ j, j ≠ 24 → ar q' j = ar q j
theorem frM.rf {q : SS} : frM q q := ⟨fun _ => rfl, fun _ _ => rfl⟩
theorem frM.tr {a b c : SS} (h : frM a b) (g : frM b c) : frM a c := ⟨fun k => (g.1 k).trans (h.1 k), fun k hk => (g.2 k hk).trans (h.2 k hk)⟩
theorem frM.same {a b : SS} (h : frM a b) : sameM a b := ⟨fun k _ => h.1 k, fun k hk => h.2 k (by omega)⟩
def LM (d : DB) (lf : Nat → Nat) (q : SS) : Prop := ∀ u, u < dT d → ar q 24 u = nI (lf u)
theorem and_m1 (x : Int32) : x &&& (-1) = x := by
  apply Int32.toBitVec_inj.mp
  rw [Int32.toBitVec_and]
  show x.toBitVec &&& BitVec.allOnes 32 = _
  exact BitVec.and_allOnes
theorem m_cut (hw : WF d) (h : RMk d q) {lf : Nat → Nat} (hl : LF d lf) {a b : Nat} (hN : 1000 ≤ N) (ha : a < dT d) (hb : b < dT d) (hab : a ≠ b) (hL : LM d lf q) : ∃ q', f9_cut N (nI a) (nI b) q = some q' ∧ frM q q' ∧ LM d (cutP d lf a b) q' := by
  have hT := hw.1
  have hRa := R8 hw a
  have hRb := R8 hw b
  have hla := hl a
  have hlb := hl b
  have h256 := pow8 hRa
  have h256b := pow8 hRb
  have hr := h.2.2.2.2.2.2.1
  obtain ⟨q', ⟨g1, g2, g3⟩, hrun⟩ := loop_st (fun n (p : Int32 × Int32 × Int32 × SS) => f9_cut_l2 N n p.1 p.2.1 p.2.2.1 p.2.2.2) (fun k p => f9_cut_l2_B N (fun x1 x2 x3 x4 => k (x1, x2, x3, x4)) p.1 p.2.1 p.2.2.1 p.2.2.2) (fun n p => rfl) (fun i q => (nI a, nI b, nI i, q)) (fun i q' => frM q q' ∧ ar q' 24 a = nI (cm d lf a b i) ∧ (∀ u, u < dT d → u ≠ a → ar q' 24 u = nI (lf u))) 0 (dR d a) (fun q' => some q') (by
    rintro i q1 - hi ⟨g1, g2, g3⟩
    have hcl := cm_le d lf a b i
    have hRM := h.same g1.same
    have e3a : ar q1 3 a = nI (dR d a) := by rw [g1.2 3 (by decide)]; exact hr a (by omega)
    have e3b : ar q1 3 b = nI (dR d b) := by rw [g1.2 3 (by decide)]; exact hr b (by omega)
    have e24 := g3 b hb (fun e => hab e.symm)
    have hi2 : 2 ^ i ≤ 256 := pow8 (by omega)
    have hcs : cm d lf a b (i + 1) = if anyTo d lf a b i 8 then cm d lf a b i else andn (cm d lf a b i) (2 ^ i) := rfl
    have inner : ∀ bk, f9_cut_l18 N bk N (nI a) (nI b) (nI i) (nI (anyTo d lf a b i 0).toNat) (nI 0) q1 = bk (nI a) (nI b) (nI (i + 1)) (sa q1 24 a (nI (cm d lf a b (i + 1)))) := fun bk => by
      refine loop_run (fun n (p : Int32 × Int32 × Int32 × Int32 × Int32 × SS) => f9_cut_l18 N bk n p.1 p.2.1 p.2.2.1 p.2.2.2.1 p.2.2.2.2.1 p.2.2.2.2.2) (fun k p => f9_cut_l18_B N bk (fun x1 x2 x3 x4 x5 x6 => k (x1, x2, x3, x4, x5, x6)) p.1 p.2.1 p.2.2.1 p.2.2.2.1 p.2.2.2.2.1 p.2.2.2.2.2) (fun n p => rfl) (fun j => (nI a, nI b, nI i, nI (anyTo d lf a b i j).toNat, nI j, q1)) (dR d b) _ (c := 0) ?_ ?_ N 0 (Nat.le_refl _) (Nat.zero_le _) (by omega)
      · intro j _ hj k
        have e1 := bit_nI (a := lf b) (b := j) (by omega) (by omega)
        have ef := m_fit hw hRM hN ha hb hi hj
        have hs : anyTo d lf a b i (j + 1) = (anyTo d lf a b i j || ((lf b).testBit j && fitd d a i b j)) := rfl
        dsimp only
        rw [hs]
        unfold f9_cut_l18_B f9_cut_b61 f9_cut_b65 f9_cut_b66
        rw [ck_nI (by omega) (by decide), ix_nI (by omega), e3b, if_neg (nI_ge hj (by omega)), nI_s, bn_e, bn_e, ck_nI (by omega) (by decide), e24, e1, ef, bd_s]
        cases anyTo d lf a b i j
        · rw [if_pos (show nI (false).toNat = 0 from rfl), Bool.false_or]
          cases (lf b).testBit j
          · rw [if_neg (show ¬ nI (false).toNat = 1 by decide), Bool.false_and]
            rfl
          · rw [if_pos (show nI (true).toNat = 1 from rfl), Bool.true_and]
            cases fitd d a i b j
            · rw [if_pos (show nI (false).toNat = 0 from rfl)]
              rfl
            · rw [if_neg (show ¬ nI (true).toNat = 0 by decide)]
              rfl
        · rw [if_neg (show ¬ nI (true).toNat = 0 by decide), Bool.true_or]
          rfl
      · intro k
        dsimp only
        unfold f9_cut_l18_B f9_cut_b95
        rw [ck_nI (by omega) (by decide), ix_nI (by omega), e3b, if_pos (nI_le (Nat.le_refl _) (by omega)), ck_nI (by omega) (by decide), ix_nI (by omega), g2, ck_nI (by omega) (by decide), nI_s, shl1 (by omega), anyTo_8 hl i hRb, hcs, and_m1, andn_nI (by omega) (by omega), bn_e, bn_e, bn_e, bn_e]
        cases anyTo d lf a b i 8
        · rw [if_pos (show nI (false).toNat = 0 from rfl), if_neg Bool.false_ne_true]
        · rw [if_neg (show ¬ nI (true).toNat = 0 by decide), if_pos rfl, ck_nI (by omega) (by decide)]
    refine ⟨sa q1 24 a (nI (cm d lf a b (i + 1))), ⟨⟨fun j => g1.1 j, fun j hj => ?_⟩, ?_, fun u hu hne => ?_⟩, fun kk => ?_⟩
    · funext m
      rw [ar_sa, if_neg hj, g1.2 j hj]
    · rw [ar_sa, if_pos rfl, if_pos rfl]
    · rw [ar_sa, if_pos rfl, if_neg hne]; exact g3 u hu hne
    · dsimp only
      unfold f9_cut_l2_B
      rw [ck_nI (by omega) (by decide), ix_nI (by omega), e3a, if_neg (nI_ge hi (by omega))]
      exact inner _) (by
    rintro q1 ⟨g1, -⟩ kk
    have e3a : ar q1 3 a = nI (dR d a) := by rw [g1.2 3 (by decide)]; exact hr a (by omega)
    dsimp only
    unfold f9_cut_l2_B
    rw [ck_nI (by omega) (by decide), ix_nI (by omega), e3a, if_pos (nI_le (Nat.le_refl _) (by omega))]) N 0 q (by omega) (by omega) (by omega) ⟨frM.rf, hL a ha, fun u hu _ => hL u hu⟩
  refine ⟨q', hrun, g1, fun u hu => ?_⟩
  unfold cutP
  by_cases hua : u = a
  · rw [if_pos hua, hua, ← cm_8 hl hRa]; exact g2
  · rw [if_neg hua]; exact g3 u hu hua
/-! the ways of the cut -/
def lf0 (d : DB) (u : Nat) : Nat := 2 ^ dR d u - 1
theorem LF0 (d : DB) : LF d (lf0 d) := fun u => by
  have : 0 < 2 ^ dR d u := Nat.two_pow_pos _
  unfold lf0
  omega
def lfF (d : DB) (s : Nat) : Nat → Nat → Nat
  | 0 => lf0 d
  | k + 1 => cutP d (lfF d s k) (hkk d s k) (tk d s k)
def lfB (d : DB) (s : Nat) : Nat → Nat → Nat
  | 0 => lfF d s (KK d s - 1)
  | j + 1 => cutP d (lfB d s j) (tk d s (KK d s - 2 - j)) (hkk d s (KK d s - 2 - j))
theorem LFF (d : DB) (s : Nat) : ∀ k, LF d (lfF d s k)
  | 0 => LF0 d
  | k + 1 => (LFF d s k).cut _ _
theorem LFB (d : DB) (s : Nat) : ∀ k, LF d (lfB d s k)
  | 0 => LFF d s _
  | k + 1 => (LFB d s k).cut _ _
theorem Sq_nobit {s j : Nat} : ∀ k, k ≤ KK d s → j < k → (Sq d s k).testBit (tk d s j) = false
  | k + 1, hk, hj => by
    rw [Sq_s (show k < KK d s by omega), andn_bit]
    by_cases hjk : j = k
    · subst hjk
      rw [Nat.testBit_two_pow_self]
      simp
    · rw [Sq_nobit k (by omega) (by omega)]
      rfl
theorem tk_bit {s k : Nat} (hs : s < 2 ^ dT d) (hk : k < KK d s) : tk d s k < dT d ∧ (Sq d s k).testBit (tk d s k) = true := by
  have hle := Sq_le d s k
  have := gn_lt (d := d) (s := Sq d s k) (by omega) (KK_lt hk)
  exact ⟨this.1, this.2.1⟩
theorem tk_ne {s j k : Nat} (hs : s < 2 ^ dT d) (hj : j < k) (hk : k < KK d s) : tk d s k ≠ tk d s j := by
  intro e
  have h1 := (tk_bit hs hk).2
  rw [e, Sq_nobit k (by omega) hj] at h1
  cases h1
theorem hf_tk {s k : Nat} (hs : s < 2 ^ dT d) : ∀ n, n ≤ KK d s → k < n → hf d s n (tk d s k) = iI (hkk d s k)
  | n + 1, hn, hk => by
    show (if tk d s k = tk d s n then iI (hkk d s n) else hf d s n (tk d s k)) = _
    by_cases hkn : k = n
    · subst hkn; rw [if_pos rfl]
    · rw [if_neg (fun e => tk_ne hs (show k < n by omega) (by omega) e.symm)]
      exact hf_tk hs n (by omega) (by omega)
theorem hk_in {s k : Nat} (hs : s < 2 ^ dT d) (hk : k + 1 < KK d s) : hkk d s k < 6 := by
  have hle := Sq_le d s k
  have h1 := gn_lt (d := d) (s := Sq d s k) (by omega) (KK_lt (show k < KK d s by omega))
  rcases h1.2.2 with h | h
  · exfalso
    have h2 : Sq d s (k + 1) = 0 := by
      rw [Sq_s (show k < KK d s by omega)]
      apply Nat.eq_of_testBit_eq
      intro i
      rw [andn_bit, Nat.zero_testBit, show Sq d s k = 2 ^ tk d s k from h]
      simp
    have h3 := KK_lt hk
    have h4 : tk d s (k + 1) = gn d (Sq d s (k + 1)) := rfl
    rw [h4, h2, gn_0] at h3
    omega
  · exact h
theorem hk_out {s k : Nat} (hh : Sq d s (KK d s) = 0) (hk : k + 1 = KK d s) : hkk d s k = 6 := by
  rw [← hk, Sq_s (show k < KK d s by omega)] at hh
  refine ff_eq (by omega) (by omega) (fun j _ _ => ?_) (fun h => by omega)
  unfold hkp
  rw [hh, Nat.zero_testBit]
  rfl
theorem hk_T {s k : Nat} (hs : s < 2 ^ dT d) (hk : k + 1 < KK d s) : hkk d s k < dT d ∧ hkk d s k ≠ tk d s k := by
  have hle := Sq_le d s k
  exact hn_lt (d := d) (s := Sq d s k) (by omega) (hk_in hs hk)
end CutAll
