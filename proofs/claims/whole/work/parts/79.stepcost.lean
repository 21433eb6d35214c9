/-! bounds of pages, the cost and the order of a step -/
section StepCost
variable {N : Nat} {d : DB} {q : SS}
theorem mem_len {s : Nat} (hs : s < 64) : (mem s).length = pc s := by
  have key : ∀ s : Fin 64, (mem s.1).length = pc s.1 := by decide +kernel
  exact key ⟨s, hs⟩
theorem pc_6 {s : Nat} (hs : s < 64) : bsum (fun u => if s.testBit u then 1 else 0) 6 = pc s := by
  have key : ∀ s : Fin 64, bsum (fun u => if s.1.testBit u then 1 else 0) 6 = pc s.1 := by decide +kernel
  exact key ⟨s, hs⟩
theorem upn_le {x m : Nat} (hm : 1 ≤ m) : upn x m ≤ x := by
  unfold upn
  apply Nat.le_of_lt_succ
  rw [Nat.div_lt_iff_lt_mul (by omega), Nat.succ_mul]
  have : x * 1 ≤ x * m := Nat.mul_le_mul_left _ hm
  omega
theorem szb_pc (hw : WF d) {s : Nat} (hs : s < 64) (b : Nat) : szb d s b ≤ 8 ^ pc s := by
  unfold szb
  split
  · have h1 := bprod_le (f := fun u => if s.testBit u then dR d u else 1) (c := fun u => if s.testBit u then 1 else 0) (fun u => by
      have := R8 hw u
      cases s.testBit u
      · exact Nat.le_refl _
      · exact this) 6
    rw [pc_6 hs] at h1
    unfold fz
    split
    · exact Nat.zero_le _
    · exact Nat.le_trans (Nat.div_le_self _ _) h1
  · have h1 := enum_len hw (mem s) []
    rw [mem_len hs] at h1
    exact h1
theorem pgs_le (hw : WF d) {s b : Nat} (hs : s < 2 ^ dT d) : pgs d s b ≤ 8 ^ pc s := by
  have hs6 := s_lt hw hs
  unfold pgs
  by_cases h1 : pc s = 1
  · rw [if_pos h1, h1]
    have h2 := (pc1 hs6).mp h1
    have htT : tz s < dT d := bit_lt hs (by rw [show s.testBit (tz s) = (2 ^ tz s).testBit (tz s) from by rw [← h2.1], Nat.testBit_two_pow_self])
    exact Nat.le_trans (upn_le (x := dR d (tz s)) (hw.2.1 _ htT).2.2.2.1) (R8 hw _)
  · rw [if_neg h1]
    exact Nat.le_trans (upn_le (x := szb d s b) hw.2.2.2.2.1) (szb_pc hw hs6 b)
theorem pgs_20 (hw : WF d) {s b : Nat} (hs : s < 2 ^ dT d) : pgs d s b ≤ 262144 := by
  have h1 := pgs_le (b := b) hw hs
  have h2 := (pc6 (s_lt hw hs)).1
  have h3 : 8 ^ pc s ≤ 8 ^ 6 := Nat.pow_le_pow_right (by decide) h2
  omega
theorem psn_le (m : Nat) : ∀ f y, psn m f y ≤ f
  | 0, _ => Nat.le_refl _
  | f + 1, y => by
    have := psn_le m f (upn y (m - 1))
    show (if y ≤ 1 then 0 else 1 + psn m f (upn y (m - 1))) ≤ f + 1
    split <;> omega
theorem srt_le {x m : Nat} (hx : x ≤ 262144) : srt x m ≤ 11010048 := by
  unfold srt
  have h1 := psn_le m 20 (upn x m)
  split
  · omega
  · have : 2 * x * (1 + psn m 20 (upn x m)) ≤ 2 * 262144 * 21 := Nat.mul_le_mul (by omega) (by omega)
    omega
/-- may this step be done -/
def may (d : DB) (w A B : Nat) : Bool := decide (w = 108 ∨ sh d A B ≠ 0)
def stc (d : DB) (w pA pB A B oA oB : Nat) : Nat :=
  if w = 108 then (if pA ≤ dM d - 2 then 0 else pB * (upn pA (dM d - 2) - 1))
  else if w = 112 then (if min pA pB ≤ dM d - 2 then 0 else 2 * (pA + pB))
  else (if oA = tz (sh d A B) + 1 then 0 else srt pA (dM d)) + (if oB = tz (sh d A B) + 1 then 0 else srt pB (dM d))
def sto (d : DB) (w A B oA : Nat) : Nat := if w = 108 then oA else if w = 112 then 0 else tz (sh d A B) + 1
theorem c_loops {pA pB m : Nat} (hm : 3 ≤ m) (hm9 : m ≤ 9) (hA : pA ≤ 262144) : f5_loops (nI pA) (nI pB) (nI m) = some (nI (if pA ≤ m - 2 then 0 else pB * (upn pA (m - 2) - 1))) := by
  unfold f5_loops
  rw [li2, pk_sub (by omega), bn_e]
  by_cases h : pA ≤ m - 2
  · rw [if_pos (nI_le h (by omega)), if_pos h]
    rfl
  · have hup : 1 ≤ upn pA (m - 2) := by
      unfold upn
      rw [Nat.le_div_iff_mul_le (by omega)]
      omega
    rw [if_neg (nI_ge (by omega) (by omega)), if_neg h, c_roundedUp (by omega) (by omega), bd_s, li1, show (pA + (m - 2) - 1) / (m - 2) = upn pA (m - 2) from rfl, pk_sub hup, pk_mul]
theorem c_parts {pA pB m : Nat} (hm : 3 ≤ m) (hm9 : m ≤ 9) (hA : pA ≤ 262144) (hB : pB ≤ 262144) : f5_parts (nI pA) (nI pB) (nI m) = some (nI (if min pA pB ≤ m - 2 then 0 else 2 * (pA + pB))) := by
  unfold f5_parts
  rw [jmin_nI (by omega) (by omega), li2, pk_sub (by omega), nI_add, pk_mul]
  by_cases h : min pA pB ≤ m - 2
  · rw [if_pos (nI_le h (by omega)), if_pos h]
    rfl
  · rw [if_neg (nI_ge (by omega) (by omega)), if_neg h]
theorem m_stepCost (hw : WF d) (h : RMk d q) (hN : 1000 ≤ N) {w A B oA oB pA pB : Nat} (hww : w = 108 ∨ w = 112 ∨ w = 115) (hA : A < 2 ^ dT d) (hB : B < 2 ^ dT d) (hoA : oA ≤ 8) (hoB : oB ≤ 8) (hpA : pA ≤ 262144) (hpB : pB ≤ 262144) (eA : ar q 13 A = nI pA) (eB : ar q 13 B = nI pB) : f9_stepCost N q (nI w) (nI A) (nI B) (nI oA) (nI oB) = some (if may d w A B then nI (stc d w pA pB A B oA oB) else -1) := by
  have hm := hw.2.2.2.2.2.2.1
  have hm9 := hw.2.2.2.2.2.2.2.1
  have hA6 := s_lt hw hA
  have hB6 := s_lt hw hB
  have h3 := sh_lt hw A B
  have h4 := tz_lt h3
  unfold f9_stepCost
  rw [ck_nI hA6 (by decide), ix_nI (by omega), eA, bn_e, ck_nI hB6 (by decide), ix_nI (by omega), eB, bn_e, m_sharedBy hw h hN (by omega) (by omega), bd_s, h.2.2.1, li2, pk_sub (by omega)]
  unfold stc
  rcases hww with rfl | rfl | rfl
  · rw [if_pos (show nI 108 = 108 from rfl), show may d 108 A B = true from decide_eq_true (Or.inl rfl), if_pos rfl, if_pos rfl]
    by_cases hp : pA ≤ dM d - 2
    · rw [if_pos (nI_le hp (by omega)), if_pos hp]
      rfl
    · have hup : 1 ≤ upn pA (dM d - 2) := by
        unfold upn
        rw [Nat.le_div_iff_mul_le (by omega)]
        omega
      rw [if_neg (nI_ge (by omega) (by omega)), if_neg hp, m_up (by omega) (by omega), bd_s, li1, show (pA + (dM d - 2) - 1) / (dM d - 2) = upn pA (dM d - 2) from rfl, pk_sub hup, pk_mul]
  · rw [if_neg (show ¬ nI 112 = 108 by decide), if_neg (show ¬ 112 = 108 by decide), if_pos rfl]
    by_cases h0 : sh d A B = 0
    · rw [if_pos h0, if_pos rfl, show may d 112 A B = false from decide_eq_false (fun z => z.elim (by decide) (fun z => z h0)), if_neg Bool.false_ne_true]
    · rw [if_neg h0, if_neg (fun e => by
        have := congrArg Int32.toInt e
        rw [nI_toInt (by omega)] at this
        have h5 : (-1 : Int32).toInt = -1 := by decide
        rw [h5] at this
        omega), show may d 112 A B = true from decide_eq_true (Or.inr h0), if_pos rfl, if_pos (show nI 112 = 112 from rfl)]
      unfold f9_stepCost_b90
      rw [h.2.2.1, li2, pk_sub (by omega), nI_add, pk_mul]
      by_cases hAB : pB ≤ pA
      · rw [if_pos (nI_le hAB (by omega)), Nat.min_eq_right hAB]
        by_cases hp : pB ≤ dM d - 2
        · rw [if_pos (nI_le hp (by omega)), if_pos hp]
          rfl
        · rw [if_neg (nI_ge (by omega) (by omega)), if_neg hp]
      · rw [if_neg (nI_ge (by omega) (by omega)), Nat.min_eq_left (by omega)]
        by_cases hp : pA ≤ dM d - 2
        · rw [if_pos (nI_le hp (by omega)), if_pos hp]
          rfl
        · rw [if_neg (nI_ge (by omega) (by omega)), if_neg hp]
  · rw [if_neg (show ¬ nI 115 = 108 by decide), if_neg (show ¬ 115 = 108 by decide), if_neg (show ¬ 115 = 112 by decide)]
    by_cases h0 : sh d A B = 0
    · rw [if_pos h0, if_pos rfl, show may d 115 A B = false from decide_eq_false (fun z => z.elim (by decide) (fun z => z h0)), if_neg Bool.false_ne_true]
    · rw [if_neg h0, if_neg (fun e => by
        have := congrArg Int32.toInt e
        rw [nI_toInt (by omega)] at this
        have h5 : (-1 : Int32).toInt = -1 := by decide
        rw [h5] at this
        omega), show may d 115 A B = true from decide_eq_true (Or.inr h0), if_pos rfl, if_neg (show ¬ nI 115 = 112 by decide), nI_s]
      have hb : ∀ s0 : Nat, f9_stepCost_b130 N q (nI oB) (nI pB) (nI (tz (sh d A B))) (nI s0) = some (nI (s0 + (if oB = tz (sh d A B) + 1 then 0 else srt pB (dM d)))) := fun s0 => by
        unfold f9_stepCost_b130 f9_stepCost_b149
        rw [nI_s]
        by_cases ho : oB = tz (sh d A B) + 1
        · rw [if_pos (by rw [ho]), if_pos ho, li0, nI_add]
        · rw [if_neg (fun e => ho ((nI_eq (by omega) (by omega)).mp e)), if_neg ho, m_sorting hw h hN (by omega), bd_s, nI_add]
      by_cases ho : oA = tz (sh d A B) + 1
      · rw [if_pos (by rw [ho]), if_pos ho, Nat.zero_add]
        have := hb 0
        rw [Nat.zero_add] at this
        exact this
      · rw [if_neg (fun e => ho ((nI_eq (by omega) (by omega)).mp e)), if_neg ho, m_sorting hw h hN (by omega), bd_s]
        exact hb _
theorem m_stepOrder (hw : WF d) (h : RMk d q) (hN : 1000 ≤ N) {w A B oA : Nat} (hww : w = 108 ∨ w = 112 ∨ w = 115) (hA : A < 2 ^ dT d) (hB : B < 2 ^ dT d) : ∃ o, o ≤ max oA 8 ∧ f9_stepOrder N q (nI w) (nI A) (nI B) (nI oA) = some (nI o) ∧ (may d w A B = true → o = sto d w A B oA) := by
  have hA6 := s_lt hw hA
  have hB6 := s_lt hw hB
  have h3 := sh_lt hw A B
  have h4 := tz_lt h3
  unfold f9_stepOrder sto
  rcases hww with rfl | rfl | rfl
  · exact ⟨oA, by omega, by rw [if_pos (show nI 108 = 108 from rfl)], fun _ => rfl⟩
  · exact ⟨0, by omega, by rw [if_neg (show ¬ nI 112 = 108 by decide), if_pos (show nI 112 = 112 from rfl)]; rfl, fun _ => rfl⟩
  · by_cases h0 : sh d A B = 0
    · refine ⟨0, by omega, ?_, fun z => ?_⟩
      · rw [if_neg (show ¬ nI 115 = 108 by decide), if_neg (show ¬ nI 115 = 112 by decide), m_sharedBy hw h hN (by omega) (by omega), bd_s, if_pos h0]
        rfl
      · rw [show may d 115 A B = false from decide_eq_false (fun z => z.elim (by decide) (fun z => z h0))] at z
        cases z
    · refine ⟨tz (sh d A B) + 1, by omega, ?_, fun _ => rfl⟩
      rw [if_neg (show ¬ nI 115 = 108 by decide), if_neg (show ¬ nI 115 = 112 by decide), m_sharedBy hw h hN (by omega) (by omega), bd_s, if_neg h0, nI_s]
end StepCost
