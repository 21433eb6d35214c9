/-! what a step costs -/
section Steps
variable {N : Nat} {d : DB} {q : SS}
def upn (a b : Nat) : Nat := (a + b - 1) / b
/-- how often a sorting still goes over its pages -/
def psn (m : Nat) : Nat → Nat → Nat
  | 0, _ => 0
  | f + 1, y => if y ≤ 1 then 0 else 1 + psn m f (upn y (m - 1))
def srt (x m : Nat) : Nat := if x = 0 then 0 else 2 * x * (1 + psn m 20 (upn x m))
theorem upn_half {y m f : Nat} (hm : 3 ≤ m) (hy : y ≤ 2 ^ (f + 1)) : upn y (m - 1) ≤ 2 ^ f := by
  unfold upn
  rw [Nat.pow_succ] at hy
  have h1 : 2 ^ f * 2 ≤ 2 ^ f * (m - 1) := Nat.mul_le_mul_left _ (by omega)
  apply Nat.le_of_lt_succ
  rw [Nat.div_lt_iff_lt_mul (by omega), Nat.succ_mul]
  omega
theorem c_sort_loop {x m : Nat} (hm : 3 ≤ m) (hm9 : m ≤ 9) : ∀ (f y k g : Nat), y ≤ 2 ^ f → f ≤ 20 → f < g → k + f < 32 → f5_sorting_l14 N g (nI x) (nI m) (nI y) (nI k) = some (nI (2 * x * (k + psn m f y))) := by
  intro f
  induction f with
  | zero =>
    intro y k g hy _ hg hk
    obtain ⟨g, rfl⟩ : ∃ n, g = n + 1 := ⟨g - 1, by omega⟩
    have hy1 : y ≤ 1 := hy
    show f5_sorting_l14_B N (f5_sorting_l14 N g) _ _ _ _ = _
    unfold f5_sorting_l14_B f5_sorting_b39
    rw [if_pos (show nI y ≤ 1 from nI_le (b := 1) hy1 (by decide)), li2, pk_mul, pk_mul]
    rfl
  | succ f ih =>
    intro y k g hy hf hg hk
    obtain ⟨g, rfl⟩ : ∃ n, g = n + 1 := ⟨g - 1, by omega⟩
    have h20 : 2 ^ (f + 1) ≤ 2 ^ 20 := Nat.pow_le_pow_right (by decide) hf
    show f5_sorting_l14_B N (f5_sorting_l14 N g) _ _ _ _ = _
    unfold f5_sorting_l14_B f5_sorting_b39
    have hps : psn m (f + 1) y = if y ≤ 1 then 0 else 1 + psn m f (upn y (m - 1)) := rfl
    rw [hps]
    by_cases hy1 : y ≤ 1
    · rw [if_pos (show nI y ≤ 1 from nI_le (b := 1) hy1 (by decide)), if_pos hy1, li2, pk_mul, pk_mul]
      rfl
    · rw [if_neg (show ¬ nI y ≤ 1 from nI_ge (a := 1) (by omega) (by omega)), if_neg hy1, if_neg (show ¬ (32 : Int32) ≤ nI k from nI_ge (b := 32) (by omega) (by decide)), show nI m - 1 = nI (m - 1) from by rw [li1, pk_sub (by omega)], c_roundedUp (by omega) (by omega), bd_s, nI_s, bn_e]
      refine (ih (upn y (m - 1)) (k + 1) g (upn_half hm hy) (by omega) (by omega) (by omega)).trans ?_
      rw [Nat.add_assoc]
theorem m_sort_loop {x : Nat} (hw : WF d) (h : RMk d q) : ∀ (f y k g : Nat), y ≤ 2 ^ f → f ≤ 20 → f < g → f9_sorting_l17 N q g (nI x) (nI k) (nI y) = some (nI (2 * x * (k + psn (dM d) f y))) := by
  have hm := hw.2.2.2.2.2.2.1
  have hm9 := hw.2.2.2.2.2.2.2.1
  intro f
  induction f with
  | zero =>
    intro y k g hy _ hg
    obtain ⟨g, rfl⟩ : ∃ n, g = n + 1 := ⟨g - 1, by omega⟩
    have hy1 : y ≤ 1 := hy
    show f9_sorting_l17_B N q (f9_sorting_l17 N q g) _ _ _ = _
    unfold f9_sorting_l17_B
    rw [if_pos (show nI y ≤ 1 from nI_le (b := 1) hy1 (by decide)), li2, pk_mul, pk_mul]
    rfl
  | succ f ih =>
    intro y k g hy hf hg
    obtain ⟨g, rfl⟩ : ∃ n, g = n + 1 := ⟨g - 1, by omega⟩
    have h20 : 2 ^ (f + 1) ≤ 2 ^ 20 := Nat.pow_le_pow_right (by decide) hf
    show f9_sorting_l17_B N q (f9_sorting_l17 N q g) _ _ _ = _
    unfold f9_sorting_l17_B
    have hps : psn (dM d) (f + 1) y = if y ≤ 1 then 0 else 1 + psn (dM d) f (upn y (dM d - 1)) := rfl
    rw [hps]
    by_cases hy1 : y ≤ 1
    · rw [if_pos (show nI y ≤ 1 from nI_le (b := 1) hy1 (by decide)), if_pos hy1, li2, pk_mul, pk_mul]
      rfl
    · rw [if_neg (show ¬ nI y ≤ 1 from nI_ge (a := 1) (by omega) (by omega)), if_neg hy1, nI_s, bn_e, h.2.2.1, show nI (dM d) - 1 = nI (dM d - 1) from by rw [li1, pk_sub (by omega)], m_up (by omega) (by omega), bd_s]
      refine (ih (upn y (dM d - 1)) (k + 1) g (upn_half hm hy) (by omega) (by omega)).trans ?_
      rw [Nat.add_assoc]
theorem c_sorting {x m : Nat} (hN : 1000 ≤ N) (hm : 3 ≤ m) (hm9 : m ≤ 9) (hx : x ≤ 2 ^ 20) : f5_sorting N (nI x) (nI m) = some (nI (srt x m)) := by
  unfold f5_sorting srt
  by_cases h0 : x = 0
  · rw [h0, if_neg (show ¬ (0 : Int32) < nI 0 by decide), if_pos rfl]
    rfl
  · rw [if_pos (show (0 : Int32) < nI x from nI_lt (a := 0) (by omega) (by omega)), if_neg h0, c_roundedUp (by omega) (by omega), bd_s]
    have hu : upn x m ≤ 2 ^ 20 := Nat.le_trans (by
      unfold upn
      apply Nat.le_of_lt_succ
      rw [Nat.div_lt_iff_lt_mul (by omega), Nat.succ_mul]
      have : x * 1 ≤ x * m := Nat.mul_le_mul_left _ (by omega)
      omega) hx
    exact c_sort_loop hm hm9 20 (upn x m) 1 N hu (by decide) (by omega) (by decide)
theorem m_sorting {x : Nat} (hw : WF d) (h : RMk d q) (hN : 1000 ≤ N) (hx : x ≤ 2 ^ 20) : f9_sorting N q (nI x) = some (nI (srt x (dM d))) := by
  have hm := hw.2.2.2.2.2.2.1
  have hm9 := hw.2.2.2.2.2.2.2.1
  unfold f9_sorting srt
  by_cases h0 : x = 0
  · rw [h0, if_pos (show nI 0 = 0 from rfl), if_pos rfl]
    rfl
  · rw [if_neg (nz h0 (by omega)), if_neg h0, h.2.2.1, m_up (by omega) (by omega), bd_s]
    have hu : upn x (dM d) ≤ 2 ^ 20 := Nat.le_trans (by
      unfold upn
      apply Nat.le_of_lt_succ
      rw [Nat.div_lt_iff_lt_mul (by omega), Nat.succ_mul]
      have : x * 1 ≤ x * dM d := Nat.mul_le_mul_left _ (by omega)
      omega) hx
    exact m_sort_loop hw h 20 (upn x (dM d)) 1 N hu (by decide) (by omega)
def sh (d : DB) (a b : Nat) : Nat := lS d a &&& lS d b
theorem sh_lt (hw : WF d) (a b : Nat) : sh d a b < 256 := Nat.lt_of_le_of_lt Nat.and_le_left (lS_lt hw a)
theorem ff_tz {x : Nat} (hx : x < 256) : ff (fun k => x.testBit k) 0 8 = if x = 0 then 8 else tz x := by
  have key : ∀ x : Fin 256, ff (fun k => x.1.testBit k) 0 8 = if x.1 = 0 then 8 else tz x.1 := by decide +kernel
  exact key ⟨x, hx⟩
theorem tz_lt {x : Nat} (hx : x < 256) : tz x < 8 := by
  have key : ∀ x : Fin 256, tz x.1 < 8 := by decide +kernel
  exact key ⟨x, hx⟩
theorem m_sharedBy (hw : WF d) (h : RMk d q) (hN : 1000 ≤ N) {a b : Nat} (ha : a < 2 ^ 31) (hb : b < 2 ^ 31) : f9_sharedBy N q (nI a) (nI b) = some (if sh d a b = 0 then -1 else nI (tz (sh d a b))) := by
  have h1 := lS_lt hw a
  have h2 := lS_lt hw b
  have h3 := sh_lt hw a b
  have h4 := tz_lt h3
  unfold f9_sharedBy
  rw [m_lettersIn hw h hN ha, bd_s, m_lettersIn hw h hN hb, bd_s, and_nI (by omega) (by omega), bn_e]
  have := loop_find (fun n (p : Int32 × Int32) => f9_sharedBy_l15 N q n p.1 p.2) (fun k p => f9_sharedBy_l15_B N q (fun x1 x2 => k (x1, x2)) p.1 p.2) (fun n p => rfl) (fun l => (nI (sh d a b), nI l)) (fun k => (sh d a b).testBit k) 8 (fun k => some (if k < 8 then nI k else -1)) (c := 0) (by
    intro l _ hl k
    have e1 := bit_nI (a := sh d a b) (b := l) (by omega) (by omega)
    dsimp only
    unfold f9_sharedBy_l15_B f9_sharedBy_b37
    rw [if_neg (show ¬ (8 : Int32) ≤ nI l from nI_ge (b := 8) hl (by decide)), e1, nI_s, bn_e, if_neg (show ¬ (8 : Int32) ≤ nI l from nI_ge (b := 8) hl (by decide)), if_pos hl]
    cases (sh d a b).testBit l
    · rw [if_pos (show nI (false).toNat = 0 from rfl), if_neg Bool.false_ne_true]
    · rw [if_neg (show ¬ nI (true).toNat = 0 by decide), if_pos rfl]) (by
    intro k
    dsimp only
    unfold f9_sharedBy_l15_B f9_sharedBy_b37
    rw [if_pos (show (8 : Int32) ≤ nI 8 by decide), if_pos (show (8 : Int32) ≤ nI 8 by decide), if_neg (by decide)]) 8 N 0 (by omega) (by omega) (by omega)
  refine Eq.trans this ?_
  rw [ff_tz h3]
  by_cases h0 : sh d a b = 0
  · rw [if_pos h0, if_pos h0, if_neg (by decide)]
  · rw [if_neg h0, if_neg h0, if_pos h4]
end Steps
