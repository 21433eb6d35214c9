/-! sums over bits; the class's methods that go over letters, rows, sets -/
theorem bsum_congr {f g : Nat → Nat} : ∀ {n : Nat}, (∀ i, i < n → f i = g i) → bsum f n = bsum g n
  | 0, _ => rfl
  | n + 1, h => by
    show bsum f n + f n = bsum g n + g n
    rw [bsum_congr (n := n) (fun i hi => h i (by omega)), h n (by omega)]
theorem bsum_le {f g : Nat → Nat} : ∀ {n : Nat}, (∀ i, i < n → f i ≤ g i) → bsum f n ≤ bsum g n
  | 0, _ => Nat.le_refl _
  | n + 1, h => by
    have h1 := bsum_le (n := n) (fun i hi => h i (by omega))
    have h2 := h n (by omega)
    show bsum f n + f n ≤ bsum g n + g n
    omega
theorem bsum_const (c : Nat) : ∀ n, bsum (fun _ => c) n = c * n
  | 0 => rfl
  | n + 1 => by show bsum _ n + c = c * (n + 1); rw [bsum_const c n, Nat.mul_succ]
theorem pc_or {s v : Nat} (hv : v < 16) : pc (s ||| 2 ^ v) = pc s + (if s.testBit v then 0 else 1) := by
  have key : ∀ m, bsum (fun k => ((s ||| 2 ^ v).testBit k).toNat) m = bsum (fun k => (s.testBit k).toNat) m + (if v < m ∧ s.testBit v = false then 1 else 0) := by
    intro m
    induction m with
    | zero => simp [bsum]
    | succ m ih =>
      show bsum _ m + ((s ||| 2 ^ v).testBit m).toNat = bsum _ m + (s.testBit m).toNat + _
      rw [ih, Nat.testBit_or, Nat.testBit_two_pow]
      by_cases hm : v = m
      · subst hm
        cases hs : s.testBit v <;> simp
      · have e1 : (decide (v = m)) = false := decide_eq_false hm
        rw [e1, Bool.or_false]
        by_cases hlt : v < m
        · cases hs : s.testBit v
          · rw [if_pos ⟨hlt, rfl⟩, if_pos ⟨by omega, rfl⟩]; omega
          · rw [if_neg (by simp), if_neg (by simp)]; omega
        · rw [if_neg (by omega), if_neg (by omega)]; omega
  have h := key 16
  unfold pc
  rw [h]
  cases hs : s.testBit v
  · rw [if_pos ⟨hv, rfl⟩]; rfl
  · rw [if_neg (by simp)]; rfl
def orf (v : Nat → Nat) : Nat → Nat
  | 0 => 0
  | n + 1 => orf v n ||| 2 ^ v n
theorem orf_bit (v : Nat → Nat) (k : Nat) : ∀ n, (orf v n).testBit k = true ↔ ∃ j, j < n ∧ v j = k
  | 0 => by simp [orf]
  | n + 1 => by
    show (orf v n ||| 2 ^ v n).testBit k = true ↔ _
    rw [Nat.testBit_or, Bool.or_eq_true, orf_bit v k n, Nat.testBit_two_pow, decide_eq_true_eq]
    constructor
    · rintro (⟨j, h1, h2⟩ | h)
      · exact ⟨j, by omega, h2⟩
      · exact ⟨n, by omega, h⟩
    · rintro ⟨j, h1, h2⟩
      by_cases hj : j = n
      · subst hj; exact Or.inr h2
      · exact Or.inl ⟨j, by omega, h2⟩
theorem orf_lt {v : Nat → Nat} {m : Nat} (hv : ∀ i, v i < m) : ∀ n, orf v n < 2 ^ m
  | 0 => by show 0 < 2 ^ m; exact Nat.two_pow_pos m
  | n + 1 => Nat.or_lt_two_pow (orf_lt hv n) (Nat.pow_lt_pow_right (by decide) (hv n))
/-- how many of the first n are unlike all ahead of them -/
def uqf (v : Nat → Nat) (n : Nat) : Nat := bsum (fun i => if ∀ j, j < i → v j ≠ v i then 1 else 0) n
theorem pc_orf {v : Nat → Nat} (hv : ∀ i, v i < 16) : ∀ n, pc (orf v n) = uqf v n
  | 0 => by show pc 0 = 0; decide
  | n + 1 => by
    show pc (orf v n ||| 2 ^ v n) = bsum _ n + _
    rw [pc_or (hv n), pc_orf hv n]
    show _ = uqf v n + (if ∀ j, j < n → v j ≠ v n then 1 else 0)
    congr 1
    by_cases h : (orf v n).testBit (v n) = true
    · obtain ⟨j, h1, h2⟩ := (orf_bit v (v n) n).mp h
      rw [if_pos h, if_neg (fun z => z j h1 h2)]
    · rw [if_neg h, if_pos (fun j h1 h2 => h ((orf_bit v (v n) n).mpr ⟨j, h1, h2⟩))]
theorem uqf_le (v : Nat → Nat) (n : Nat) : uqf v n ≤ n := by
  have h := bsum_le (f := fun i => if ∀ j, j < i → v j ≠ v i then 1 else 0) (g := fun _ => 1) (n := n) (fun i _ => by split <;> omega)
  rw [bsum_const, Nat.one_mul] at h
  exact h
def uq (d : DB) (t l : Nat) : Nat := uqf (fun i => dV d t i l) (dR d t)
def sbp (d : DB) (t l : Nat) : Bool := (dL d t).testBit l && rise d t l
/-- the letter by which t is sorted, and one; 0 if by none -/
def sb (d : DB) (t : Nat) : Nat := if ff (sbp d t) 0 8 < 8 then ff (sbp d t) 0 8 + 1 else 0
theorem sb_le (d : DB) (t : Nat) : sb d t ≤ 8 := by unfold sb; split <;> omega
def cvf (d : DB) (s : Nat) : Nat → Nat
  | 0 => s
  | n + 1 => if (andn (n + 1) s = 0 ∧ lS d (n + 1) = lS d s) ∧ pc (n + 1) < pc (cvf d s n) then n + 1 else cvf d s n
def cov (d : DB) (s : Nat) : Nat := cvf d s (s - 1)
theorem cvf_lt (d : DB) {s : Nat} (hs : s < 64) : ∀ n, n < 64 → cvf d s n < 64
  | 0, _ => hs
  | n + 1, hn => by
    show (if _ then n + 1 else cvf d s n) < 64
    have := cvf_lt d hs n (by omega)
    split <;> omega
section CLeaf3
variable {d : DB} {q : SS}
theorem c_sortedLetter (hw : WF d) (h : RC d q) {N t : Nat} (hN : 1000 ≤ N) (ht : t < dT d) : f7_sortedLetter N q (nI t) = some (nI (sb d t) - 1) := by
  have hT := hw.1
  have key := loop_find (fun n (p : Int32 × Int32) => f7_sortedLetter_l2 N q n p.1 p.2) (fun k p => f7_sortedLetter_l2_B N q (fun a b => k (a, b)) p.1 p.2) (fun n p => rfl) (fun i => (nI t, nI i)) (sbp d t) 8 (fun i => if i < 8 then some (nI i) else some (-1)) (c := 0) (fun i _ hi k => by
    have e1 := c_has hw h ht hi
    dsimp only
    rw [if_pos hi]
    unfold f7_sortedLetter_l2_B f7_sortedLetter_b28 sbp
    cases hb : (dL d t).testBit i
    · rw [hb, Bool.toNat_false] at e1
      simp (disch := omega) only [bd_s, bd2_s, bn_e, ck_nI, dz_nI, cz_0, cz_1, ix_nI, le_t, le_f, lt_t, lt_f, eq_t, eq_f, if_true, if_false, nI_add, pk_sub, pk_mul, pk_div, e1, Bool.false_and, Bool.false_eq_true, li0, li1, li2, li3, li4, li5, li6, li7, li8, li9, li10, li12, li15, li16, li20, li21, li24, li31, li32, li40, li41, li48, li53, li55, li56, li57, li63, li64, li100, li108, li112, li115, li126, li127, li255, li256, li576, li384]
    · rw [hb, Bool.toNat_true] at e1
      have e2 := c_rowsRise hw h hN ht hi hb
      cases hr : rise d t i
      · rw [hr, Bool.toNat_false] at e2
        simp (disch := omega) only [bd_s, bd2_s, bn_e, ck_nI, dz_nI, cz_0, cz_1, ix_nI, le_t, le_f, lt_t, lt_f, eq_t, eq_f, if_true, if_false, nI_add, pk_sub, pk_mul, pk_div, e1, e2, Bool.true_and, Bool.false_eq_true, li0, li1, li2, li3, li4, li5, li6, li7, li8, li9, li10, li12, li15, li16, li20, li21, li24, li31, li32, li40, li41, li48, li53, li55, li56, li57, li63, li64, li100, li108, li112, li115, li126, li127, li255, li256, li576, li384]
      · rw [hr, Bool.toNat_true] at e2
        simp (disch := omega) only [bd_s, bd2_s, bn_e, ck_nI, dz_nI, cz_0, cz_1, ix_nI, le_t, le_f, lt_t, lt_f, eq_t, eq_f, if_true, if_false, nI_add, pk_sub, pk_mul, pk_div, e1, e2, Bool.true_and, li0, li1, li2, li3, li4, li5, li6, li7, li8, li9, li10, li12, li15, li16, li20, li21, li24, li31, li32, li40, li41, li48, li53, li55, li56, li57, li63, li64, li100, li108, li112, li115, li126, li127, li255, li256, li576, li384]) (fun k => by
    dsimp only
    rw [if_neg (by decide)]
    unfold f7_sortedLetter_l2_B
    rw [if_pos (by decide)]) 8 N 0 (Nat.le_refl _) rfl (by omega)
  refine Eq.trans (key : f7_sortedLetter N q (nI t) = _) ?_
  unfold sb
  by_cases hx : ff (sbp d t) 0 8 < 8
  · rw [if_pos hx, if_pos hx, nI_pred]
  · rw [if_neg hx, if_neg hx]
    rfl
theorem c_unlike (hw : WF d) (h : RC d q) {N t l : Nat} (hN : 1000 ≤ N) (ht : t < dT d) (hl : l < 8) (hb : (dL d t).testBit l = true) : f7_unlikeNumbers N q (nI t) (nI l) = some (nI (uq d t l)) := by
  have hT := hw.1
  have hR := (hw.2.1 t ht).2.2.2.2.2
  have hv : ∀ i, dV d t i l < 10 := fun i => by have := hw.2.2.2.1 t i l; omega
  have hc : ∀ i, cdf d t i l = dV d t i l := fun i => if_pos hb
  have e3 := c_rowsOf hw h (t := t) (by omega)
  refine loop_run (fun n (p : Int32 × Int32 × Int32 × Int32) => f7_unlikeNumbers_l5 N q n p.1 p.2.1 p.2.2.1 p.2.2.2) (fun k p => f7_unlikeNumbers_l5_B N q (fun a b c e => k (a, b, c, e)) p.1 p.2.1 p.2.2.1 p.2.2.2) (fun n p => rfl) (fun i => (nI t, nI l, nI (orf (fun i => dV d t i l) i), nI i)) (dR d t) _ (c := 0) ?_ ?_ N 0 (Nat.le_refl _) (Nat.zero_le _) (by omega)
  · intro i _ hi k
    have e1 := c_codeAt hw h ht hi
    have e2 := c_number hw (t := t) (i := i) hl
    rw [hc] at e2
    have h1 := hv i
    have h2 := orf_lt hv i
    have h3 : 2 ^ dV d t i l < 2 ^ 10 := Nat.pow_lt_pow_right (by decide) h1
    have e4 := shl_nI (a := 1) (b := dV d t i l) (by omega) (by omega)
    rw [Nat.one_mul] at e4
    have e5 := or_nI (a := orf (fun i => dV d t i l) i) (b := 2 ^ dV d t i l) (by omega) (by omega)
    dsimp only
    unfold f7_unlikeNumbers_l5_B
    simp (disch := omega) only [bd_s, bd2_s, bn_e, ck_nI, dz_nI, cz_0, cz_1, ix_nI, le_t, le_f, lt_t, lt_f, eq_t, eq_f, if_true, if_false, nI_add, pk_sub, pk_mul, pk_div, e1, e2, e3, e4, e5, li0, li1, li2, li3, li4, li5, li6, li7, li8, li9, li10, li12, li15, li16, li20, li21, li24, li31, li32, li40, li41, li48, li53, li55, li56, li57, li63, li64, li100, li108, li112, li115, li126, li127, li255, li256, li576, li384]
    rfl
  · intro k
    have h2 := orf_lt hv (dR d t)
    have e6 := bitCount_ok (s := orf (fun i => dV d t i l) (dR d t)) (by omega)
    rw [pc_orf (fun i => by have := hv i; omega)] at e6
    dsimp only
    unfold f7_unlikeNumbers_l5_B
    simp (disch := omega) only [bd_s, bd2_s, bn_e, ck_nI, dz_nI, cz_0, cz_1, ix_nI, le_t, le_f, lt_t, lt_f, eq_t, eq_f, if_true, if_false, nI_add, pk_sub, pk_mul, pk_div, e3, e6, li0, li1, li2, li3, li4, li5, li6, li7, li8, li9, li10, li12, li15, li16, li20, li21, li24, li31, li32, li40, li41, li48, li53, li55, li56, li57, li63, li64, li100, li108, li112, li115, li126, li127, li255, li256, li576, li384]
    rfl
theorem c_rowsOfAll (hw : WF d) (h : RC d q) {N : Nat} (hN : 1000 ≤ N) : f7_rowsOfAll N q = some (nI (bsum (dR d) (dT d))) := by
  have hT := hw.1
  refine loop_run (fun n (p : Int32 × Int32) => f7_rowsOfAll_l4 N q n p.1 p.2) (fun k p => f7_rowsOfAll_l4_B N q (fun a b => k (a, b)) p.1 p.2) (fun n p => rfl) (fun i => (nI (bsum (dR d) i), nI i)) (dT d) _ (c := 0) ?_ ?_ N 0 (Nat.le_refl _) (Nat.zero_le _) (by omega)
  · intro i _ hi k
    have e1 := h.2.2.2.2.2.2.1 i (by omega)
    dsimp only
    unfold f7_rowsOfAll_l4_B
    rw [h.2.1]
    simp (disch := omega) only [bd_s, bd2_s, bn_e, ck_nI, dz_nI, cz_0, cz_1, ix_nI, le_t, le_f, lt_t, lt_f, eq_t, eq_f, if_true, if_false, nI_add, pk_sub, pk_mul, pk_div, e1, li0, li1, li2, li3, li4, li5, li6, li7, li8, li9, li10, li12, li15, li16, li20, li21, li24, li31, li32, li40, li41, li48, li53, li55, li56, li57, li63, li64, li100, li108, li112, li115, li126, li127, li255, li256, li576, li384]
    rfl
  · intro k
    dsimp only
    unfold f7_rowsOfAll_l4_B
    rw [h.2.1]
    simp (disch := omega) only [bd_s, bd2_s, bn_e, ck_nI, dz_nI, cz_0, cz_1, ix_nI, le_t, le_f, lt_t, lt_f, eq_t, eq_f, if_true, if_false, nI_add, pk_sub, pk_mul, pk_div, li0, li1, li2, li3, li4, li5, li6, li7, li8, li9, li10, li12, li15, li16, li20, li21, li24, li31, li32, li40, li41, li48, li53, li55, li56, li57, li63, li64, li100, li108, li112, li115, li126, li127, li255, li256, li576, li384]
theorem c_cover (hw : WF d) (h : RC d q) {N s : Nat} (hN : 1000 ≤ N) (h1 : 1 ≤ s) (h2 : s < 64) : f7_fewestThatCover N q (nI s) = some (nI (cov d s)) := by
  unfold f7_fewestThatCover
  rw [c_lettersOfSet hw h hN (by omega), bd_s]
  refine loop_run (fun n (p : Int32 × Int32 × Int32 × Int32) => f7_fewestThatCover_l11 N q n p.1 p.2.1 p.2.2.1 p.2.2.2) (fun k p => f7_fewestThatCover_l11_B N q (fun a b c e => k (a, b, c, e)) p.1 p.2.1 p.2.2.1 p.2.2.2) (fun n p => rfl) (fun i => (nI s, nI (lS d s), nI (cvf d s (i - 1)), nI i)) s _ (c := 1) ?_ ?_ N 1 (Nat.le_refl _) h1 (by omega)
  · intro i hi1 hi k
    obtain ⟨j, rfl⟩ : ∃ j, i = j + 1 := ⟨i - 1, by omega⟩
    have e1 := c_lettersOfSet hw h hN (s := j + 1) (by omega)
    have e2 := andn_nI (a := j + 1) (b := s) (by omega) (by omega)
    have e3 := bitCount_ok (s := j + 1) (by omega)
    have hcv := cvf_lt d h2 j (by omega)
    have e4 := bitCount_ok (s := cvf d s j) (by omega)
    have l1 := lS_lt hw (j + 1)
    have l2 := lS_lt hw s
    have a1 : andn (j + 1) s < 2 ^ 6 := Nat.xor_lt_two_pow (by omega) (Nat.lt_of_le_of_lt Nat.and_le_left (by omega))
    have p1 := pc_le (s := j + 1)
    have p2 := pc_le (s := cvf d s j)
    dsimp only
    rw [show j + 1 - 1 = j by omega, show j + 1 + 1 - 1 = j + 1 by omega]
    unfold f7_fewestThatCover_l11_B f7_fewestThatCover_b47 f7_fewestThatCover_b48 f7_fewestThatCover_b70
    rw [e2]
    by_cases c1 : andn (j + 1) s = 0
    · by_cases c2 : lS d (j + 1) = lS d s
      · by_cases c3 : pc (j + 1) < pc (cvf d s j)
        · have e9 : cvf d s (j + 1) = j + 1 := if_pos ⟨⟨c1, c2⟩, c3⟩
          simp (disch := omega) only [bd_s, bd2_s, bn_e, ck_nI, dz_nI, cz_0, cz_1, ix_nI, le_t, le_f, lt_t, lt_f, eq_t, eq_f, if_true, if_false, nI_add, pk_sub, pk_mul, pk_div, e1, e3, e4, e9, c1, c2, li0, li1, li2, li3, li4, li5, li6, li7, li8, li9, li10, li12, li15, li16, li20, li21, li24, li31, li32, li40, li41, li48, li53, li55, li56, li57, li63, li64, li100, li108, li112, li115, li126, li127, li255, li256, li576, li384]
        · have e9 : cvf d s (j + 1) = cvf d s j := if_neg (fun z => c3 z.2)
          simp (disch := omega) only [bd_s, bd2_s, bn_e, ck_nI, dz_nI, cz_0, cz_1, ix_nI, le_t, le_f, lt_t, lt_f, eq_t, eq_f, if_true, if_false, nI_add, pk_sub, pk_mul, pk_div, e1, e3, e4, e9, c1, c2, li0, li1, li2, li3, li4, li5, li6, li7, li8, li9, li10, li12, li15, li16, li20, li21, li24, li31, li32, li40, li41, li48, li53, li55, li56, li57, li63, li64, li100, li108, li112, li115, li126, li127, li255, li256, li576, li384]
      · have e9 : cvf d s (j + 1) = cvf d s j := if_neg (fun z => c2 z.1.2)
        simp (disch := omega) only [bd_s, bd2_s, bn_e, ck_nI, dz_nI, cz_0, cz_1, ix_nI, le_t, le_f, lt_t, lt_f, eq_t, eq_f, if_true, if_false, nI_add, pk_sub, pk_mul, pk_div, e1, e9, c1, li0, li1, li2, li3, li4, li5, li6, li7, li8, li9, li10, li12, li15, li16, li20, li21, li24, li31, li32, li40, li41, li48, li53, li55, li56, li57, li63, li64, li100, li108, li112, li115, li126, li127, li255, li256, li576, li384]
    · have e9 : cvf d s (j + 1) = cvf d s j := if_neg (fun z => c1 z.1.1)
      simp (disch := omega) only [bd_s, bd2_s, bn_e, ck_nI, dz_nI, cz_0, cz_1, ix_nI, le_t, le_f, lt_t, lt_f, eq_t, eq_f, if_true, if_false, nI_add, pk_sub, pk_mul, pk_div, e9, li0, li1, li2, li3, li4, li5, li6, li7, li8, li9, li10, li12, li15, li16, li20, li21, li24, li31, li32, li40, li41, li48, li53, li55, li56, li57, li63, li64, li100, li108, li112, li115, li126, li127, li255, li256, li576, li384]
  · intro k
    dsimp only
    unfold f7_fewestThatCover_l11_B
    simp (disch := omega) only [bd_s, bd2_s, bn_e, ck_nI, dz_nI, cz_0, cz_1, ix_nI, le_t, le_f, lt_t, lt_f, eq_t, eq_f, if_true, if_false, nI_add, pk_sub, pk_mul, pk_div, li0, li1, li2, li3, li4, li5, li6, li7, li8, li9, li10, li12, li15, li16, li20, li21, li24, li31, li32, li40, li41, li48, li53, li55, li56, li57, li63, li64, li100, li108, li112, li115, li126, li127, li255, li256, li576, li384]
    rfl
theorem c_maskOf {N s : Nat} (hN : 1000 ≤ N) (hs : s < 256) : f4_maskOf N (nI s) = some (nI (mk s)) := by
  refine loop_run (fun n (p : Int32 × Int32 × Int32) => f4_maskOf_l4 N n p.1 p.2.1 p.2.2) (fun k p => f4_maskOf_l4_B N (fun a b c => k (a, b, c)) p.1 p.2.1 p.2.2) (fun n p => rfl) (fun i => (nI s, nI (nib (fun l => if s.testBit l then 15 else 0) i), nI i)) 8 _ (c := 0) ?_ ?_ N 0 (Nat.le_refl _) (Nat.zero_le _) (by omega)
  · intro i _ hi k
    have e1 := bit_nI (a := s) (b := i) (by omega) (by omega)
    have h4 : nib (fun l => if s.testBit l then 15 else 0) i < 2 ^ (4 * i) := nib_lt (mk_f s) i
    have h5 : 2 ^ (4 * i) ≤ 2 ^ 28 := Nat.pow_le_pow_right (by decide) (by omega)
    have e2 := shl_nI (a := 15) (b := 4 * i) (by omega) (by omega)
    have e3 := or_nI (a := nib (fun l => if s.testBit l then 15 else 0) i) (b := 15 * 2 ^ (4 * i)) (by omega) (by omega)
    dsimp only
    unfold f4_maskOf_l4_B f4_maskOf_b28
    rw [e1]
    show _ = k (nI s, nI (2 ^ (4 * i) * (if s.testBit i then 15 else 0) + nib (fun l => if s.testBit l then 15 else 0) i), nI (i + 1))
    cases hb : s.testBit i
    · simp (disch := omega) only [bd_s, bd2_s, bn_e, ck_nI, dz_nI, cz_0, cz_1, ix_nI, le_t, le_f, lt_t, lt_f, eq_t, eq_f, if_true, if_false, nI_add, pk_sub, pk_mul, pk_div, Bool.toNat_false, Nat.mul_zero, Nat.zero_add, Bool.false_eq_true, li0, li1, li2, li3, li4, li5, li6, li7, li8, li9, li10, li12, li15, li16, li20, li21, li24, li31, li32, li40, li41, li48, li53, li55, li56, li57, li63, li64, li100, li108, li112, li115, li126, li127, li255, li256, li576, li384]
    · simp (disch := omega) only [bd_s, bd2_s, bn_e, ck_nI, dz_nI, cz_0, cz_1, ix_nI, le_t, le_f, lt_t, lt_f, eq_t, eq_f, if_true, if_false, nI_add, pk_sub, pk_mul, pk_div, Bool.toNat_true, e2, e3, li0, li1, li2, li3, li4, li5, li6, li7, li8, li9, li10, li12, li15, li16, li20, li21, li24, li31, li32, li40, li41, li48, li53, li55, li56, li57, li63, li64, li100, li108, li112, li115, li126, li127, li255, li256, li576, li384]
      rw [Nat.two_pow_add_eq_or_of_lt h4, Nat.or_comm, Nat.mul_comm 15]
  · intro k
    dsimp only
    unfold f4_maskOf_l4_B
    simp (disch := omega) only [bd_s, bd2_s, bn_e, ck_nI, dz_nI, cz_0, cz_1, ix_nI, le_t, le_f, lt_t, lt_f, eq_t, eq_f, if_true, if_false, nI_add, pk_sub, pk_mul, pk_div, li0, li1, li2, li3, li4, li5, li6, li7, li8, li9, li10, li12, li15, li16, li20, li21, li24, li31, li32, li40, li41, li48, li53, li55, li56, li57, li63, li64, li100, li108, li112, li115, li126, li127, li255, li256, li576, li384]
    rfl
theorem c_isLetter {l : Nat} (hl : l < 8) : f8_isLetter (nI l) = some 1 := by
  unfold f8_isLetter
  simp (disch := omega) only [bd_s, bd2_s, bn_e, ck_nI, dz_nI, cz_0, cz_1, ix_nI, le_t, le_f, lt_t, lt_f, eq_t, eq_f, if_true, if_false, nI_add, pk_sub, pk_mul, pk_div, li0, li1, li2, li3, li4, li5, li6, li7, li8, li9, li10, li12, li15, li16, li20, li21, li24, li31, li32, li40, li41, li48, li53, li55, li56, li57, li63, li64, li100, li108, li112, li115, li126, li127, li255, li256, li576, li384]
theorem c_isLetter_f {x : Int32} (hx : x < 0 ∨ (¬ x < 0 ∧ nI 8 ≤ x)) : f8_isLetter x = some 0 := by
  unfold f8_isLetter
  rcases hx with hx | ⟨h1, h2⟩
  · rw [if_pos hx]
  · rw [if_neg h1, if_pos (show (8 : Int32) ≤ x from h2)]
end CLeaf3
