/-! the chooser's cells -/
section CPut
variable {N : Nat} {d : DB} {q : SS}
theorem or_lN {a b : Nat} (ha : a < 2 ^ 64) (hb : b < 2 ^ 64) : lN a ||| lN b = lN (a ||| b) := by
  apply eq_tnL
  rw [Int64.toBitVec_or, BitVec.toNat_or, tn_lN ha, tn_lN hb, tn_lN (Nat.or_lt_two_pow ha hb)]
theorem lsmod_nI {b : Nat} (hb : b < 64) : (((nI b).toInt64 &&& 63).toBitVec.smod 64).toNat = b := by
  have key : ∀ b : Fin 64, (((nI b.1).toInt64 &&& 63).toBitVec.smod 64).toNat = b.1 := by decide +kernel
  exact key ⟨b, hb⟩
theorem lshl_lN {a b : Nat} (hb : b < 64) (h : a * 2 ^ b < 2 ^ 64) : jlshl (lN a) (nI b) = lN (a * 2 ^ b) := by
  have ha : a < 2 ^ 64 := Nat.lt_of_le_of_lt (Nat.le_mul_of_pos_right a (Nat.two_pow_pos b)) h
  apply eq_tnL
  show ((lN a).toBitVec <<< (((nI b).toInt64 &&& 63).toBitVec.smod 64)).toNat = _
  rw [BitVec.shiftLeft_eq', BitVec.toNat_shiftLeft, lsmod_nI hb, tn_lN ha, tn_lN h, Nat.shiftLeft_eq, Nat.mod_eq_of_lt h]
theorem i64_nI {w : Nat} (h : w < 2 ^ 31) : (nI w).toInt64 = lN w := by
  apply Int64.toInt_inj.mp
  rw [Int32.toInt_toInt64, nI_toInt h, lN_big (by omega)]
theorem leL {a b : Nat} (ha : a < 2 ^ 63) (hb : b < 2 ^ 63) : lN a ≤ lN b ↔ a ≤ b := by
  rw [Int64.le_iff_toInt_le, lN_big ha, lN_big hb]
  omega
theorem ltL {a b : Nat} (ha : a < 2 ^ 63) (hb : b < 2 ^ 63) : lN a < lN b ↔ a < b := by
  rw [Int64.lt_iff_toInt_lt, lN_big ha, lN_big hb]
  omega
theorem p16 (n : Nat) : 16 ^ n = 2 ^ (4 * n) := by rw [Nat.pow_mul]
theorem c_keySigns {s : Nat} (hs : s < 64) (hp : 1 ≤ pc s) : f0_keySigns (nI s) = some (nI (nk s)) := by
  unfold f0_keySigns nk
  rw [bitCount_ok (by omega), bd_s, li3, pk_mul, li2, pk_sub (by omega)]
theorem c_keyOfStep {A B k1 k2 w : Nat} (hA : A < 64) (hB : B < 64) (pA : 1 ≤ pc A) (pB : 1 ≤ pc B) (hp : pc A + pc B ≤ 6) (hw : w < 16) (h1 : k1 < 16 ^ nk A) (h2 : k2 < 16 ^ nk B) : f0_keyOfStep (nI A) (lN k1) (nI w) (nI B) (lN k2) = some (lN (((16 ^ nk A + k1) * 16 + w) * 16 ^ nk B + k2)) := by
  have hn1 : nk A ≤ 13 := by unfold nk; omega
  have hn2 : nk B ≤ 13 := by unfold nk; omega
  have hn : nk A + nk B ≤ 14 := by unfold nk; omega
  unfold f0_keyOfStep
  rw [c_keySigns hA pA, bd_s, bn_e, c_keySigns hB pB, bd_s, li4, pk_mul, pk_mul, lL1]
  generalize nk A = n at *
  generalize nk B = m at *
  obtain ⟨g1, g2⟩ := cmb_key (a := k1) (b := k2) hn h1 h2 hw (Nat.mod_eq_of_lt (by have := pow16 (n := n) (by omega); omega)).symm (Nat.mod_eq_of_lt (by have := pow16 (n := m) (by omega); omega)).symm
  have b1 : 2 ^ (4 * n) ≤ 2 ^ 52 := Nat.pow_le_pow_right (by decide) (by omega)
  have b2 : 2 ^ (4 * m) ≤ 2 ^ 52 := Nat.pow_le_pow_right (by decide) (by omega)
  rw [p16 n, p16 m] at *
  have s1 : jlshl (lN 1) (nI (4 * n)) = lN (2 ^ (4 * n)) := by rw [lshl_lN (by omega) (by omega), Nat.one_mul]
  have s2 : lN (2 ^ (4 * n)) ||| lN k1 = lN (2 ^ (4 * n) + k1) := by
    rw [or_lN (by omega) (by omega)]
    have := Nat.two_pow_add_eq_or_of_lt h1 1
    rw [Nat.mul_one] at this
    rw [this]
  have s3 : jlshl (lN (2 ^ (4 * n) + k1)) (nI 4) = lN ((2 ^ (4 * n) + k1) * 16) := lshl_lN (b := 4) (by omega) (by omega)
  have s4 : lN ((2 ^ (4 * n) + k1) * 16) ||| lN w = lN ((2 ^ (4 * n) + k1) * 16 + w) := by
    rw [or_lN (by omega) (by omega)]
    have := Nat.two_pow_add_eq_or_of_lt (i := 4) (b := w) (by omega) (2 ^ (4 * n) + k1)
    rw [Nat.mul_comm (2 ^ 4)] at this
    rw [← this]
  have hlt : ((2 ^ (4 * n) + k1) * 16 + w) * 2 ^ (4 * m) < 2 ^ 64 := by
    have e : 2 ^ 64 = 18446744073709551616 := by decide
    rw [e]
    omega
  have s5 : jlshl (lN ((2 ^ (4 * n) + k1) * 16 + w)) (nI (4 * m)) = lN (((2 ^ (4 * n) + k1) * 16 + w) * 2 ^ (4 * m)) := lshl_lN (by omega) hlt
  have s6 : lN (((2 ^ (4 * n) + k1) * 16 + w) * 2 ^ (4 * m)) ||| lN k2 = lN (((2 ^ (4 * n) + k1) * 16 + w) * 2 ^ (4 * m) + k2) := by
    rw [or_lN hlt (by omega)]
    have := Nat.two_pow_add_eq_or_of_lt h2 ((2 ^ (4 * n) + k1) * 16 + w)
    rw [Nat.mul_comm (2 ^ (4 * m))] at this
    rw [← this]
  rw [s1, s2, s3, i64_nI (by omega), s4, s5, s6]
def cellC (q : SS) (i v : Nat) : Prop := (v = INF ∧ ar q 22 i = -1) ∨ (v ≠ INF ∧ ar q 22 i = nI (v / 18446744073709551616) ∧ lo q i = lN (v % 18446744073709551616))
def RowC (q : SS) (s : Nat) (V : Nat → Nat) : Prop := ∀ l, l < 9 → cellC q (9 * s + l) (V l)
theorem cellC_same {q q' : SS} {i v : Nat} (h : cellC q i v) (e1 : ar q' 22 i = ar q 22 i) (e2 : lo q' i = lo q i) : cellC q' i v := by
  unfold cellC
  rw [e1, e2]
  exact h
def frI (i : Nat) (q q' : SS) : Prop := (∀ j, fi q' j = fi q j) ∧ (∀ k, k ≠ 22 → ar q' k = ar q k) ∧ ∀ m, m ≠ i → ar q' 22 m = ar q 22 m ∧ lo q' m = lo q m
theorem c_put {i v x s : Nat} (hi : i < 576) (p1 : 1 ≤ pc s) (p6 : pc s ≤ 6) (hv : v ≠ INF → GV s (CB s) v) (hx : GV s (CB s) x) (h : cellC q i v) : ∃ q', f0_putIfBetter (nI i) (nI (x / 18446744073709551616)) (lN (x % 18446744073709551616)) q = some q' ∧ cellC q' i (min v x) ∧ frI i q q' := by
  have hcb := CB_lt p6
  have hxI := GV_INF (by omega) hx
  have hx1 := GV_lt p1 p6 hx
  have hx2 := hx.2
  have put : ∀ s0 : SS, s0 = sl (sa q 22 i (nI (x / 18446744073709551616))) i (lN (x % 18446744073709551616)) → cellC s0 i x ∧ frI i q s0 := by
    rintro s0 rfl
    refine ⟨Or.inr ⟨by omega, ?_, ?_⟩, fun _ => rfl, fun k hk => ?_, fun m hm => ⟨?_, ?_⟩⟩
    · rw [ar_sl, ga]
    · rw [lo_sl, if_pos rfl]
    · rw [ar_sl, gk _ _ _ _ hk]
    · rw [ar_sl, gi _ _ _ _ hm]
    · rw [lo_sl, if_neg hm, lo_sa]
  have e67 : f0_putIfBetter_b67 (nI i) (nI (x / 18446744073709551616)) (lN (x % 18446744073709551616)) q = some (sl (sa q 22 i (nI (x / 18446744073709551616))) i (lN (x % 18446744073709551616))) := by
    unfold f0_putIfBetter_b67
    rw [ck_nI hi (by decide), ix_nI (by omega), bn_e, ck_nI hi (by decide), bn_e]
  unfold f0_putIfBetter f0_putIfBetter_b29
  rw [if_neg (show ¬ nI i < 0 from nI_nlt (b := 0) (Nat.zero_le _) (by omega)), if_pos (show nI i < 576 from nI_lt (b := 576) hi (by decide)), ck_nI hi (by decide), ix_nI (by omega), e67]
  rcases h with ⟨rfl, h1⟩ | ⟨hne, h1, h2⟩
  · rw [h1, if_pos rfl, if_neg (show ¬ (1 : Int32) = 0 by decide), Nat.min_eq_right (by omega)]
    obtain ⟨g1, g2⟩ := put _ rfl
    exact ⟨_, rfl, g1, g2⟩
  · have gv := hv hne
    have hv1 := GV_lt p1 p6 gv
    have hv2 := gv.2
    rw [h1, if_neg (nI_m1 (by omega)), if_pos rfl, ck_nI hi (by decide), ck_nI hi (by decide), ck_nI hi (by decide), h2]
    by_cases c1 : x / 18446744073709551616 < v / 18446744073709551616
    · rw [if_pos (nI_lt c1 (by omega)), Nat.min_eq_right (by omega)]
      obtain ⟨g1, g2⟩ := put _ rfl
      exact ⟨_, rfl, g1, g2⟩
    · rw [if_neg (nI_nlt (by omega) (by omega))]
      by_cases c2 : x / 18446744073709551616 = v / 18446744073709551616
      · rw [if_pos (by rw [c2])]
        by_cases c3 : v % 18446744073709551616 ≤ x % 18446744073709551616
        · rw [if_pos ((leL (by omega) (by omega)).mpr c3), Nat.min_eq_left (by omega)]
          exact ⟨q, rfl, Or.inr ⟨hne, h1, h2⟩, fun _ => rfl, fun _ _ => rfl, fun _ _ => ⟨rfl, rfl⟩⟩
        · rw [if_neg (fun z => c3 ((leL (by omega) (by omega)).mp z)), Nat.min_eq_right (by omega)]
          obtain ⟨g1, g2⟩ := put _ rfl
          exact ⟨_, rfl, g1, g2⟩
      · rw [if_neg (fun e => c2 ((nI_eq (by omega) (by omega)).mp e)), Nat.min_eq_left (by omega)]
        exact ⟨q, rfl, Or.inr ⟨hne, h1, h2⟩, fun _ => rfl, fun _ _ => rfl, fun _ _ => ⟨rfl, rfl⟩⟩
/-- only the row of s changes -/
def frR (s : Nat) (q q' : SS) : Prop := (∀ j, fi q' j = fi q j) ∧ (∀ k, k ≠ 22 → ar q' k = ar q k) ∧ ∀ m, m < 9 * s ∨ 9 * s + 9 ≤ m → ar q' 22 m = ar q 22 m ∧ lo q' m = lo q m
theorem frR.rf {s : Nat} {q : SS} : frR s q q := ⟨fun _ => rfl, fun _ _ => rfl, fun _ _ => ⟨rfl, rfl⟩⟩
theorem frR.tr {s : Nat} {a b c : SS} (h : frR s a b) (g : frR s b c) : frR s a c := ⟨fun k => (g.1 k).trans (h.1 k), fun k hk => (g.2.1 k hk).trans (h.2.1 k hk), fun m hm => ⟨(g.2.2 m hm).1.trans (h.2.2 m hm).1, (g.2.2 m hm).2.trans (h.2.2 m hm).2⟩⟩
theorem frR.same {s : Nat} {a b : SS} (h : frR s a b) : sameC a b := ⟨fun k _ => h.1 k, fun k hk => h.2.1 k (by omega)⟩
theorem frR.row {s t : Nat} {a b : SS} {V : Nat → Nat} (h : frR s a b) (hst : t ≠ s) (r : RowC a t V) : RowC b t V := fun l hl => cellC_same (r l hl) (h.2.2 _ (by omega)).1 (h.2.2 _ (by omega)).2
def offV (V : Nat → Nat) (j x : Nat) : Nat → Nat := fun l => if l = j ∨ l = 8 then min (V l) x else V l
theorem offV_GV {V : Nat → Nat} {j x s : Nat} (hV : ∀ l, l < 9 → V l ≠ INF → GV s (CB s) (V l)) (p6 : pc s ≤ 6) (hx : GV s (CB s) x) : ∀ l, l < 9 → offV V j x l ≠ INF → GV s (CB s) (offV V j x l) := by
  intro l hl hne
  have hcb := CB_lt p6
  have hxI := GV_INF (by omega) hx
  unfold offV at *
  split
  · rcases Nat.lt_or_ge (V l) x with z | z
    · rw [Nat.min_eq_left (by omega)]
      exact hV l hl (by omega)
    · rw [Nat.min_eq_right z]
      exact hx
  · rename_i h
    rw [if_neg h] at hne
    exact hV l hl hne
theorem c_offer {x s j : Nat} {V : Nat → Nat} (hs : s < 64) (p1 : 1 ≤ pc s) (p6 : pc s ≤ 6) (hj : j < 9) (hV : ∀ l, l < 9 → V l ≠ INF → GV s (CB s) (V l)) (hx : GV s (CB s) x) (h : RowC q s V) : ∃ q', f0_offer (nI s) (nI j) (nI (x / 18446744073709551616)) (lN (x % 18446744073709551616)) q = some q' ∧ RowC q' s (offV V j x) ∧ frR s q q' := by
  obtain ⟨qa, r1, c1, f1⟩ := c_put (i := 9 * s + j) (by omega) p1 p6 (hV j hj) hx (h j hj)
  have hcb := CB_lt p6
  have hxI := GV_INF (by omega) hx
  have h8 : cellC qa (9 * s + 8) (if j = 8 then min (V 8) x else V 8) := by
    by_cases e : j = 8
    · subst e
      rw [if_pos rfl]
      exact c1
    · rw [if_neg e]
      exact cellC_same (h 8 (by decide)) (f1.2.2 _ (by omega)).1 (f1.2.2 _ (by omega)).2
  obtain ⟨qb, r2, c2, f2⟩ := c_put (i := 9 * s + 8) (v := if j = 8 then min (V 8) x else V 8) (by omega) p1 p6 (fun hne => by
    have := offV_GV (j := 8) hV p6 hx 8 (by decide)
    unfold offV at this
    rw [if_pos (Or.inl rfl)] at this
    by_cases e : j = 8
    · rw [if_pos e] at hne ⊢
      exact this hne
    · rw [if_neg e] at hne ⊢
      exact hV 8 (by decide) hne) hx h8
  refine ⟨qb, ?_, fun l hl => ?_, fun k => (f2.1 k).trans (f1.1 k), fun k hk => (f2.2.1 k hk).trans (f1.2.1 k hk), fun m hm => ⟨(f2.2.2 m (by omega)).1.trans (f1.2.2 m (by omega)).1, (f2.2.2 m (by omega)).2.trans (f1.2.2 m (by omega)).2⟩⟩
  · unfold f0_offer
    rw [li9, pk_mul, nI_add, show s * 9 + j = 9 * s + j by omega, r1, bd_s, li8, nI_add, show s * 9 + 8 = 9 * s + 8 by omega, r2, bd_s]
  · unfold offV
    by_cases e8 : l = 8
    · subst e8
      rw [if_pos (Or.inr rfl)]
      have : min (if j = 8 then min (V 8) x else V 8) x = min (V 8) x := by split <;> omega
      rw [← this]
      exact c2
    · have k2 := f2.2.2 (9 * s + l) (by omega)
      by_cases ej : l = j
      · subst ej
        rw [if_pos (Or.inl rfl)]
        exact cellC_same c1 k2.1 k2.2
      · have k1 := f1.2.2 (9 * s + l) (by omega)
        rw [if_neg (by omega)]
        exact cellC_same (h l hl) (k2.1.trans k1.1) (k2.2.trans k1.2)
/-! what a row is asked for -/
theorem c_slotFor (hw : WF d) {b s l : Nat} {R : Nat → Nat} (hs1 : 1 ≤ s) (hs : s < 2 ^ dT d) (hl : l < 8) (hR : RG R s) (h : RowC q s R) (e25 : ar q 25 s = nI (srb d b s)) : f0_slotFor q (nI s) (nI l) = some (nI (if R l ≤ R 8 + srb d b s * 18446744073709551616 then l else 8)) := by
  have hs6 := s_lt hw hs
  have hp6 := (pc6 hs6).1
  have hp1 := pc_pos hs1 hs6
  have hcb := CB_lt hp6
  have hsb := srb_le (b := b) hw hs
  have g8 := hR.1 8 (by decide) hR.2
  have k8 := GV_lt hp1 hp6 g8
  have c8 := g8.2
  rcases h 8 (by decide) with ⟨z, -⟩ | ⟨-, e8, l8⟩
  · exact absurd z hR.2
  unfold f0_slotFor f0_slotFor_b99 f0_slotFor_b100 f0_slotFor_b119
  rw [if_neg (show ¬ nI s < 1 from nI_nlt (b := 1) hs1 (by omega)), if_neg (show ¬ (64 : Int32) ≤ nI s from nI_ge (b := 64) hs6 (by decide)), c_isLetter hl, bd_s, if_neg (show ¬ (1 : Int32) = 0 by decide), li9, pk_mul, li8, nI_add, nI_add, show s * 9 + 8 = 9 * s + 8 by omega, show s * 9 + l = 9 * s + l by omega, bn_e, bn_e]
  have ckl : ∀ k : Option Int32, ck (nI (9 * s + l)) 576 k = k := fun k => ck_nI (by omega) (by decide)
  have ck8 : ∀ k : Option Int32, ck (nI (9 * s + 8)) 576 k = k := fun k => ck_nI (by omega) (by decide)
  have cks : ∀ k : Option Int32, ck (nI s) 64 k = k := fun k => ck_nI hs6 (by decide)
  simp only [ckl, ck8, cks, bn_e]
  rw [ix_nI (show 9 * s + l < 2 ^ 31 by omega), ix_nI (show 9 * s + 8 < 2 ^ 31 by omega), ix_nI (show s < 2 ^ 31 by omega), e8, e25, nI_add, l8]
  rcases h l (by omega) with ⟨z, el⟩ | ⟨hne, el, ll⟩
  · have : ¬ R l ≤ R 8 + srb d b s * 18446744073709551616 := by
      have := GV_INF (c := CB s + srb d b s) (by omega) (GV_add (m := srb d b s) g8)
      omega
    rw [el, if_pos rfl, if_neg this]
  · have gl := hR.1 l (by omega) hne
    have kl := GV_lt hp1 hp6 gl
    have cl := gl.2
    rw [el, if_neg (nI_m1 (by omega)), ll]
    by_cases a1 : R l / 18446744073709551616 = R 8 / 18446744073709551616 + srb d b s
    · rw [if_pos (by rw [a1])]
      by_cases a2 : R 8 % 18446744073709551616 < R l % 18446744073709551616
      · rw [if_pos ((ltL (by omega) (by omega)).mpr a2), if_neg (nI_nlt (by omega) (by omega)), if_pos trivial, if_neg (by omega)]
      · rw [if_neg (fun z => a2 ((ltL (by omega) (by omega)).mp z)), if_neg (nI_nlt (by omega) (by omega)), if_neg (show ¬ (1 : Int32) = 0 by decide), if_pos (by omega)]
    · rw [if_neg (fun e => a1 ((nI_eq (by omega) (by omega)).mp e))]
      by_cases a2 : R l / 18446744073709551616 < R 8 / 18446744073709551616 + srb d b s
      · rw [if_pos (nI_lt a2 (by omega)), if_pos (by omega)]
      · rw [if_neg (nI_nlt (by omega) (by omega)), if_pos trivial, if_neg (by omega)]
theorem c_for (hw : WF d) {b s l : Nat} {R : Nat → Nat} (hs1 : 1 ≤ s) (hs : s < 2 ^ dT d) (hl : l < 8) (hR : RG R s) (h : RowC q s R) (e25 : ar q 25 s = nI (srb d b s)) : f0_costFor q (nI s) (nI l) = some (nI (wl d b R s l / 18446744073709551616)) ∧ f0_keyFor q (nI s) (nI l) = some (lN (wl d b R s l % 18446744073709551616)) := by
  have hs6 := s_lt hw hs
  have hp6 := (pc6 hs6).1
  have hcb := CB_lt hp6
  have hsb := srb_le (b := b) hw hs
  have g8 := hR.1 8 (by decide) hR.2
  have i8 := GV_INF (c := CB s + srb d b s) (by omega) (GV_add (m := srb d b s) g8)
  have sl := c_slotFor hw hs1 hs hl hR h e25
  have aq := add_Q (R 8) (srb d b s)
  have s1 : ¬ nI s < 1 := nI_nlt (b := 1) hs1 (by omega)
  have s64 : nI s < 64 := nI_lt (b := 64) hs6 (by decide)
  have lm : ¬ nI l = -1 := nI_m1 (by omega)
  unfold f0_costFor f0_costFor_b43 f0_keyFor wl
  rw [if_neg s1, if_pos s64, if_neg s1, if_pos s64, sl, bd_s, bd_s]
  by_cases c : R l ≤ R 8 + srb d b s * 18446744073709551616
  · rw [if_pos c, Nat.min_eq_left c, li9, pk_mul, nI_add, show s * 9 + l = 9 * s + l by omega, ck_nI (by omega) (by decide), ck_nI (by omega) (by decide), ix_nI (by omega), bn_e, if_neg lm, if_pos rfl]
    rcases h l (by omega) with ⟨z, -⟩ | ⟨-, el, ll⟩
    · omega
    · rw [el, ll]
      exact ⟨rfl, rfl⟩
  · rw [if_neg c, Nat.min_eq_right (by omega), aq.1, aq.2, li9, pk_mul, nI_add, show s * 9 + 8 = 9 * s + 8 by omega, ck_nI (by omega) (by decide), ck_nI (by omega) (by decide), ix_nI (by omega), bn_e, if_neg lm, if_neg (fun e => by
      have := (nI_eq (a := 8) (by decide) (by omega)).mp e
      omega), ck_nI (by omega) (by decide), ix_nI (by omega), e25]
    rcases h 8 (by decide) with ⟨z, -⟩ | ⟨-, el, ll⟩
    · exact absurd z hR.2
    · rw [el, ll, nI_add]
      exact ⟨rfl, rfl⟩
theorem c_none (hw : WF d) {s : Nat} {R : Nat → Nat} (hs1 : 1 ≤ s) (hs : s < 2 ^ dT d) (hR : RG R s) (h : RowC q s R) : f0_costFor q (nI s) (-1) = some (nI (R 8 / 18446744073709551616)) ∧ f0_keyFor q (nI s) (-1) = some (lN (R 8 % 18446744073709551616)) := by
  have hs6 := s_lt hw hs
  have s1 : ¬ nI s < 1 := nI_nlt (b := 1) hs1 (by omega)
  have s64 : nI s < 64 := nI_lt (b := 64) hs6 (by decide)
  have sl : f0_slotFor q (nI s) (-1) = some (nI 8) := by
    unfold f0_slotFor
    rw [if_neg s1, if_neg (show ¬ (64 : Int32) ≤ nI s from nI_ge (b := 64) hs6 (by decide)), show f8_isLetter (-1) = some 0 from by decide, bd_s, if_pos rfl]
    rfl
  unfold f0_costFor f0_costFor_b43 f0_keyFor
  rw [if_neg s1, if_pos s64, if_neg s1, if_pos s64, sl, bd_s, bd_s, li9, pk_mul, nI_add, show s * 9 + 8 = 9 * s + 8 by omega, ck_nI (by omega) (by decide), ck_nI (by omega) (by decide), ix_nI (by omega), bn_e, if_pos rfl]
  rcases h 8 (by decide) with ⟨z, -⟩ | ⟨-, el, ll⟩
  · exact absurd z hR.2
  · rw [el, ll]
    exact ⟨rfl, rfl⟩
end CPut
