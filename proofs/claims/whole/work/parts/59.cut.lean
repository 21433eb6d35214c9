/-! cutting -/
theorem pow8 {n : Nat} (h : n ≤ 8) : 2 ^ n ≤ 256 := Nat.pow_le_pow_right (n := 2) (by decide) h
section Cut
variable {N : Nat} {d : DB} {q : SS}
def fitd (d : DB) (a i b j : Nat) : Bool := fitL (dL d) (dV d) a i b j
def anyTo (d : DB) (lf : Nat → Nat) (a b i : Nat) : Nat → Bool
  | 0 => false
  | j + 1 => anyTo d lf a b i j || ((lf b).testBit j && fitd d a i b j)
def cm (d : DB) (lf : Nat → Nat) (a b : Nat) : Nat → Nat
  | 0 => lf a
  | i + 1 => if anyTo d lf a b i 8 then cm d lf a b i else andn (cm d lf a b i) (2 ^ i)
def cutP (d : DB) (lf : Nat → Nat) (a b : Nat) : Nat → Nat := fun u => if u = a then cm d lf a b 8 else lf u
def LF (d : DB) (lf : Nat → Nat) : Prop := ∀ u, lf u < 2 ^ dR d u
theorem cm_le (d : DB) (lf : Nat → Nat) (a b : Nat) : ∀ i, cm d lf a b i ≤ lf a
  | 0 => Nat.le_refl _
  | i + 1 => by
    have h1 := cm_le d lf a b i
    have h2 := andn_le (cm d lf a b i) (2 ^ i)
    show (if _ then _ else _) ≤ _
    split <;> omega
theorem LF.cut {lf : Nat → Nat} (h : LF d lf) (a b : Nat) : LF d (cutP d lf a b) := by
  intro u
  unfold cutP
  by_cases hu : u = a
  · rw [if_pos hu]
    have := cm_le d lf a b 8
    have := h a
    rw [hu]
    omega
  · rw [if_neg hu]; exact h u
theorem cm_bit (d : DB) (lf : Nat → Nat) (a b k : Nat) : ∀ i, i ≤ k → (cm d lf a b i).testBit k = (lf a).testBit k
  | 0, _ => rfl
  | i + 1, hi => by
    have h1 := cm_bit d lf a b k i (by omega)
    show (if _ then _ else _ : Nat).testBit k = _
    split
    · exact h1
    · rw [andn_bit, h1, Nat.testBit_two_pow, decide_eq_false (by omega)]
      simp
theorem andn_nop {x i : Nat} (h : x.testBit i = false) : andn x (2 ^ i) = x := by
  apply Nat.eq_of_testBit_eq
  intro k
  rw [andn_bit, Nat.testBit_two_pow]
  by_cases hk : i = k
  · subst hk; rw [h]; rfl
  · rw [decide_eq_false hk]; simp
theorem cm_stop {lf : Nat → Nat} (h : LF d lf) (a b : Nat) : ∀ m, cm d lf a b (dR d a + m) = cm d lf a b (dR d a)
  | 0 => rfl
  | m + 1 => by
    have h1 := cm_stop h a b m
    have hb : (cm d lf a b (dR d a + m)).testBit (dR d a + m) = false := by
      have h2 := cm_le d lf a b (dR d a + m)
      have h3 := h a
      exact Nat.testBit_lt_two_pow (Nat.lt_of_lt_of_le (Nat.lt_of_le_of_lt h2 h3) (Nat.pow_le_pow_right (by decide) (by omega)))
    show (if anyTo d lf a b (dR d a + m) 8 then cm d lf a b (dR d a + m) else andn (cm d lf a b (dR d a + m)) (2 ^ (dR d a + m))) = _
    rw [andn_nop hb, h1]
    split <;> rfl
theorem cm_8 {lf : Nat → Nat} (h : LF d lf) {a b : Nat} (hR : dR d a ≤ 8) : cm d lf a b (dR d a) = cm d lf a b 8 := by
  have := cm_stop h a b (8 - dR d a)
  rw [show dR d a + (8 - dR d a) = 8 by omega] at this
  exact this.symm
theorem anyTo_stop {lf : Nat → Nat} (h : LF d lf) (a b i : Nat) : ∀ m, anyTo d lf a b i (dR d b + m) = anyTo d lf a b i (dR d b)
  | 0 => rfl
  | m + 1 => by
    have h1 := anyTo_stop h a b i m
    have hb : (lf b).testBit (dR d b + m) = false := Nat.testBit_lt_two_pow (Nat.lt_of_lt_of_le (h b) (Nat.pow_le_pow_right (by decide) (by omega)))
    show (anyTo d lf a b i (dR d b + m) || ((lf b).testBit (dR d b + m) && fitd d a i b (dR d b + m))) = _
    rw [hb, h1]
    simp
theorem anyTo_8 {lf : Nat → Nat} (h : LF d lf) {a b : Nat} (i : Nat) (hR : dR d b ≤ 8) : anyTo d lf a b i (dR d b) = anyTo d lf a b i 8 := by
  have := anyTo_stop h a b i (8 - dR d b)
  rw [show dR d b + (8 - dR d b) = 8 by omega] at this
  exact this.symm
theorem fit_code (hw : WF d) (a i b j : Nat) : (((cd d a i ^^^ cd d b j) &&& mk (dL d a &&& dL d b)) = 0) ↔ fitd d a i b j = true := by
  unfold fitd cd
  rw [mk_agree (cdf_lt hw a i) (cdf_lt hw b j), fitL_iff]
  constructor
  · intro h l hl h1 h2
    have := h l hl (by rw [Nat.testBit_and, h1, h2]; rfl)
    unfold cdf at this
    rw [if_pos h1, if_pos h2] at this
    exact this
  · intro h l hl h1
    rw [Nat.testBit_and, Bool.and_eq_true] at h1
    unfold cdf
    rw [if_pos h1.1, if_pos h1.2]
    exact h l hl h1.1 h1.2
theorem c_fitsSome (hw : WF d) (h : RC d q) {lf : Nat → Nat} (hl : LF d lf) {a i b : Nat} (hN : 1000 ≤ N) (hb : b < dT d) (h29 : ar q 29 b = nI (lf b)) (hLL : dL d a &&& dL d b < 256) : f1_fitsSome N q (nI (cd d a i)) (nI b) (nI (mk (dL d a &&& dL d b))) = some (nI (anyTo d lf a b i 8).toNat) := by
  have hT := hw.1
  have hR := (hw.2.1 b hb).2.2.2.2.2
  have hlb := hl b
  have h256 : 2 ^ dR d b ≤ 256 := pow8 hR
  have hcd := cd_lt hw
  have hmk := mk_lt (dL d a &&& dL d b)
  have := loop_find (fun n (p : Int32 × Int32 × Int32 × Int32) => f1_fitsSome_l3 N q n p.1 p.2.1 p.2.2.1 p.2.2.2) (fun k p => f1_fitsSome_l3_B N q (fun x1 x2 x3 x4 => k (x1, x2, x3, x4)) p.1 p.2.1 p.2.2.1 p.2.2.2) (fun n p => rfl) (fun j => (nI (cd d a i), nI b, nI (mk (dL d a &&& dL d b)), nI j)) (fun j => (lf b).testBit j && fitd d a i b j) 8 (fun k => some (if k < 8 then 1 else 0)) (c := 0) (by
    intro j _ hj k
    have e1 := bit_nI (a := lf b) (b := j) (by omega) (by omega)
    dsimp only
    unfold f1_fitsSome_l3_B f1_fitsSome_b30 f1_fitsSome_b56
    rw [if_neg (show ¬ (8 : Int32) ≤ nI j from nI_ge (b := 8) hj (by decide)), ck_nI (by omega) (by decide), ix_nI (by omega), h29, e1, if_pos hj]
    cases hbit : (lf b).testBit j
    · simp (disch := omega) only [bd_s, bd2_s, bn_e, ck_nI, dz_nI, cz_0, cz_1, ix_nI, le_t, le_f, lt_t, lt_f, eq_t, eq_f, if_true, if_false, nI_add, pk_sub, pk_mul, pk_div, Bool.toNat_false, Bool.false_and, Bool.false_eq_true, li0, li1, li2, li3, li4, li5, li6, li7, li8, li9, li10, li12, li15, li16, li20, li21, li24, li31, li32, li40, li41, li48, li53, li55, li56, li57, li63, li64, li100, li108, li112, li115, li126, li127, li255, li256, li576, li384]
    · have hjR : j < dR d b := bit_lt hlb hbit
      rw [Bool.toNat_true, if_pos (show nI 1 = 1 from rfl), if_neg (show ¬ (1 : Int32) = 0 by decide), c_codeAt hw h hb hjR, bd_s, xor_nI (hcd a i) (hcd b j), and_nI (Nat.xor_lt_two_pow (hcd a i) (hcd b j)) hmk, Bool.true_and]
      by_cases hf : fitd d a i b j = true
      · rw [(fit_code hw a i b j).mpr hf, if_pos (show nI 0 = 0 from rfl), hf, if_pos rfl]
      · have hne := fun z => hf ((fit_code hw a i b j).mp z)
        rw [if_neg, Bool.eq_false_iff.mpr hf]
        · simp (disch := omega) only [bd_s, bd2_s, bn_e, ck_nI, dz_nI, cz_0, cz_1, ix_nI, le_t, le_f, lt_t, lt_f, eq_t, eq_f, if_true, if_false, nI_add, pk_sub, pk_mul, pk_div, Bool.false_eq_true, li0, li1, li2, li3, li4, li5, li6, li7, li8, li9, li10, li12, li15, li16, li20, li21, li24, li31, li32, li40, li41, li48, li53, li55, li56, li57, li63, li64, li100, li108, li112, li115, li126, li127, li255, li256, li576, li384]
        · intro e
          apply hne
          have h1 := congrArg (fun x : Int32 => x.toBitVec.toNat) e
          rw [tn_nI (Nat.and_lt_two_pow _ hmk)] at h1
          exact h1) (by
    intro k
    dsimp only
    unfold f1_fitsSome_l3_B
    simp (disch := omega) only [bd_s, bd2_s, bn_e, ck_nI, dz_nI, cz_0, cz_1, ix_nI, le_t, le_f, lt_t, lt_f, eq_t, eq_f, if_true, if_false, nI_add, pk_sub, pk_mul, pk_div, Nat.lt_irrefl, li0, li1, li2, li3, li4, li5, li6, li7, li8, li9, li10, li12, li15, li16, li20, li21, li24, li31, li32, li40, li41, li48, li53, li55, li56, li57, li63, li64, li100, li108, li112, li115, li126, li127, li255, li256, li576, li384]) 8 N 0 (by omega) (by omega) (by omega)
  have hany : ∀ n, anyTo d lf a b i n = true ↔ ∃ j, j < n ∧ ((lf b).testBit j && fitd d a i b j) = true := by
    intro n
    induction n with
    | zero => exact ⟨fun z => absurd (show false = true from z) (by decide), fun ⟨j, hj, _⟩ => absurd hj (by omega)⟩
    | succ n ih =>
      show (anyTo d lf a b i n || _) = true ↔ _
      rw [Bool.or_eq_true, ih]
      constructor
      · rintro (⟨j, hj, h⟩ | h)
        · exact ⟨j, by omega, h⟩
        · exact ⟨n, by omega, h⟩
      · rintro ⟨j, hj, h⟩
        by_cases hjn : j = n
        · right; rw [← hjn]; exact h
        · left; exact ⟨j, by omega, h⟩
  obtain ⟨f1, f2, f3, f4⟩ := ff_spec (fun j => (lf b).testBit j && fitd d a i b j) 8 0
  refine Eq.trans this ?_
  by_cases hlt : ff (fun j => (lf b).testBit j && fitd d a i b j) 0 8 < 8
  · rw [(hany 8).mpr ⟨_, hlt, f4 (by omega)⟩, if_pos hlt]
    rfl
  · have : anyTo d lf a b i 8 = false := by
      rw [Bool.eq_false_iff]
      intro z
      obtain ⟨j, hj, h⟩ := (hany 8).mp z
      have := f3 j (by omega) (by omega)
      rw [this] at h
      cases h
    rw [this, if_neg hlt]
    rfl
theorem bsum_upd {f g : Nat → Nat} {a x : Nat} : ∀ {n : Nat}, a < n → (∀ u, u < n → g u = if u = a then f u + x else f u) → bsum g n = bsum f n + x
  | n + 1, ha, h => by
    show bsum g n + g n = bsum f n + f n + x
    have hn := h n (by omega)
    by_cases hna : n = a
    · rw [if_pos hna] at hn
      have : bsum g n = bsum f n := bsum_congr (fun i hi => by rw [h i (by omega), if_neg (by omega)])
      omega
    · rw [if_neg hna] at hn
      have := bsum_upd (n := n) (f := f) (g := g) (a := a) (x := x) (by omega) (fun u hu => h u (by omega))
      omega
def cost (d : DB) (lf : Nat → Nat) : Nat := bsum (fun u => dR d u - pc (lf u)) 6
theorem pcR {x n : Nat} (hn : n ≤ 8) (hx : x < 2 ^ n) : pc x ≤ n := by
  have key : ∀ n : Fin 9, ∀ x : Fin 256, x.1 < 2 ^ n.1 → pc x.1 ≤ n.1 := by decide +kernel
  exact key ⟨n, by omega⟩ ⟨x, Nat.lt_of_lt_of_le hx (pow8 hn)⟩ hx
theorem pc_andn8 {x t : Nat} (hx : x < 256) (ht : t < 8) (hb : x.testBit t = true) : pc (andn x (2 ^ t)) + 1 = pc x := by
  have key : ∀ x : Fin 256, ∀ t : Fin 8, x.1.testBit t.1 = true → pc (andn x.1 (2 ^ t.1)) + 1 = pc x.1 := by decide +kernel
  exact key ⟨x, hx⟩ ⟨t, ht⟩ hb
theorem R8 (hw : WF d) (u : Nat) : dR d u ≤ 8 := by
  by_cases hu : u < dT d
  · exact (hw.2.1 u hu).2.2.2.2.2
  · rw [hw.2.2.1 u (by omega)]; omega
theorem cm_pc (hw : WF d) {lf : Nat → Nat} (hl : LF d lf) (a b : Nat) : ∀ i, i ≤ 8 → pc (cm d lf a b i) ≤ pc (lf a)
  | 0, _ => Nat.le_refl _
  | i + 1, hi => by
    have h1 := cm_pc hw hl a b i (by omega)
    have h2 := cm_le d lf a b i
    have h3 := hl a
    have h4 := pow8 (R8 hw a)
    have hcs : cm d lf a b (i + 1) = if anyTo d lf a b i 8 then cm d lf a b i else andn (cm d lf a b i) (2 ^ i) := rfl
    by_cases hany : anyTo d lf a b i 8 = true
    · rw [if_pos hany] at hcs
      rw [hcs]; exact h1
    · rw [if_neg hany] at hcs
      rw [hcs]
      cases hb : (cm d lf a b i).testBit i
      · rw [andn_nop hb]; exact h1
      · have := pc_andn8 (x := cm d lf a b i) (t := i) (by omega) (by omega) hb
        omega
/-- what the class holds while it cuts -/
def LC (d : DB) (lf : Nat → Nat) (q : SS) : Prop := (∀ u, u < 6 → ar q 29 u = nI (lf u)) ∧ fi q 16 = nI (cost d lf)
def frC (q q' : SS) : Prop := (∀ j, j ≠ 16 → fi q' j = fi q j) ∧ ∀ j, j ≠ 29 → ar q' j = ar q j
theorem frC.rf {q : SS} : frC q q := ⟨fun _ _ => rfl, fun _ _ => rfl⟩
theorem frC.tr {a b c : SS} (h : frC a b) (g : frC b c) : frC a c := ⟨fun k hk => (g.1 k hk).trans (h.1 k hk), fun k hk => (g.2 k hk).trans (h.2 k hk)⟩
theorem frC.same {a b : SS} (h : frC a b) : sameC a b := ⟨fun k hk => h.1 k (by omega), fun k hk => h.2 k (by omega)⟩
theorem c_cut (hw : WF d) (h : RC d q) {lf : Nat → Nat} (hl : LF d lf) {a b : Nat} (hN : 1000 ≤ N) (ha : a < dT d) (hb : b < dT d) (hab : a ≠ b) (hL : LC d lf q) : ∃ q', f1_cut N (nI a) (nI b) q = some q' ∧ frC q q' ∧ LC d (cutP d lf a b) q' := by
  have hT := hw.1
  have hRa := R8 hw a
  have hla := hl a
  have h256 := pow8 hRa
  have hLa := (hw.2.1 a ha).2.1
  have hLb := (hw.2.1 b hb).2.1
  have hand : dL d a &&& dL d b < 256 := Nat.lt_of_le_of_lt Nat.and_le_left hLa
  obtain ⟨q', ⟨g1, g2, g3, g4⟩, hrun⟩ := loop_st (fun n (p : Int32 × Int32 × Int32 × Int32 × SS) => f1_cut_l47 N n p.1 p.2.1 p.2.2.1 p.2.2.2.1 p.2.2.2.2) (fun k p => f1_cut_l47_B N (fun x1 x2 x3 x4 x5 => k (x1, x2, x3, x4, x5)) p.1 p.2.1 p.2.2.1 p.2.2.2.1 p.2.2.2.2) (fun n p => rfl) (fun i q => (nI a, nI b, nI (mk (dL d a &&& dL d b)), nI i, q)) (fun i q' => frC q q' ∧ ar q' 29 a = nI (cm d lf a b i) ∧ (∀ u, u < 6 → u ≠ a → ar q' 29 u = nI (lf u)) ∧ fi q' 16 = nI (cost d lf + (pc (lf a) - pc (cm d lf a b i)))) 0 8 (fun q' => some q') (by
    rintro i q1 - hi ⟨g1, g2, g3, g4⟩
    have hcl := cm_le d lf a b i
    have e1 := bit_nI (a := cm d lf a b i) (b := i) (by omega) (by omega)
    have hRC := h.same g1.same
    have hpc := cm_pc hw hl a b i (by omega)
    have hcs : cm d lf a b (i + 1) = if anyTo d lf a b i 8 then cm d lf a b i else andn (cm d lf a b i) (2 ^ i) := rfl
    have e2 := c_fitsSome (N := N) (i := i) hw hRC hl hN hb (g3 b (by omega) (fun e => hab e.symm)) hand
    by_cases hnop : (cm d lf a b i).testBit i = false ∨ anyTo d lf a b i 8 = true
    · have hsame : cm d lf a b (i + 1) = cm d lf a b i := by
        rw [hcs]
        rcases hnop with z | z
        · rw [andn_nop z]; split <;> rfl
        · rw [if_pos z]
      rw [hsame]
      refine ⟨q1, ⟨g1, g2, g3, g4⟩, fun kk => ?_⟩
      dsimp only
      unfold f1_cut_l47_B f1_cut_b74 f1_cut_b125
      rw [if_neg (show ¬ (8 : Int32) ≤ nI i from nI_ge (b := 8) hi (by decide)), ck_nI (by omega) (by decide), ix_nI (by omega), g2, e1]
      cases hbit : (cm d lf a b i).testBit i
      · rw [Bool.toNat_false, if_neg (show ¬ nI 0 = 1 by decide), if_pos rfl, nI_s, bn_e]
      · rcases hnop with z | z
        · rw [hbit] at z; cases z
        · have hiR : i < dR d a := bit_lt (Nat.lt_of_le_of_lt hcl hla) hbit
          rw [Bool.toNat_true, if_pos (show nI 1 = 1 from rfl), if_neg (show ¬ (1 : Int32) = 0 by decide), c_codeAt hw hRC ha hiR, bd_s, e2, bd_s, z, if_neg (show ¬ nI (true).toNat = 0 by decide), nI_s, bn_e]
    · have hbit : (cm d lf a b i).testBit i = true := by
        cases z : (cm d lf a b i).testBit i
        · exact absurd (Or.inl z) hnop
        · rfl
      have hany : anyTo d lf a b i 8 = false := by
        cases z : anyTo d lf a b i 8
        · rfl
        · exact absurd (Or.inr z) hnop
      have hiR : i < dR d a := bit_lt (Nat.lt_of_le_of_lt hcl hla) hbit
      have hp := pc_andn8 (x := cm d lf a b i) (t := i) (by omega) hi hbit
      have h2i : 2 ^ i ≤ 256 := pow8 (by omega)
      rw [hany, if_neg Bool.false_ne_true] at hcs
      rw [hcs]
      refine ⟨sf (sa q1 29 a (nI (andn (cm d lf a b i) (2 ^ i)))) 16 (nI (cost d lf + (pc (lf a) - pc (andn (cm d lf a b i) (2 ^ i))))), ⟨⟨fun j hj => ?_, fun j hj => ?_⟩, ?_, fun u hu hne => ?_, rfl⟩, fun kk => ?_⟩
      · rw [fi_sf, if_neg hj, fi_sa, g1.1 j hj]
      · funext m
        rw [ar_sf, ar_sa, if_neg hj, g1.2 j hj]
      · rw [ar_sf, ar_sa, if_pos rfl, if_pos rfl]
      · rw [ar_sf, ar_sa, if_pos rfl, if_neg hne]; exact g3 u hu hne
      · dsimp only
        unfold f1_cut_l47_B f1_cut_b74 f1_cut_b125
        rw [if_neg (show ¬ (8 : Int32) ≤ nI i from nI_ge (b := 8) hi (by decide)), ck_nI (by omega) (by decide), ix_nI (by omega), g2, e1, hbit, Bool.toNat_true, if_pos (show nI 1 = 1 from rfl), if_neg (show ¬ (1 : Int32) = 0 by decide), c_codeAt hw hRC ha hiR, bd_s, e2, bd_s, hany, if_pos (show nI (false).toNat = 0 from rfl), ck_nI (by omega) (by decide), ck_nI (by omega) (by decide), shl1 (by omega), andn_nI (by omega) (by omega), bn_e, fi_sa, g4, nI_s, bn_e, nI_s, bn_e, show cost d lf + (pc (lf a) - pc (cm d lf a b i)) + 1 = cost d lf + (pc (lf a) - pc (andn (cm d lf a b i) (2 ^ i))) by omega]) (by
    rintro q1 - kk
    dsimp only
    unfold f1_cut_l47_B
    rw [if_pos (show (8 : Int32) ≤ nI 8 by decide)]) N 0 q (by omega) (by omega) (by omega) ⟨frC.rf, hL.1 a (by omega), fun u hu _ => hL.1 u hu, by rw [hL.2, show cm d lf a b 0 = lf a from rfl, Nat.sub_self, Nat.add_zero]⟩
  refine ⟨q', ?_, g1, fun u hu => ?_, ?_⟩
  · unfold f1_cut
    rw [c_holds hw h ha, bd_s, if_neg (show ¬ (1 : Int32) = 0 by decide), c_holds hw h hb, bd_s, if_neg (show ¬ (1 : Int32) = 0 by decide), c_lettersOf hw h ha, bd_s, c_lettersOf hw h hb, bd_s, and_nI (by omega) (by omega), c_maskOf hN hand, bd_s]
    exact hrun
  · unfold cutP
    by_cases hua : u = a
    · rw [if_pos hua, hua]; exact g2
    · rw [if_neg hua]; exact g3 u hu hua
  · rw [g4]
    congr 1
    have h8 := cm_pc hw hl a b 8 (Nat.le_refl _)
    have hpa := pcR hRa hla
    exact (bsum_upd (a := a) (x := pc (lf a) - pc (cm d lf a b 8)) (by omega) (fun u hu => by
      unfold cutP
      by_cases hua : u = a
      · subst hua
        rw [if_pos rfl, if_pos rfl]
        omega
      · rw [if_neg hua, if_neg hua])).symm
theorem fit_one {d : DB} {a i b j : Nat} : ∀ n, ∃ x, (List.range n).all (fun l => !((dL d a).testBit l && (dL d b).testBit l) || decide (dV d a i l = dV d b j l)) = x := fun n => ⟨_, rfl⟩
theorem m_fit (hw : WF d) (h : RMk d q) {a i b j : Nat} (hN : 1000 ≤ N) (ha : a < dT d) (hb : b < dT d) (hi : i < dR d a) (hj : j < dR d b) : f9_fit N q (nI a) (nI i) (nI b) (nI j) = some (nI (fitd d a i b j).toNat) := by
  have hT := hw.1
  have hRa := R8 hw a
  have hRb := R8 hw b
  have hLa := (hw.2.1 a ha).2.1
  have hLb := (hw.2.1 b hb).2.1
  have e1a := (h.2.2.2.2.2.1 a ha).1
  have e1b := (h.2.2.2.2.2.1 b hb).1
  have hand : dL d a &&& dL d b < 256 := Nat.lt_of_le_of_lt Nat.and_le_left hLa
  unfold f9_fit
  rw [ck_nI (by omega) (by decide), ck_nI (by omega) (by decide), ix_nI (by omega), ix_nI (by omega), e1a, e1b, and_nI (by omega) (by omega), bn_e]
  refine loop_run (fun n (p : Int32 × Int32 × Int32 × Int32 × Int32 × Int32 × Int32) => f9_fit_l21 N q n p.1 p.2.1 p.2.2.1 p.2.2.2.1 p.2.2.2.2.1 p.2.2.2.2.2.1 p.2.2.2.2.2.2) (fun k p => f9_fit_l21_B N q (fun x1 x2 x3 x4 x5 x6 x7 => k (x1, x2, x3, x4, x5, x6, x7)) p.1 p.2.1 p.2.2.1 p.2.2.2.1 p.2.2.2.2.1 p.2.2.2.2.2.1 p.2.2.2.2.2.2) (fun n p => rfl) (fun l => (nI a, nI i, nI b, nI j, nI (dL d a &&& dL d b), nI ((List.range l).all (fun l => !((dL d a).testBit l && (dL d b).testBit l) || decide (dV d a i l = dV d b j l))).toNat, nI l)) 8 _ (c := 0) ?_ ?_ N 0 (Nat.le_refl _) (Nat.zero_le _) (by omega)
  · intro l _ hl k
    have e1 := bit_nI (a := dL d a &&& dL d b) (b := l) (by omega) (by omega)
    rw [Nat.testBit_and] at e1
    dsimp only
    rw [List.range_succ, List.all_append]
    unfold f9_fit_l21_B f9_fit_b81 f9_fit_b85 f9_fit_b86
    rw [if_neg (show ¬ (8 : Int32) ≤ nI l from nI_ge (b := 8) hl (by decide)), e1, nI_s, bn_e, bn_e]
    generalize (List.range l).all (fun l => !((dL d a).testBit l && (dL d b).testBit l) || decide (dV d a i l = dV d b j l)) = x
    rw [List.all_cons, List.all_nil, Bool.and_true]
    cases x
    · rw [if_pos (show nI (false).toNat = 0 from rfl), Bool.false_and]
      rfl
    · rw [if_neg (show ¬ nI (true).toNat = 0 by decide), Bool.true_and]
      cases hbit : ((dL d a).testBit l && (dL d b).testBit l)
      · rw [if_pos (show nI (false).toNat = 0 from rfl), Bool.not_false, Bool.true_or]
        rfl
      · rw [Bool.and_eq_true] at hbit
        have v1 := m_addr hw h ha hi hl hbit.1
        have v2 := m_addr hw h hb hj hl hbit.2
        have h9 := hw.2.2.2.1 a i l
        have h9' := hw.2.2.2.1 b j l
        rw [if_neg (show ¬ nI (true).toNat = 0 by decide), Bool.not_true, Bool.false_or]
        have a1 : (64 : Int32) * nI a + 8 * nI i + nI l = nI (64 * a + 8 * i + l) := by simp (disch := omega) only [bd_s, bd2_s, bn_e, ck_nI, dz_nI, cz_0, cz_1, ix_nI, le_t, le_f, lt_t, lt_f, eq_t, eq_f, if_true, if_false, nI_add, pk_sub, pk_mul, pk_div, li0, li1, li2, li3, li4, li5, li6, li7, li8, li9, li10, li12, li15, li16, li20, li21, li24, li31, li32, li40, li41, li48, li53, li55, li56, li57, li63, li64, li100, li108, li112, li115, li126, li127, li255, li256, li576, li384]
        have a2 : (64 : Int32) * nI b + 8 * nI j + nI l = nI (64 * b + 8 * j + l) := by simp (disch := omega) only [bd_s, bd2_s, bn_e, ck_nI, dz_nI, cz_0, cz_1, ix_nI, le_t, le_f, lt_t, lt_f, eq_t, eq_f, if_true, if_false, nI_add, pk_sub, pk_mul, pk_div, li0, li1, li2, li3, li4, li5, li6, li7, li8, li9, li10, li12, li15, li16, li20, li21, li24, li31, li32, li40, li41, li48, li53, li55, li56, li57, li63, li64, li100, li108, li112, li115, li126, li127, li255, li256, li576, li384]
        rw [a1, a2, ck_nI (by omega) (by decide), ck_nI (by omega) (by decide), ix_nI (by omega), ix_nI (by omega), v1, v2]
        by_cases hv : dV d a i l = dV d b j l
        · rw [if_pos (by rw [hv]), decide_eq_true hv]
          rfl
        · rw [if_neg (fun e => hv ((nI_eq (by omega) (by omega)).mp e)), decide_eq_false hv]
          rfl
  · intro k
    dsimp only
    unfold f9_fit_l21_B
    rw [if_pos (show (8 : Int32) ≤ nI 8 by decide), cz_b]
    rfl
end Cut
