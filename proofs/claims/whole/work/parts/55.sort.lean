/-! sort -/
def plb (v : Nat → Nat) (i j : Nat) : Nat := if v j < v i ∨ (v j = v i ∧ j < i) then 1 else 0
def pl (v : Nat → Nat) (n i : Nat) : Nat := bsum (plb v i) n
theorem bsum_lt {f g : Nat → Nat} {k : Nat} : ∀ {n : Nat}, (∀ i, i < n → f i ≤ g i) → k < n → f k < g k → bsum f n < bsum g n
  | n + 1, h, hk, hlt => by
    show bsum f n + f n < bsum g n + g n
    by_cases hkn : k = n
    · subst hkn
      have := bsum_le (n := k) (fun i hi => h i (by omega))
      omega
    · have := bsum_lt (n := n) (fun i hi => h i (by omega)) (by omega) hlt
      have := h n (by omega)
      omega
theorem plb_le (v : Nat → Nat) (i j : Nat) : plb v i j ≤ 1 := by unfold plb; split <;> omega
theorem plb_self (v : Nat → Nat) (i : Nat) : plb v i i = 0 := if_neg (by omega)
theorem pl_lt (v : Nat → Nat) {n i : Nat} (h : i < n) : pl v n i < n := by
  have := bsum_lt (f := plb v i) (g := fun _ => 1) (n := n) (k := i) (fun j _ => plb_le v i j) h (by rw [plb_self]; decide)
  rw [bsum_const] at this
  show bsum _ n < n
  omega
theorem pl_mono (v : Nat → Nat) {n i j : Nat} (hi : i < n) (h : v i < v j ∨ (v i = v j ∧ i < j)) : pl v n i < pl v n j := by
  refine bsum_lt (k := i) (fun m hm => ?_) hi ?_
  · unfold plb
    by_cases h1 : v m < v i ∨ (v m = v i ∧ m < i)
    · rw [if_pos h1, if_pos (by omega)]; exact Nat.le_refl _
    · rw [if_neg h1]; exact Nat.zero_le _
  · rw [plb_self, show plb v j i = 1 from if_pos h]; decide
theorem pl_inj (v : Nat → Nat) {n i j : Nat} (hi : i < n) (hj : j < n) (h : pl v n i = pl v n j) : i = j := by
  rcases (show (v i < v j ∨ (v i = v j ∧ i < j)) ∨ (v j < v i ∨ (v j = v i ∧ j < i)) ∨ i = j by omega) with z | z | z
  · have := pl_mono v (n := n) hi z; omega
  · have := pl_mono v (n := n) hj z; omega
  · exact z
/-- o names the row of each place -/
def Ord (v : Nat → Nat) (n : Nat) (o : Nat → Nat) : Prop := ∀ k, k < n → o k < n ∧ pl v n (o k) = k
theorem Ord.inv {v : Nat → Nat} {n : Nat} {o : Nat → Nat} (h : Ord v n o) {i : Nat} (hi : i < n) : o (pl v n i) = i := by
  have h1 := h _ (pl_lt v hi)
  exact pl_inj v h1.1 hi h1.2
theorem pl_s (v : Nat → Nat) (n i : Nat) : pl v (n + 1) i = pl v n i + plb v i n := rfl
theorem ord_key {v : Nat → Nat} {n k : Nat} {o : Nat → Nat} (h : Ord v n o) (hk : k < n) : v (o k) ≤ v n ↔ k < pl v (n + 1) n := by
  obtain ⟨h1, h2⟩ := h k hk
  rw [pl_s, plb_self, Nat.add_zero]
  constructor
  · intro hv
    have := pl_mono v (n := n) (j := n) h1 (by omega)
    omega
  · intro hlt
    rcases Nat.lt_or_ge (v n) (v (o k)) with z | z
    · have : pl v n n ≤ pl v n (o k) := bsum_le (fun m hm => by
        unfold plb
        by_cases h1 : v m < v n ∨ (v m = v n ∧ m < n)
        · rw [if_pos h1, if_pos (by omega)]; exact Nat.le_refl _
        · rw [if_neg h1]; exact Nat.zero_le _)
      omega
    · exact z
def insO (o : Nat → Nat) (p n k : Nat) : Nat := if k < p then o k else if k = p then n else o (k - 1)
theorem ord_ins {v : Nat → Nat} {n : Nat} {o : Nat → Nat} (h : Ord v n o) : Ord v (n + 1) (insO o (pl v (n + 1) n) n) := by
  intro k hk
  have hp := pl_lt v (show n < n + 1 by omega)
  unfold insO
  by_cases h1 : k < pl v (n + 1) n
  · rw [if_pos h1]
    obtain ⟨g1, g2⟩ := h k (by omega)
    have g3 := (ord_key h (show k < n by omega)).mpr h1
    refine ⟨by omega, ?_⟩
    rw [pl_s, g2, show plb v (o k) n = 0 from if_neg (by omega)]
    rfl
  · rw [if_neg h1]
    by_cases h2 : k = pl v (n + 1) n
    · rw [if_pos h2]; exact ⟨by omega, h2.symm⟩
    · rw [if_neg h2]
      obtain ⟨g1, g2⟩ := h (k - 1) (by omega)
      have g3 : ¬ v (o (k - 1)) ≤ v n := fun z => absurd ((ord_key h (show k - 1 < n by omega)).mp z) (by omega)
      refine ⟨by omega, ?_⟩
      rw [pl_s, g2, show plb v (o (k - 1)) n = 1 from if_pos (by omega)]
      omega
theorem pk_ng {a b : Nat} (h : b ≤ a) : nI a + -nI b = nI (a - b) := by rw [← Int32.sub_eq_add_neg, pk_sub h]
section Srt
variable {N : Nat} {d : DB} {q : SS}
def sortR (d : DB) (t : Nat) (o : Nat → Nat) : DB := setRows d t (dR d t) (fun j l => dV d t (o j) l)
theorem WF_sort (hw : WF d) {t : Nat} {o : Nat → Nat} (ht : t < dT d) : WF (sortR d t o) := WF_rows hw ht (hw.2.1 t ht).2.2.2.2.2 (fun j l => hw.2.2.2.1 t _ l)
def mv (o : Nat → Nat) (n : Nat) : Nat := bsum (fun k => if o k = k then 0 else 1) n
theorem mv_pl {v : Nat → Nat} {n : Nat} {o : Nat → Nat} (h : Ord v n o) : mv (pl v n) n = mv o n := bsum_congr (fun i hi => by
  by_cases h1 : pl v n i = i
  · rw [if_pos h1, if_pos]
    have := h.inv hi
    rw [h1] at this
    exact this
  · rw [if_neg h1, if_neg]
    intro h2
    apply h1
    have := (h i hi).2
    rw [h2] at this
    exact this)
theorem mv_le (o : Nat → Nat) (n : Nat) : mv o n ≤ n := by
  have := bsum_le (f := fun k => if o k = k then 0 else 1) (g := fun _ => 1) (n := n) (fun i _ => by split <;> omega)
  rw [bsum_const] at this
  show bsum _ n ≤ n
  omega
theorem c_placeOf (hw : WF d) (h : RC d q) {t i l : Nat} (hN : 1000 ≤ N) (ht : t < dT d) (hi : i < dR d t) (hl : l < 8) (hb : (dL d t).testBit l = true) : f7_placeOf N q (nI t) (nI i) (nI l) = some (nI (pl (fun j => dV d t j l) (dR d t) i)) := by
  have hT := hw.1
  have hR := (hw.2.1 t ht).2.2.2.2.2
  have hcd : ∀ j, cdf d t j l = dV d t j l := fun j => if_pos hb
  unfold f7_placeOf
  rw [c_codeAt hw h ht hi, bd_s, c_number hw hl, bd_s, hcd]
  refine loop_run (fun n (p : Int32 × Int32 × Int32 × Int32 × Int32 × Int32) => f7_placeOf_l18 N q n p.1 p.2.1 p.2.2.1 p.2.2.2.1 p.2.2.2.2.1 p.2.2.2.2.2) (fun k p => f7_placeOf_l18_B N q (fun x1 x2 x3 x4 x5 x6 => k (x1, x2, x3, x4, x5, x6)) p.1 p.2.1 p.2.2.1 p.2.2.2.1 p.2.2.2.2.1 p.2.2.2.2.2) (fun n p => rfl) (fun j => (nI t, nI i, nI l, nI (dV d t i l), nI (pl (fun j => dV d t j l) j i), nI j)) (dR d t) _ (c := 0) ?_ ?_ N 0 (Nat.le_refl _) (Nat.zero_le _) (by omega)
  · intro j _ hj k
    have h9 := hw.2.2.2.1 t j l
    have h9' := hw.2.2.2.1 t i l
    dsimp only
    unfold f7_placeOf_l18_B f7_placeOf_b61 f7_placeOf_b64
    rw [pl_s, c_rowsOf hw h (by omega), bd_s, if_neg (nI_ge hj (by omega)), c_codeAt hw h ht hj, bd_s, c_number hw hl, bd_s, hcd]
    unfold plb
    dsimp only
    rcases Nat.lt_trichotomy (dV d t j l) (dV d t i l) with z | z | z
    · rw [if_pos (nI_lt z (by omega)), if_pos (Or.inl z)]
      simp (disch := omega) only [bd_s, bd2_s, bn_e, ck_nI, dz_nI, cz_0, cz_1, ix_nI, le_t, le_f, lt_t, lt_f, eq_t, eq_f, if_true, if_false, nI_add, pk_sub, pk_mul, pk_div, li0, li1, li2, li3, li4, li5, li6, li7, li8, li9, li10, li12, li15, li16, li20, li21, li24, li31, li32, li40, li41, li48, li53, li55, li56, li57, li63, li64, li100, li108, li112, li115, li126, li127, li255, li256, li576, li384]
    · rw [if_neg (nI_nlt (by omega) (by omega)), if_pos ((nI_eq (by omega) (by omega)).mpr z)]
      by_cases hji : j < i
      · rw [if_neg (nI_ge hji (by omega)), if_pos (Or.inr ⟨z, hji⟩)]
        simp (disch := omega) only [bd_s, bd2_s, bn_e, ck_nI, dz_nI, cz_0, cz_1, ix_nI, le_t, le_f, lt_t, lt_f, eq_t, eq_f, if_true, if_false, nI_add, pk_sub, pk_mul, pk_div, li0, li1, li2, li3, li4, li5, li6, li7, li8, li9, li10, li12, li15, li16, li20, li21, li24, li31, li32, li40, li41, li48, li53, li55, li56, li57, li63, li64, li100, li108, li112, li115, li126, li127, li255, li256, li576, li384]
      · rw [if_pos (nI_le (by omega) (by omega)), if_neg (by omega)]
        simp (disch := omega) only [bd_s, bd2_s, bn_e, ck_nI, dz_nI, cz_0, cz_1, ix_nI, le_t, le_f, lt_t, lt_f, eq_t, eq_f, if_true, if_false, nI_add, pk_sub, pk_mul, pk_div, Nat.add_zero, li0, li1, li2, li3, li4, li5, li6, li7, li8, li9, li10, li12, li15, li16, li20, li21, li24, li31, li32, li40, li41, li48, li53, li55, li56, li57, li63, li64, li100, li108, li112, li115, li126, li127, li255, li256, li576, li384]
    · rw [if_neg (nI_nlt (by omega) (by omega)), if_neg (fun e => by have := (nI_eq (by omega) (by omega)).mp e; omega), if_neg (by omega)]
      simp (disch := omega) only [bd_s, bd2_s, bn_e, ck_nI, dz_nI, cz_0, cz_1, ix_nI, le_t, le_f, lt_t, lt_f, eq_t, eq_f, if_true, if_false, nI_add, pk_sub, pk_mul, pk_div, Nat.add_zero, li0, li1, li2, li3, li4, li5, li6, li7, li8, li9, li10, li12, li15, li16, li20, li21, li24, li31, li32, li40, li41, li48, li53, li55, li56, li57, li63, li64, li100, li108, li112, li115, li126, li127, li255, li256, li576, li384]
  · intro k
    dsimp only
    unfold f7_placeOf_l18_B
    simp (disch := omega) only [bd_s, bd2_s, bn_e, ck_nI, dz_nI, cz_0, cz_1, ix_nI, le_t, le_f, lt_t, lt_f, eq_t, eq_f, if_true, if_false, nI_add, pk_sub, pk_mul, pk_div, c_rowsOf hw h (t := t), li0, li1, li2, li3, li4, li5, li6, li7, li8, li9, li10, li12, li15, li16, li20, li21, li24, li31, li32, li40, li41, li48, li53, li55, li56, li57, li63, li64, li100, li108, li112, li115, li126, li127, li255, li256, li576, li384]
theorem c_sort (hw : WF d) (h : RC d q) {t l : Nat} {o : Nat → Nat} (hN : 1000 ≤ N) (ht : t < dT d) (hl : l < 8) (hb : (dL d t).testBit l = true) (ho : Ord (fun j => dV d t j l) (dR d t) o) : ∃ q', f7_sortRows N (nI t) (nI l) q = some (nI (mv o (dR d t)), q') ∧ RC (sortR d t o) q' := by
  have hT := hw.1
  have hR := (hw.2.1 t ht).2.2.2.2.2
  have h10 := h.2.2.2.2.2.2.2.1
  obtain ⟨q', ⟨hf, ha, h10'⟩, hrun⟩ : ∃ q', ((∀ j, fi q' j = fi q j) ∧ (∀ j, j ≠ 10 → j ≠ 11 → ar q' j = ar q j) ∧ ∀ m, ar q' 10 m = if 8 * t ≤ m ∧ m < 8 * t + dR d t then nI (cd d t (o (m - 8 * t))) else ar q 10 m) ∧ f7_sortRows_l12 N N (nI t) (nI l) (nI (dR d t)) (nI 0) (nI 0) q = some (nI (mv o (dR d t)), q') := by
    obtain ⟨q1, ⟨hf, ha, h11⟩, hrun⟩ := loop_st (fun n (p : Int32 × Int32 × Int32 × Int32 × Int32 × SS) => f7_sortRows_l12 N n p.1 p.2.1 p.2.2.1 p.2.2.2.1 p.2.2.2.2.1 p.2.2.2.2.2) (fun k p => f7_sortRows_l12_B N (fun x1 x2 x3 x4 x5 x6 => k (x1, x2, x3, x4, x5, x6)) p.1 p.2.1 p.2.2.1 p.2.2.2.1 p.2.2.2.2.1 p.2.2.2.2.2) (fun n p => rfl) (fun k q => (nI t, nI l, nI (dR d t), nI (mv (pl (fun j => dV d t j l) (dR d t)) k), nI k, q)) (fun k q1 => (∀ j, fi q1 j = fi q j) ∧ (∀ j, j ≠ 11 → ar q1 j = ar q j) ∧ ∀ i, i < k → ar q1 11 (pl (fun j => dV d t j l) (dR d t) i) = nI (cd d t i)) 0 (dR d t) (fun q1 => f7_sortRows_l73 N N (nI t) (nI (dR d t)) (nI (mv o (dR d t))) (nI 0) q1) (by
      rintro k q1 - hk ⟨hf, ha, h11⟩
      have hRC : RC d q1 := h.same ⟨fun j _ => hf j, fun j hj => ha j (by omega)⟩
      have hpl := pl_lt (fun j => dV d t j l) hk
      have e1 := c_placeOf hw hRC hN ht hk hl hb
      refine ⟨sa q1 11 (pl (fun j => dV d t j l) (dR d t) k) (nI (cd d t k)), ⟨fun j => hf j, fun j hj => ?_, fun i hi => ?_⟩, fun kk => ?_⟩
      · funext m
        rw [ar_sa, if_neg hj, ha j hj]
      · rw [ar_sa, if_pos rfl]
        by_cases hik : i = k
        · subst hik; rw [if_pos rfl]
        · rw [if_neg (fun e => hik (pl_inj _ (by omega) hk e))]
          exact h11 i (by omega)
      · have hm : mv (pl (fun j => dV d t j l) (dR d t)) (k + 1) = mv (pl (fun j => dV d t j l) (dR d t)) k + (if pl (fun j => dV d t j l) (dR d t) k = k then 0 else 1) := rfl
        rw [hm]
        generalize pl (fun j => dV d t j l) (dR d t) k = p at *
        dsimp only
        unfold f7_sortRows_l12_B f7_sortRows_b38 f7_sortRows_b64
        by_cases hpk : p = k
        · subst hpk
          rw [if_pos rfl]
          simp (disch := omega) only [bd_s, bd2_s, bn_e, ck_nI, dz_nI, cz_0, cz_1, ix_nI, le_t, le_f, lt_t, lt_f, eq_t, eq_f, if_true, if_false, nI_add, pk_sub, pk_mul, pk_div, e1, c_codeAt hw hRC ht hk, Nat.add_zero, li0, li1, li2, li3, li4, li5, li6, li7, li8, li9, li10, li12, li15, li16, li20, li21, li24, li31, li32, li40, li41, li48, li53, li55, li56, li57, li63, li64, li100, li108, li112, li115, li126, li127, li255, li256, li576, li384]
        · rw [if_neg hpk]
          simp (disch := omega) only [bd_s, bd2_s, bn_e, ck_nI, dz_nI, cz_0, cz_1, ix_nI, le_t, le_f, lt_t, lt_f, eq_t, eq_f, if_true, if_false, nI_add, pk_sub, pk_mul, pk_div, e1, c_codeAt hw hRC ht hk, li0, li1, li2, li3, li4, li5, li6, li7, li8, li9, li10, li12, li15, li16, li20, li21, li24, li31, li32, li40, li41, li48, li53, li55, li56, li57, li63, li64, li100, li108, li112, li115, li126, li127, li255, li256, li576, li384]) (by
      rintro q1 - kk
      dsimp only
      unfold f7_sortRows_l12_B
      rw [mv_pl ho]
      simp (disch := omega) only [bd_s, bd2_s, bn_e, ck_nI, dz_nI, cz_0, cz_1, ix_nI, le_t, le_f, lt_t, lt_f, eq_t, eq_f, if_true, if_false, nI_add, pk_sub, pk_mul, pk_div, li0, li1, li2, li3, li4, li5, li6, li7, li8, li9, li10, li12, li15, li16, li20, li21, li24, li31, li32, li40, li41, li48, li53, li55, li56, li57, li63, li64, li100, li108, li112, li115, li126, li127, li255, li256, li576, li384]) N 0 q (by omega) (by omega) (by omega) ⟨fun _ => rfl, fun _ _ => rfl, fun i hi => by omega⟩
    have h11' : ∀ k, k < dR d t → ar q1 11 k = nI (cd d t (o k)) := fun k hk => by
      have := h11 (o k) (ho k hk).1
      rw [(ho k hk).2] at this
      exact this
    obtain ⟨q2, ⟨gf, ga, g10⟩, hrun2⟩ := loop_st (fun n (p : Int32 × Int32 × Int32 × Int32 × SS) => f7_sortRows_l73 N n p.1 p.2.1 p.2.2.1 p.2.2.2.1 p.2.2.2.2) (fun k p => f7_sortRows_l73_B N (fun x1 x2 x3 x4 x5 => k (x1, x2, x3, x4, x5)) p.1 p.2.1 p.2.2.1 p.2.2.2.1 p.2.2.2.2) (fun n p => rfl) (fun k q => (nI t, nI (dR d t), nI (mv o (dR d t)), nI k, q)) (fun k q2 => (∀ j, fi q2 j = fi q j) ∧ (∀ j, j ≠ 10 → ar q2 j = ar q1 j) ∧ ∀ m, ar q2 10 m = if 8 * t ≤ m ∧ m < 8 * t + k then nI (cd d t (o (m - 8 * t))) else ar q 10 m) 0 (dR d t) (fun q2 => some (nI (mv o (dR d t)), q2)) (by
      rintro k q2 - hk ⟨gf, ga, g10⟩
      have e11 : ar q2 11 k = nI (cd d t (o k)) := by rw [ga 11 (by decide)]; exact h11' k hk
      refine ⟨sa q2 10 (8 * t + k) (nI (cd d t (o k))), ⟨fun j => gf j, fun j hj => ?_, fun m => ?_⟩, fun kk => ?_⟩
      · funext m
        rw [ar_sa, if_neg hj, ga j hj]
      · rw [ar_sa, if_pos rfl]
        by_cases hm : m = 8 * t + k
        · rw [if_pos hm, if_pos (by omega), hm, Nat.add_sub_cancel_left]
        · rw [if_neg hm, g10]
          by_cases hm2 : 8 * t ≤ m ∧ m < 8 * t + k
          · rw [if_pos hm2, if_pos (by omega)]
          · rw [if_neg hm2, if_neg (by omega)]
      · dsimp only
        unfold f7_sortRows_l73_B
        simp (disch := omega) only [bd_s, bd2_s, bn_e, ck_nI, dz_nI, cz_0, cz_1, ix_nI, le_t, le_f, lt_t, lt_f, eq_t, eq_f, if_true, if_false, nI_add, pk_sub, pk_mul, pk_div, e11, Nat.mul_comm t 8, li0, li1, li2, li3, li4, li5, li6, li7, li8, li9, li10, li12, li15, li16, li20, li21, li24, li31, li32, li40, li41, li48, li53, li55, li56, li57, li63, li64, li100, li108, li112, li115, li126, li127, li255, li256, li576, li384]) (by
      rintro q2 - kk
      dsimp only
      unfold f7_sortRows_l73_B
      simp (disch := omega) only [bd_s, bd2_s, bn_e, ck_nI, dz_nI, cz_0, cz_1, ix_nI, le_t, le_f, lt_t, lt_f, eq_t, eq_f, if_true, if_false, nI_add, pk_sub, pk_mul, pk_div, li0, li1, li2, li3, li4, li5, li6, li7, li8, li9, li10, li12, li15, li16, li20, li21, li24, li31, li32, li40, li41, li48, li53, li55, li56, li57, li63, li64, li100, li108, li112, li115, li126, li127, li255, li256, li576, li384]) N 0 q1 (by omega) (by omega) (by omega) ⟨hf, fun _ _ => rfl, fun m => by rw [if_neg (by omega), ha 10 (by decide)]⟩
    refine ⟨q2, ⟨gf, fun j hj hj' => by rw [ga j hj, ha j hj'], g10⟩, ?_⟩
    exact Eq.trans hrun hrun2
  refine ⟨q', ?_, ?_⟩
  · unfold f7_sortRows
    rw [c_rowsOf hw h (by omega), bd_s]
    exact hrun
  · refine RC_rows hw h ht (fun k _ => hf k) (fun k hk => ha k (by omega) (by omega)) (fun u hu => ?_) (fun u j hu hne hj => ?_) (fun j hj => ?_)
    · rw [ha 9 (by decide) (by decide)]
      by_cases hut : u = t
      · rw [if_pos hut, hut]; exact h.2.2.2.2.2.2.1 t (by omega)
      · rw [if_neg hut]
    · rw [h10', if_neg]
      rcases Nat.lt_or_ge u t with z | z <;> omega
    · rw [h10', if_pos (by omega), Nat.add_sub_cancel_left]
      rfl
theorem m_sort (hw : WF d) (h : RMk d q) {t l : Nat} (hN : 1000 ≤ N) (ht : t < dT d) (hl : l < 8) (hb : (dL d t).testBit l = true) : ∃ o q', Ord (fun j => dV d t j l) (dR d t) o ∧ f9_sort_l37 N N (nI t) (nI l) (nI 0) q = some (nI (mv o (dR d t)), q') ∧ RMk (sortR d t o) q' ∧ fi q' 3 = 0 := by
  have hT := hw.1
  have hR := (hw.2.1 t ht).2.2.2.2.2
  have h3 := h.2.2.2.2.2.2.1 t (by omega)
  -- the order
  obtain ⟨q1, ⟨hf1, ha1, o, ho, h6⟩, hrun1⟩ := loop_st (fun n (p : Int32 × Int32 × Int32 × SS) => f9_sort_l37 N n p.1 p.2.1 p.2.2.1 p.2.2.2) (fun k p => f9_sort_l37_B N (fun x1 x2 x3 x4 => k (x1, x2, x3, x4)) p.1 p.2.1 p.2.2.1 p.2.2.2) (fun n p => rfl) (fun n q => (nI t, nI l, nI n, q)) (fun n q1 => (∀ j, fi q1 j = fi q j) ∧ (∀ j, j ≠ 6 → ar q1 j = ar q j) ∧ ∃ o, Ord (fun j => dV d t j l) n o ∧ ∀ k, k < n → ar q1 6 k = nI (o k)) 0 (dR d t) (fun q1 => f9_sort_l139 N N (nI t) (nI 0) (nI 0) q1) (by
    rintro n q1 - hn ⟨hf, ha, o, ho, h6⟩
    have e3 : ar q1 3 t = nI (dR d t) := by rw [ha 3 (by decide)]; exact h3
    have hp := pl_lt (fun j => dV d t j l) (show n < n + 1 by omega)
    have e4 : ∀ i, i < dR d t → ar q 4 (64 * t + 8 * i + l) = nI (dV d t i l) := fun i hi => m_addr hw h ht hi hl hb
    have inner : ∃ q2, ((∀ j, fi q2 j = fi q j) ∧ (∀ j, j ≠ 6 → ar q2 j = ar q j) ∧ ∀ k, k < n + 1 → k ≠ pl (fun j => dV d t j l) (n + 1) n → ar q2 6 k = nI (if k < pl (fun j => dV d t j l) (n + 1) n then o k else o (k - 1))) ∧ ∀ bk, f9_sort_l50 N bk N (nI t) (nI l) (nI n) (nI n) q1 = f9_sort_b120 N bk (nI t) (nI l) (nI n) (nI (pl (fun j => dV d t j l) (n + 1) n)) q2 := by
      obtain ⟨q2, ⟨g1, g2, g3⟩, g4⟩ := loop_bk (fun bk n (p : Int32 × Int32 × Int32 × Int32 × SS) => f9_sort_l50 N bk n p.1 p.2.1 p.2.2.1 p.2.2.2.1 p.2.2.2.2) (fun bk k p => f9_sort_l50_B N bk (fun x1 x2 x3 x4 x5 => k (x1, x2, x3, x4, x5)) p.1 p.2.1 p.2.2.1 p.2.2.2.1 p.2.2.2.2) (fun bk n p => rfl) (fun j q => (nI t, nI l, nI n, nI (n - j), q)) (fun j q2 => (∀ j, fi q2 j = fi q j) ∧ (∀ j, j ≠ 6 → ar q2 j = ar q j) ∧ ∀ k, k < n + 1 → k ≠ n - j → ar q2 6 k = nI (if k < n - j then o k else o (k - 1))) 0 (n - pl (fun j => dV d t j l) (n + 1) n) (fun bk q2 => f9_sort_b120 N bk (nI t) (nI l) (nI n) (nI (pl (fun j => dV d t j l) (n + 1) n)) q2) (by
        rintro j q2 - hj ⟨g1, g2, g3⟩
        have hx := ho (n - j - 1) (by omega)
        have hk := (ord_key ho (show n - j - 1 < n by omega))
        have hgt : dV d t n l < dV d t (o (n - j - 1)) l := by
          rcases Nat.lt_or_ge (dV d t n l) (dV d t (o (n - j - 1)) l) with z | z
          · exact z
          · have := hk.mp z; omega
        have e6 : ar q2 6 (n - j - 1) = nI (o (n - j - 1)) := by rw [g3 _ (by omega) (by omega), if_pos (by omega)]
        have h9 := hw.2.2.2.1 t n l
        have h9' := hw.2.2.2.1 t (o (n - j - 1)) l
        have e40 := e4 n hn
        have e41 := e4 (o (n - j - 1)) (by omega)
        rw [← g2 4 (by decide)] at e40 e41
        refine ⟨sa q2 6 (n - j) (nI (o (n - j - 1))), ⟨fun j => g1 j, fun j hj => ?_, fun k hk hk2 => ?_⟩, fun bk kk => ?_⟩
        · funext m
          rw [ar_sa, if_neg hj, g2 j hj]
        · rw [ar_sa, if_pos rfl]
          by_cases hkj : k = n - j
          · rw [if_pos hkj, if_neg (by omega), hkj]
          · rw [if_neg hkj, g3 k hk hkj]
            by_cases hlt : k < n - j
            · rw [if_pos hlt, if_pos (by omega)]
            · rw [if_neg hlt, if_neg (by omega)]
        · dsimp only
          unfold f9_sort_l50_B
          generalize hij : n - j = i at *
          rw [show n - (j + 1) = i - 1 by omega]
          generalize o (i - 1) = x at *
          rw [if_neg (show ¬ nI i ≤ 0 from nI_ge (a := 0) (b := i) (by omega) (by omega))]
          simp (disch := omega) only [bd_s, bd2_s, bn_e, ck_nI, dz_nI, cz_0, cz_1, ix_nI, le_t, le_f, lt_t, lt_f, eq_t, eq_f, if_true, if_false, nI_add, pk_sub, pk_mul, pk_div, e6, e40, e41, pk_ng, li0, li1, li2, li3, li4, li5, li6, li7, li8, li9, li10, li12, li15, li16, li20, li21, li24, li31, li32, li40, li41, li48, li53, li55, li56, li57, li63, li64, li100, li108, li112, li115, li126, li127, li255, li256, li576, li384]) (by
        rintro q2 ⟨g1, g2, g3⟩ bk kk
        dsimp only
        rw [show n - (n - pl (fun j => dV d t j l) (n + 1) n) = pl (fun j => dV d t j l) (n + 1) n by omega] at *
        unfold f9_sort_l50_B
        by_cases hp0 : pl (fun j => dV d t j l) (n + 1) n = 0
        · rw [hp0]
          simp (disch := omega) only [bd_s, bd2_s, bn_e, ck_nI, dz_nI, cz_0, cz_1, ix_nI, le_t, le_f, lt_t, lt_f, eq_t, eq_f, if_true, if_false, nI_add, pk_sub, pk_mul, pk_div, li0, li1, li2, li3, li4, li5, li6, li7, li8, li9, li10, li12, li15, li16, li20, li21, li24, li31, li32, li40, li41, li48, li53, li55, li56, li57, li63, li64, li100, li108, li112, li115, li126, li127, li255, li256, li576, li384]
        · have hx := ho (pl (fun j => dV d t j l) (n + 1) n - 1) (by omega)
          have hk := (ord_key ho (show pl (fun j => dV d t j l) (n + 1) n - 1 < n by omega)).mpr (by omega)
          have e6 : ar q2 6 (pl (fun j => dV d t j l) (n + 1) n - 1) = nI (o (pl (fun j => dV d t j l) (n + 1) n - 1)) := by rw [g3 _ (by omega) (by omega), if_pos (by omega)]
          have h9 := hw.2.2.2.1 t n l
          have e40 := e4 n hn
          have e41 := e4 (o (pl (fun j => dV d t j l) (n + 1) n - 1)) (by omega)
          rw [← g2 4 (by decide)] at e40 e41
          generalize hpp : pl (fun j => dV d t j l) (n + 1) n = p at *
          generalize o (p - 1) = x at *
          simp (disch := omega) only [bd_s, bd2_s, bn_e, ck_nI, dz_nI, cz_0, cz_1, ix_nI, le_t, le_f, lt_t, lt_f, eq_t, eq_f, if_true, if_false, nI_add, pk_sub, pk_mul, pk_div, e6, e40, e41, li0, li1, li2, li3, li4, li5, li6, li7, li8, li9, li10, li12, li15, li16, li20, li21, li24, li31, li32, li40, li41, li48, li53, li55, li56, li57, li63, li64, li100, li108, li112, li115, li126, li127, li255, li256, li576, li384]) N 0 q1 (by omega) (by omega) (by omega) ⟨hf, ha, fun k hk hk2 => by rw [if_pos (by omega)]; exact h6 k (by omega)⟩
      rw [show n - (n - pl (fun j => dV d t j l) (n + 1) n) = pl (fun j => dV d t j l) (n + 1) n by omega] at *
      exact ⟨q2, ⟨g1, g2, g3⟩, g4⟩
    obtain ⟨q2, ⟨g1, g2, g3⟩, g4⟩ := inner
    refine ⟨sa q2 6 (pl (fun j => dV d t j l) (n + 1) n) (nI n), ⟨fun j => g1 j, fun j hj => ?_, insO o (pl (fun j => dV d t j l) (n + 1) n) n, ord_ins ho, fun k hk => ?_⟩, fun kk => ?_⟩
    · funext m
      rw [ar_sa, if_neg hj, g2 j hj]
    · rw [ar_sa, if_pos rfl]
      unfold insO
      by_cases hkp : k = pl (fun j => dV d t j l) (n + 1) n
      · rw [if_pos hkp, if_neg (by omega), if_pos hkp]
      · rw [if_neg hkp, g3 k hk hkp, if_neg hkp]
    · dsimp only
      unfold f9_sort_l37_B
      rw [ck_nI (by omega) (by decide), ix_nI (by omega), e3, if_neg (nI_ge (by omega) (by omega))]
      refine (g4 _).trans ?_
      unfold f9_sort_b120
      simp (disch := omega) only [bd_s, bd2_s, bn_e, ck_nI, dz_nI, cz_0, cz_1, ix_nI, le_t, le_f, lt_t, lt_f, eq_t, eq_f, if_true, if_false, nI_add, pk_sub, pk_mul, pk_div, li0, li1, li2, li3, li4, li5, li6, li7, li8, li9, li10, li12, li15, li16, li20, li21, li24, li31, li32, li40, li41, li48, li53, li55, li56, li57, li63, li64, li100, li108, li112, li115, li126, li127, li255, li256, li576, li384]) (by
    rintro q1 ⟨hf, ha, -⟩ kk
    have e3 : ar q1 3 t = nI (dR d t) := by rw [ha 3 (by decide)]; exact h3
    dsimp only
    unfold f9_sort_l37_B
    simp (disch := omega) only [bd_s, bd2_s, bn_e, ck_nI, dz_nI, cz_0, cz_1, ix_nI, le_t, le_f, lt_t, lt_f, eq_t, eq_f, if_true, if_false, nI_add, pk_sub, pk_mul, pk_div, e3, li0, li1, li2, li3, li4, li5, li6, li7, li8, li9, li10, li12, li15, li16, li20, li21, li24, li31, li32, li40, li41, li48, li53, li55, li56, li57, li63, li64, li100, li108, li112, li115, li126, li127, li255, li256, li576, li384]) N 0 q (by omega) (by omega) (by omega) ⟨fun _ => rfl, fun _ _ => rfl, id, fun k hk => by omega, fun k hk => by omega⟩
  -- the rows are held
  obtain ⟨q2, ⟨hf2, ha2, h7⟩, hrun2⟩ := loop_st (fun n (p : Int32 × Int32 × Int32 × SS) => f9_sort_l139 N n p.1 p.2.1 p.2.2.1 p.2.2.2) (fun k p => f9_sort_l139_B N (fun x1 x2 x3 x4 => k (x1, x2, x3, x4)) p.1 p.2.1 p.2.2.1 p.2.2.2) (fun n p => rfl) (fun n q => (nI t, nI 0, nI n, q)) (fun n q2 => (∀ j, fi q2 j = fi q j) ∧ (∀ j, j ≠ 7 → ar q2 j = ar q1 j) ∧ ∀ k, k < n → ar q2 7 k = ar q 4 (64 * t + k)) 0 64 (fun q2 => f9_sort_l174 N N (nI t) (nI 0) (nI 0) q2) (by
    rintro n q2 - hn ⟨g1, g2, g3⟩
    have e4 : ar q2 4 = ar q 4 := by rw [g2 4 (by decide), ha1 4 (by decide)]
    refine ⟨sa q2 7 n (ar q 4 (64 * t + n)), ⟨fun j => g1 j, fun j hj => ?_, fun k hk => ?_⟩, fun kk => ?_⟩
    · funext m
      rw [ar_sa, if_neg hj, g2 j hj]
    · rw [ar_sa, if_pos rfl]
      by_cases hkp : k = n
      · rw [if_pos hkp, hkp]
      · rw [if_neg hkp, g3 k (by omega)]
    · dsimp only
      unfold f9_sort_l139_B
      simp (disch := omega) only [bd_s, bd2_s, bn_e, ck_nI, dz_nI, cz_0, cz_1, ix_nI, le_t, le_f, lt_t, lt_f, eq_t, eq_f, if_true, if_false, nI_add, pk_sub, pk_mul, pk_div, e4, li0, li1, li2, li3, li4, li5, li6, li7, li8, li9, li10, li12, li15, li16, li20, li21, li24, li31, li32, li40, li41, li48, li53, li55, li56, li57, li63, li64, li100, li108, li112, li115, li126, li127, li255, li256, li576, li384]) (by
    rintro q2 - kk
    dsimp only
    unfold f9_sort_l139_B
    simp (disch := omega) only [bd_s, bd2_s, bn_e, ck_nI, dz_nI, cz_0, cz_1, ix_nI, le_t, le_f, lt_t, lt_f, eq_t, eq_f, if_true, if_false, nI_add, pk_sub, pk_mul, pk_div, li0, li1, li2, li3, li4, li5, li6, li7, li8, li9, li10, li12, li15, li16, li20, li21, li24, li31, li32, li40, li41, li48, li53, li55, li56, li57, li63, li64, li100, li108, li112, li115, li126, li127, li255, li256, li576, li384]) N 0 q1 (by omega) (by omega) (by omega) ⟨hf1, fun _ _ => rfl, fun k hk => by omega⟩
  -- and laid anew
  obtain ⟨q3, ⟨hf3, ha3, h4⟩, hrun3⟩ := loop_st (fun n (p : Int32 × Int32 × Int32 × SS) => f9_sort_l174 N n p.1 p.2.1 p.2.2.1 p.2.2.2) (fun k p => f9_sort_l174_B N (fun x1 x2 x3 x4 => k (x1, x2, x3, x4)) p.1 p.2.1 p.2.2.1 p.2.2.2) (fun n p => rfl) (fun n q => (nI t, nI (mv o n), nI n, q)) (fun n q3 => (∀ j, fi q3 j = fi q j) ∧ (∀ j, j ≠ 4 → ar q3 j = ar q2 j) ∧ ∀ m, ar q3 4 m = if 64 * t ≤ m ∧ m < 64 * t + 8 * n then ar q 4 (64 * t + 8 * o ((m - 64 * t) / 8) + (m - 64 * t) % 8) else ar q 4 m) 0 (dR d t) (fun q3 => some (nI (mv o (dR d t)), sf q3 3 0)) (by
    rintro n q3 - hn ⟨g1, g2, g3⟩
    have e3 : ar q3 3 t = nI (dR d t) := by rw [g2 3 (by decide), ha2 3 (by decide), ha1 3 (by decide)]; exact h3
    have e6 : ar q3 6 n = nI (o n) := by rw [g2 6 (by decide), ha2 6 (by decide)]; exact h6 n hn
    have hon := (ho n hn).1
    have inner : ∃ q4, ((∀ j, fi q4 j = fi q j) ∧ (∀ j, j ≠ 4 → ar q4 j = ar q2 j) ∧ ∀ m, ar q4 4 m = if 64 * t ≤ m ∧ m < 64 * t + 8 * n + 8 then ar q 4 (64 * t + 8 * o ((m - 64 * t) / 8) + (m - 64 * t) % 8) else ar q 4 m) ∧ ∀ bk, f9_sort_l208 N bk N (nI t) (nI (mv o (n + 1))) (nI n) (nI 0) q3 = bk (nI t) (nI (mv o (n + 1))) (nI (n + 1)) q4 :=
      loop_bk (fun bk n (p : Int32 × Int32 × Int32 × Int32 × SS) => f9_sort_l208 N bk n p.1 p.2.1 p.2.2.1 p.2.2.2.1 p.2.2.2.2) (fun bk k p => f9_sort_l208_B N bk (fun x1 x2 x3 x4 x5 => k (x1, x2, x3, x4, x5)) p.1 p.2.1 p.2.2.1 p.2.2.2.1 p.2.2.2.2) (fun bk n p => rfl) (fun j q => (nI t, nI (mv o (n + 1)), nI n, nI j, q)) (fun j q4 => (∀ j, fi q4 j = fi q j) ∧ (∀ j, j ≠ 4 → ar q4 j = ar q2 j) ∧ ∀ m, ar q4 4 m = if 64 * t ≤ m ∧ m < 64 * t + 8 * n + j then ar q 4 (64 * t + 8 * o ((m - 64 * t) / 8) + (m - 64 * t) % 8) else ar q 4 m) 0 8 (fun bk q4 => bk (nI t) (nI (mv o (n + 1))) (nI (n + 1)) q4) (by
        rintro j q4 - hj ⟨g1, g2, g3⟩
        have e6 : ar q4 6 n = nI (o n) := by rw [g2 6 (by decide), ha2 6 (by decide)]; exact h6 n hn
        have e7 : ar q4 7 (8 * o n + j) = ar q 4 (64 * t + 8 * o n + j) := by rw [g2 7 (by decide), h7 _ (by omega), Nat.add_assoc]
        refine ⟨sa q4 4 (64 * t + 8 * n + j) (ar q 4 (64 * t + 8 * o n + j)), ⟨fun j => g1 j, fun j hj => ?_, fun m => ?_⟩, fun bk kk => ?_⟩
        · funext m
          rw [ar_sa, if_neg hj, g2 j hj]
        · rw [ar_sa, if_pos rfl]
          by_cases hm : m = 64 * t + 8 * n + j
          · rw [if_pos hm, if_pos (by omega), show (m - 64 * t) / 8 = n by omega, show (m - 64 * t) % 8 = j by omega]
          · rw [if_neg hm, g3]
            by_cases hm2 : 64 * t ≤ m ∧ m < 64 * t + 8 * n + j
            · rw [if_pos hm2, if_pos (by omega)]
            · rw [if_neg hm2, if_neg (by omega)]
        · dsimp only
          unfold f9_sort_l208_B
          simp (disch := omega) only [bd_s, bd2_s, bn_e, ck_nI, dz_nI, cz_0, cz_1, ix_nI, le_t, le_f, lt_t, lt_f, eq_t, eq_f, if_true, if_false, nI_add, pk_sub, pk_mul, pk_div, e6, e7, li0, li1, li2, li3, li4, li5, li6, li7, li8, li9, li10, li12, li15, li16, li20, li21, li24, li31, li32, li40, li41, li48, li53, li55, li56, li57, li63, li64, li100, li108, li112, li115, li126, li127, li255, li256, li576, li384]) (by
        rintro q4 - bk kk
        dsimp only
        unfold f9_sort_l208_B
        simp (disch := omega) only [bd_s, bd2_s, bn_e, ck_nI, dz_nI, cz_0, cz_1, ix_nI, le_t, le_f, lt_t, lt_f, eq_t, eq_f, if_true, if_false, nI_add, pk_sub, pk_mul, pk_div, li0, li1, li2, li3, li4, li5, li6, li7, li8, li9, li10, li12, li15, li16, li20, li21, li24, li31, li32, li40, li41, li48, li53, li55, li56, li57, li63, li64, li100, li108, li112, li115, li126, li127, li255, li256, li576, li384]) N 0 q3 (by omega) (by omega) (by omega) ⟨g1, g2, g3⟩
    obtain ⟨q4, g4, g5⟩ := inner
    refine ⟨q4, g4, fun kk => ?_⟩
    dsimp only
    unfold f9_sort_l174_B f9_sort_b203
    have hm : mv o (n + 1) = mv o n + (if o n = n then 0 else 1) := rfl
    rw [ck_nI (by omega) (by decide), ix_nI (by omega), e3, if_neg (nI_ge (by omega) (by omega)), ck_nI (by omega) (by decide), ix_nI (by omega), e6]
    by_cases hon2 : o n = n
    · rw [if_pos hon2] at hm
      have hm : mv o (n + 1) = mv o n := hm
      rw [hon2, if_pos rfl, li0, nI_add, Nat.add_zero, bn_e, ← hm]
      exact g5 _
    · rw [if_neg hon2] at hm
      rw [if_neg (fun e => hon2 ((nI_eq (by omega) (by omega)).mp e)), li1, nI_add, bn_e, ← hm]
      exact g5 _) (by
    rintro q3 ⟨g1, g2, g3⟩ kk
    have e3 : ar q3 3 t = nI (dR d t) := by rw [g2 3 (by decide), ha2 3 (by decide), ha1 3 (by decide)]; exact h3
    dsimp only
    unfold f9_sort_l174_B
    simp (disch := omega) only [bd_s, bd2_s, bn_e, ck_nI, dz_nI, cz_0, cz_1, ix_nI, le_t, le_f, lt_t, lt_f, eq_t, eq_f, if_true, if_false, nI_add, pk_sub, pk_mul, pk_div, e3, li0, li1, li2, li3, li4, li5, li6, li7, li8, li9, li10, li12, li15, li16, li20, li21, li24, li31, li32, li40, li41, li48, li53, li55, li56, li57, li63, li64, li100, li108, li112, li115, li126, li127, li255, li256, li576, li384]) N 0 q2 (by omega) (by omega) (by omega) ⟨hf2, fun _ _ => rfl, fun m => by rw [if_neg (by omega), ha2 4 (by decide), ha1 4 (by decide)]⟩
  refine ⟨o, sf q3 3 0, ho, hrun1.trans (hrun2.trans hrun3), ?_, rfl⟩
  refine RM_rows hw h ht (fun k hk => ?_) (fun k hk => ?_) (fun u hu => ?_) (fun u j l hu hne hj hl => ?_) (fun j l hj hl hb => ?_)
  · rw [fi_sf, if_neg (by omega), hf3]
  · rw [ar_sf, ha3 k (by omega), ha2 k (by omega), ha1 k (by omega)]
  · rw [ar_sf, ha3 3 (by decide), ha2 3 (by decide), ha1 3 (by decide)]
    by_cases hut : u = t
    · rw [if_pos hut, hut]; exact h3
    · rw [if_neg hut]
  · rw [ar_sf, h4, if_neg]
    rcases Nat.lt_or_ge u t with z | z <;> omega
  · rw [ar_sf, h4, if_pos (by omega), show (64 * t + 8 * j + l - 64 * t) / 8 = j by omega, show (64 * t + 8 * j + l - 64 * t) % 8 = l by omega]
    exact m_addr hw h ht (ho j hj).1 hl hb
theorem op_sort (hN : 1000 ≤ N) : Op_sort N Sim := by
  rintro a b qC qM ⟨d, hw, hC, hM, hH⟩
  have hT := hw.1
  unfold f8_sort f9_sort
  rcases tcase a (n := dT d) (by omega) with ⟨t, ht, rfl⟩ | ha
  · rcases tcase b (n := 8) (by decide) with ⟨l, hl, rfl⟩ | hb
    · have e1 := c_has hw hC ht hl
      have e2 := m_has hw hM ht (l := l) (by omega)
      cases hbit : (dL d t).testBit l
      · rw [hbit] at e1 e2
        refine ⟨-102, _, _, ?_, ?_, d, hw, hC, hM, hH⟩
        · simp (disch := omega) only [bd_s, bd2_s, bn_e, ck_nI, dz_nI, cz_0, cz_1, ix_nI, le_t, le_f, lt_t, lt_f, eq_t, eq_f, if_true, if_false, nI_add, pk_sub, pk_mul, pk_div, c_holds hw hC ht, e1, Bool.toNat_false, li0, li1, li2, li3, li4, li5, li6, li7, li8, li9, li10, li12, li15, li16, li20, li21, li24, li31, li32, li40, li41, li48, li53, li55, li56, li57, li63, li64, li100, li108, li112, li115, li126, li127, li255, li256, li576, li384]
        · simp (disch := omega) only [bd_s, bd2_s, bn_e, ck_nI, dz_nI, cz_0, cz_1, ix_nI, le_t, le_f, lt_t, lt_f, eq_t, eq_f, if_true, if_false, nI_add, pk_sub, pk_mul, pk_div, m_isTable hw hM ht, in07 hl, e2, Bool.toNat_false, li0, li1, li2, li3, li4, li5, li6, li7, li8, li9, li10, li12, li15, li16, li20, li21, li24, li31, li32, li40, li41, li48, li53, li55, li56, li57, li63, li64, li100, li108, li112, li115, li126, li127, li255, li256, li576, li384]
      · rw [hbit] at e1 e2
        obtain ⟨o, qM', ho, k1, k2, k3⟩ := m_sort hw hM hN ht hl hbit
        obtain ⟨qC', g1, g2⟩ := c_sort hw hC hN ht hl hbit ho
        refine ⟨nI (mv o (dR d t)), qC', qM', ?_, ?_, sortR d t o, WF_sort hw ht, g2, k2, Or.inl k3⟩
        · simp (disch := omega) only [bd_s, bd2_s, bn_e, ck_nI, dz_nI, cz_0, cz_1, ix_nI, le_t, le_f, lt_t, lt_f, eq_t, eq_f, if_true, if_false, nI_add, pk_sub, pk_mul, pk_div, c_holds hw hC ht, e1, Bool.toNat_true, g1, li0, li1, li2, li3, li4, li5, li6, li7, li8, li9, li10, li12, li15, li16, li20, li21, li24, li31, li32, li40, li41, li48, li53, li55, li56, li57, li63, li64, li100, li108, li112, li115, li126, li127, li255, li256, li576, li384]
        · simp (disch := omega) only [bd_s, bd2_s, bn_e, ck_nI, dz_nI, cz_0, cz_1, ix_nI, le_t, le_f, lt_t, lt_f, eq_t, eq_f, if_true, if_false, nI_add, pk_sub, pk_mul, pk_div, m_isTable hw hM ht, in07 hl, e2, Bool.toNat_true, li0, li1, li2, li3, li4, li5, li6, li7, li8, li9, li10, li12, li15, li16, li20, li21, li24, li31, li32, li40, li41, li48, li53, li55, li56, li57, li63, li64, li100, li108, li112, li115, li126, li127, li255, li256, li576, li384]
          exact k1
    · refine ⟨-102, _, _, ?_, ?_, d, hw, hC, hM, hH⟩
      · simp (disch := omega) only [bd_s, bd2_s, bn_e, ck_nI, dz_nI, cz_0, cz_1, ix_nI, le_t, le_f, lt_t, lt_f, eq_t, eq_f, if_true, if_false, nI_add, pk_sub, pk_mul, pk_div, c_holds hw hC ht, c_has_f hw hC ht hb, li0, li1, li2, li3, li4, li5, li6, li7, li8, li9, li10, li12, li15, li16, li20, li21, li24, li31, li32, li40, li41, li48, li53, li55, li56, li57, li63, li64, li100, li108, li112, li115, li126, li127, li255, li256, li576, li384]
      · simp (disch := omega) only [bd_s, bd2_s, bn_e, ck_nI, dz_nI, cz_0, cz_1, ix_nI, le_t, le_f, lt_t, lt_f, eq_t, eq_f, if_true, if_false, nI_add, pk_sub, pk_mul, pk_div, m_isTable hw hM ht, in07_f hb, li0, li1, li2, li3, li4, li5, li6, li7, li8, li9, li10, li12, li15, li16, li20, li21, li24, li31, li32, li40, li41, li48, li53, li55, li56, li57, li63, li64, li100, li108, li112, li115, li126, li127, li255, li256, li576, li384]
  · refine ⟨-101, _, _, ?_, ?_, d, hw, hC, hM, hH⟩
    · simp (disch := omega) only [bd_s, bd2_s, bn_e, ck_nI, dz_nI, cz_0, cz_1, ix_nI, le_t, le_f, lt_t, lt_f, eq_t, eq_f, if_true, if_false, nI_add, pk_sub, pk_mul, pk_div, c_holds_f hC ha, li0, li1, li2, li3, li4, li5, li6, li7, li8, li9, li10, li12, li15, li16, li20, li21, li24, li31, li32, li40, li41, li48, li53, li55, li56, li57, li63, li64, li100, li108, li112, li115, li126, li127, li255, li256, li576, li384]
    · simp (disch := omega) only [bd_s, bd2_s, bn_e, ck_nI, dz_nI, cz_0, cz_1, ix_nI, le_t, le_f, lt_t, lt_f, eq_t, eq_f, if_true, if_false, nI_add, pk_sub, pk_mul, pk_div, m_isTable_f hw hM ha, li0, li1, li2, li3, li4, li5, li6, li7, li8, li9, li10, li12, li15, li16, li20, li21, li24, li31, li32, li40, li41, li48, li53, li55, li56, li57, li63, li64, li100, li108, li112, li115, li126, li127, li255, li256, li576, li384]
end Srt
