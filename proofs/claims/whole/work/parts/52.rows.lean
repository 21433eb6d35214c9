/-! a table's rows change -/
def setRows (d : DB) (t n : Nat) (V : Nat → Nat → Nat) : DB := (d.1, d.2.1, d.2.2.1, fun u => if u = t then n else dR d u, fun u i l => if u = t then V i l else dV d u i l, d.2.2.2.2.2)
section Rows
variable {N : Nat} {d : DB} {q q' : SS}
theorem dR_self (d : DB) (t n : Nat) (V : Nat → Nat → Nat) : dR (setRows d t n V) t = n := if_pos rfl
theorem dR_ne (d : DB) {t u : Nat} (n : Nat) (V : Nat → Nat → Nat) (h : u ≠ t) : dR (setRows d t n V) u = dR d u := if_neg h
theorem dV_self (d : DB) (t n : Nat) (V : Nat → Nat → Nat) (i l : Nat) : dV (setRows d t n V) t i l = V i l := if_pos rfl
theorem dV_ne (d : DB) {t u : Nat} (n : Nat) (V : Nat → Nat → Nat) (i l : Nat) (h : u ≠ t) : dV (setRows d t n V) u i l = dV d u i l := if_neg h
theorem WF_rows (hw : WF d) {t n : Nat} {V : Nat → Nat → Nat} (ht : t < dT d) (hn : n ≤ 8) (hV : ∀ i l, V i l ≤ 9) : WF (setRows d t n V) := by
  obtain ⟨w0, w1, w2, w3, w4⟩ := hw
  refine ⟨w0, fun u hu => ?_, fun u hu => ?_, fun u i l => ?_, w4⟩
  · obtain ⟨a1, a2, a3, a4, a5, a6⟩ := w1 u hu
    refine ⟨a1, a2, a3, a4, a5, ?_⟩
    by_cases h : u = t
    · subst h; rw [dR_self]; exact hn
    · rw [dR_ne _ _ _ h]; exact a6
  · have hu : dT d ≤ u := hu
    rw [dR_ne _ _ _ (by omega)]; exact w2 u hu
  · by_cases h : u = t
    · subst h; rw [dV_self]; exact hV i l
    · rw [dV_ne _ _ _ _ _ h]; exact w3 u i l
theorem RC_rows (hw : WF d) (h : RC d q) {t n : Nat} {V : Nat → Nat → Nat} (ht : t < dT d) (hf : ∀ k, k < 5 → fi q' k = fi q k) (ha : ∀ k, k = 7 ∨ k = 8 ∨ k = 16 → ar q' k = ar q k) (h9 : ∀ u, u < 6 → ar q' 9 u = if u = t then nI n else ar q 9 u)
    (h10 : ∀ u i, u < 6 → u ≠ t → i < 8 → ar q' 10 (8 * u + i) = ar q 10 (8 * u + i)) (h10t : ∀ i, i < n → ar q' 10 (8 * t + i) = nI (nib (fun l => if (dL d t).testBit l then V i l else 0) 8)) : RC (setRows d t n V) q' := by
  obtain ⟨c0, c1, c2, c3, c4, c5, c6, c7, c8⟩ := h
  have hT := hw.1
  refine ⟨by rw [hf 0 (by decide)]; exact c0, by rw [hf 1 (by decide)]; exact c1, by rw [hf 2 (by decide)]; exact c2, by rw [hf 3 (by decide)]; exact c3, by rw [hf 4 (by decide)]; exact c4, fun u hu => by rw [ha 7 (by omega), ha 8 (by omega)]; exact c5 u hu, fun u hu => ?_, fun u i hu hi => ?_, fun k hk => by rw [ha 16 (by omega)]; exact c8 k hk⟩
  · rw [h9 u hu]
    by_cases h : u = t
    · subst h; rw [if_pos rfl, dR_self]
    · rw [if_neg h, dR_ne _ _ _ h]; exact c6 u hu
  · have hu : u < dT d := hu
    by_cases h : u = t
    · subst h
      rw [dR_self] at hi
      rw [h10t i hi]
      congr 1
      exact nib_ext (fun l _ => by show _ = if (dL d u).testBit l then dV (setRows d u n V) u i l else 0; rw [dV_self])
    · rw [dR_ne _ _ _ h] at hi
      have hR := (hw.2.1 u hu).2.2.2.2.2
      rw [h10 u i (by omega) h (by omega), c7 u i hu hi]
      congr 1
      exact nib_ext (fun l _ => by show cdf d u i l = if (dL d u).testBit l then dV (setRows d t n V) u i l else 0; rw [dV_ne _ _ _ _ _ h]; rfl)
theorem RM_rows (hw : WF d) (h : RMk d q) {t n : Nat} {V : Nat → Nat → Nat} (ht : t < dT d) (hf : ∀ k, k ≤ 2 ∨ k = 5 ∨ k = 12 → fi q' k = fi q k) (ha : ∀ k, k = 1 ∨ k = 2 ∨ k = 11 → ar q' k = ar q k) (h3 : ∀ u, u < 6 → ar q' 3 u = if u = t then nI n else ar q 3 u)
    (h4 : ∀ u i l, u < 6 → u ≠ t → i < 8 → l < 8 → ar q' 4 (64 * u + 8 * i + l) = ar q 4 (64 * u + 8 * i + l)) (h4t : ∀ i l, i < n → l < 8 → (dL d t).testBit l = true → ar q' 4 (64 * t + 8 * i + l) = nI (V i l)) : RMk (setRows d t n V) q' := by
  obtain ⟨m0, m1, m2, m3, m4, m5, m6, m7, m8⟩ := h
  have hT := hw.1
  refine ⟨by rw [hf 0 (by omega)]; exact m0, by rw [hf 1 (by omega)]; exact m1, by rw [hf 2 (by omega)]; exact m2, by rw [hf 5 (by omega)]; exact m3, by rw [hf 12 (by omega)]; exact m4, fun u hu => by rw [ha 1 (by omega), ha 2 (by omega)]; exact m5 u hu, fun u hu => ?_, fun u i l hu hi hl hb => ?_, fun k hk => by rw [ha 11 (by omega)]; exact m8 k hk⟩
  · rw [h3 u hu]
    by_cases h : u = t
    · subst h; rw [if_pos rfl, dR_self]
    · rw [if_neg h, dR_ne _ _ _ h]; exact m6 u hu
  · have hu : u < dT d := hu
    by_cases h : u = t
    · subst h
      rw [dR_self] at hi
      rw [dV_self]
      exact h4t i l hi hl hb
    · rw [dR_ne _ _ _ h] at hi
      have hR := (hw.2.1 u hu).2.2.2.2.2
      rw [h4 u i l (by omega) h (by omega) hl, dV_ne _ _ _ _ _ h]
      exact m7 u i l hu hi hl hb
/-- a row with the numbers w comes behind the others -/
def addR (d : DB) (t : Nat) (w : Nat → Nat) : DB := setRows d t (dR d t + 1) (fun i l => if i = dR d t then w l else dV d t i l)
theorem WF_addR (hw : WF d) {t : Nat} {w : Nat → Nat} (ht : t < dT d) (hR : dR d t < 8) (hV : ∀ l, w l ≤ 9) : WF (addR d t w) := WF_rows hw ht (by omega) (fun i l => by
  split
  · exact hV l
  · exact hw.2.2.2.1 t i l)
theorem c_addRow (hw : WF d) (h : RC d q) {t : Nat} {w : Nat → Nat} (ht : t < dT d) (hR : dR d t < 8) : ∃ q', f7_addRow (nI t) (nI (nib (fun l => if (dL d t).testBit l then w l else 0) 8)) q = some (nI (dR d t + 1), q') ∧ RC (addR d t w) q' := by
  have hT := hw.1
  have h1 := h.2.2.2.2.2.2.1 t (by omega)
  refine ⟨sa (sa q 10 (8 * t + dR d t) (nI (nib (fun l => if (dL d t).testBit l then w l else 0) 8))) 9 t (nI (dR d t + 1)), ?_, ?_⟩
  · unfold f7_addRow
    simp (disch := omega) only [bd_s, bd2_s, bn_e, ck_nI, dz_nI, cz_0, cz_1, ix_nI, le_t, le_f, lt_t, lt_f, eq_t, eq_f, if_true, if_false, nI_add, pk_sub, pk_mul, pk_div, c_holds hw h ht, h1, Nat.mul_comm t 8, li0, li1, li2, li3, li4, li5, li6, li7, li8, li9, li10, li12, li15, li16, li20, li21, li24, li31, li32, li40, li41, li48, li53, li55, li56, li57, li63, li64, li100, li108, li112, li115, li126, li127, li255, li256, li576, li384]
  · refine RC_rows hw h ht (fun k _ => rfl) (fun k hk => ?_) (fun u hu => ?_) (fun u i hu hne hi => ?_) (fun i hi => ?_)
    · funext m
      rw [ar_sa, ar_sa, if_neg (by omega), if_neg (by omega)]
    · rw [ar_sa, ar_sa, if_pos rfl, if_neg (show ¬ (9 : Nat) = 10 by decide)]
    · rw [ar_sa, ar_sa, if_neg (by decide), if_pos rfl, if_neg (by omega)]
    · rw [ar_sa, ar_sa, if_neg (by decide), if_pos rfl]
      by_cases hi2 : i = dR d t
      · subst hi2
        simp
      · rw [if_neg (by omega)]
        simp only [hi2, if_false]
        exact h.2.2.2.2.2.2.2.1 t i ht (by omega)
/-- how many letters lie below l -/
def rk (s l : Nat) : Nat := bsum (fun k => (s.testBit k).toNat) l
theorem kth {s k : Nat} (hs : s < 256) (hk : k < pc s) : ∃ l, l < 8 ∧ s.testBit l = true ∧ rk s l = k := by
  have key : ∀ s : Fin 256, ∀ k : Fin 8, k.1 < pc s.1 → ∃ l : Fin 8, s.1.testBit l.1 = true ∧ rk s.1 l.1 = k.1 := by decide +kernel
  have h8 : pc s ≤ 8 := by rw [← bsum8 hs]; exact (by have := bsum_le (f := fun k => (s.testBit k).toNat) (g := fun _ => 1) (n := 8) (fun i _ => Bool.toNat_le _); rw [bsum_const] at this; exact this)
  obtain ⟨l, h1, h2⟩ := key ⟨s, hs⟩ ⟨k, by omega⟩ hk
  exact ⟨l.1, l.2, h1, h2⟩
theorem rk_s (s l : Nat) : rk s (l + 1) = rk s l + (s.testBit l).toNat := rfl
theorem rk_mono (s : Nat) : ∀ {a b : Nat}, a ≤ b → rk s a ≤ rk s b := by
  intro a b h
  induction b with
  | zero => have : a = 0 := by omega
            subst this; exact Nat.le_refl _
  | succ b ih =>
    by_cases hab : a = b + 1
    · subst hab; exact Nat.le_refl _
    · have := ih (by omega)
      rw [rk_s]
      omega
theorem rk_lt {s a b : Nat} (h : a < b) (hb : s.testBit a = true) : rk s a < rk s b := by
  have h1 := rk_mono s (show a + 1 ≤ b by omega)
  rw [rk_s, hb] at h1
  have : (true).toNat = 1 := rfl
  omega
theorem rk_inj {s a b : Nat} (ha : s.testBit a = true) (hb : s.testBit b = true) (h : rk s a = rk s b) : a = b := by
  rcases Nat.lt_trichotomy a b with h1 | h1 | h1
  · have := rk_lt h1 ha; omega
  · exact h1
  · have := rk_lt h1 hb; omega
theorem rk_pc {s l : Nat} (hs : s < 256) (hl : l < 8) (hb : s.testBit l = true) : rk s l < pc s := by
  rw [← bsum8 hs]; exact rk_lt hl hb
theorem m_letterAt (hw : WF d) (h : RMk d q) {t l : Nat} (hN : 1000 ≤ N) (ht : t < dT d) (hl : l < 8) (hb : (dL d t).testBit l = true) : f9_letterAt N q (nI t) (nI (rk (dL d t) l)) = some (nI l) := by
  have hT := hw.1
  have hlt := rk_pc (hw.2.1 t ht).2.1 hl hb
  have hp := (hw.2.1 t ht).2.2.1
  refine loop_run (fun n (p : Int32 × Int32 × Int32) => f9_letterAt_l5 N q n p.1 p.2.1 p.2.2) (fun k p => f9_letterAt_l5_B N q (fun a b c => k (a, b, c)) p.1 p.2.1 p.2.2) (fun n p => rfl) (fun i => (nI t, nI (rk (dL d t) l - rk (dL d t) i), nI i)) l _ (c := 0) ?_ ?_ N 0 (Nat.le_refl _) (Nat.zero_le _) (by omega)
  · intro i _ hi k
    have e1 := m_has hw h ht (l := i) (by omega)
    have hm := rk_mono (dL d t) (Nat.le_of_lt hi)
    dsimp only
    unfold f9_letterAt_l5_B f9_letterAt_b19 f9_letterAt_b35
    cases hbi : (dL d t).testBit i
    · rw [hbi, Bool.toNat_false] at e1
      rw [rk_s, hbi, Bool.toNat_false]
      simp (disch := omega) only [bd_s, bd2_s, bn_e, ck_nI, dz_nI, cz_0, cz_1, ix_nI, le_t, le_f, lt_t, lt_f, eq_t, eq_f, if_true, if_false, nI_add, pk_sub, pk_mul, pk_div, e1, Nat.add_zero, Nat.sub_zero, li0, li1, li2, li3, li4, li5, li6, li7, li8, li9, li10, li12, li15, li16, li20, li21, li24, li31, li32, li40, li41, li48, li53, li55, li56, li57, li63, li64, li100, li108, li112, li115, li126, li127, li255, li256, li576, li384]
    · have hm2 := rk_lt hi hbi
      rw [hbi, Bool.toNat_true] at e1
      rw [rk_s, hbi, Bool.toNat_true]
      simp (disch := omega) only [bd_s, bd2_s, bn_e, ck_nI, dz_nI, cz_0, cz_1, ix_nI, le_t, le_f, lt_t, lt_f, eq_t, eq_f, if_true, if_false, nI_add, pk_sub, pk_mul, pk_div, e1, Nat.sub_sub, li0, li1, li2, li3, li4, li5, li6, li7, li8, li9, li10, li12, li15, li16, li20, li21, li24, li31, li32, li40, li41, li48, li53, li55, li56, li57, li63, li64, li100, li108, li112, li115, li126, li127, li255, li256, li576, li384]
  · intro k
    have e1 := m_has hw h ht (l := l) (by omega)
    rw [hb, Bool.toNat_true] at e1
    dsimp only
    unfold f9_letterAt_l5_B
    simp (disch := omega) only [bd_s, bd2_s, bn_e, ck_nI, dz_nI, cz_0, cz_1, ix_nI, le_t, le_f, lt_t, lt_f, eq_t, eq_f, if_true, if_false, nI_add, pk_sub, pk_mul, pk_div, e1, Nat.sub_self, li0, li1, li2, li3, li4, li5, li6, li7, li8, li9, li10, li12, li15, li16, li20, li21, li24, li31, li32, li40, li41, li48, li53, li55, li56, li57, li63, li64, li100, li108, li112, li115, li126, li127, li255, li256, li576, li384]
theorem m_lay (hw : WF d) (h : RMk d q) {t : Nat} {w : Nat → Nat} {a b c : Int32} (hN : 1000 ≤ N) (ht : t < dT d) (hR : dR d t < 8) (hp : ∀ l, l < 8 → (dL d t).testBit l = true → (if rk (dL d t) l = 0 then a else if rk (dL d t) l = 1 then b else c) = nI (w l)) :
    ∃ q', f9_lay N (nI t) a b c q = some q' ∧ RMk (addR d t w) q' ∧ fi q' 3 = 0 := by
  have hT := hw.1
  obtain ⟨-, hL, hp3, -⟩ := hw.2.1 t ht
  have e0 := (h.2.2.2.2.2.1 t ht).1
  have e3 := h.2.2.2.2.2.2.1 t (by omega)
  have eb := m_bitsOf (N := N) (s := dL d t) hN hL
  obtain ⟨m, s', ⟨⟨hx1, hx2, hx3, hx4, hx5, hx6⟩, hf, ha, h4⟩, hrun⟩ := loop_inv (fun n (p : Int32 × Int32 × Int32 × Int32 × Int32 × Int32 × SS) => f9_lay_l14 N n p.1 p.2.1 p.2.2.1 p.2.2.2.1 p.2.2.2.2.1 p.2.2.2.2.2.1 p.2.2.2.2.2.2) (fun k p => f9_lay_l14_B N (fun x1 x2 x3 x4 x5 x6 x7 => k (x1, x2, x3, x4, x5, x6, x7)) p.1 p.2.1 p.2.2.1 p.2.2.2.1 p.2.2.2.2.1 p.2.2.2.2.2.1 p.2.2.2.2.2.2) (fun n p => rfl)
    (fun i p => (p.1 = nI t ∧ p.2.1 = a ∧ p.2.2.1 = b ∧ p.2.2.2.1 = c ∧ p.2.2.2.2.1 = nI (pc (dL d t)) ∧ p.2.2.2.2.2.1 = nI i) ∧ (∀ k, fi p.2.2.2.2.2.2 k = fi q k) ∧ (∀ k, k ≠ 4 → ar p.2.2.2.2.2.2 k = ar q k) ∧ (∀ m, ar p.2.2.2.2.2.2 4 m = if (64 * t + 8 * dR d t ≤ m ∧ m < 64 * t + 8 * dR d t + 8) ∧ (dL d t).testBit (m - (64 * t + 8 * dR d t)) = true ∧ rk (dL d t) (m - (64 * t + 8 * dR d t)) < i then nI (w (m - (64 * t + 8 * dR d t))) else ar q 4 m)) (pc (dL d t)) (by
    rintro i ⟨x1, x2, x3, x4, x5, x6, qi⟩ hi ⟨⟨h1, h2, h3, h4, h5, h6⟩, hf, ha, h4'⟩
    dsimp only at h1 h2 h3 h4 h5 h6 hf ha h4'
    subst h1 h2 h3 h4 h5 h6
    obtain ⟨l, hl, hb, hrk⟩ := kth hL hi
    have hM : RMk d qi := by
      obtain ⟨m0, m1, m2, m3, m4, m5, m6, m7, m8⟩ := h
      have hR8 : ∀ u, u < dT d → dR d u ≤ 8 := fun u hu => (hw.2.1 u hu).2.2.2.2.2
      refine ⟨by rw [hf]; exact m0, by rw [hf]; exact m1, by rw [hf]; exact m2, by rw [hf]; exact m3, by rw [hf]; exact m4, fun u hu => by rw [ha 1 (by decide), ha 2 (by decide)]; exact m5 u hu, fun u hu => by rw [ha 3 (by decide)]; exact m6 u hu, fun u j l' hu hj hl' hb' => ?_, fun k hk => by rw [ha 11 (by decide)]; exact m8 k hk⟩
      have := hR8 u hu
      rw [h4', if_neg]
      · exact m7 u j l' hu hj hl' hb'
      · rintro ⟨⟨z1, z2⟩, -⟩
        by_cases hut : u = t
        · subst hut; omega
        · rcases Nat.lt_or_ge u t with z | z <;> omega
    have el := m_letterAt hw hM hN ht hl hb
    rw [hrk] at el
    have e3' : ar qi 3 t = nI (dR d t) := by rw [ha 3 (by decide)]; exact e3
    have hpl := hp l hl hb
    rw [hrk] at hpl
    refine ⟨(nI t, x2, x3, x4, nI (pc (dL d t)), nI (i + 1), sa qi 4 (64 * t + 8 * dR d t + l) (nI (w l))), ⟨⟨rfl, rfl, rfl, rfl, rfl, rfl⟩, fun k => by rw [fi_sa]; exact hf k, fun k hk => ?_, fun m => ?_⟩, fun k => ?_⟩
    · funext m
      rw [ar_sa, if_neg hk, ha k hk]
    · dsimp only
      rw [ar_sa, if_pos rfl]
      by_cases hm : m = 64 * t + 8 * dR d t + l
      · subst hm
        rw [if_pos rfl, Nat.add_sub_cancel_left, if_pos ⟨⟨by omega, by omega⟩, hb, by omega⟩]
      · rw [if_neg hm, h4']
        by_cases hc : (64 * t + 8 * dR d t ≤ m ∧ m < 64 * t + 8 * dR d t + 8) ∧ (dL d t).testBit (m - (64 * t + 8 * dR d t)) = true ∧ rk (dL d t) (m - (64 * t + 8 * dR d t)) < i
        · rw [if_pos hc, if_pos ⟨hc.1, hc.2.1, by omega⟩]
        · rw [if_neg hc, if_neg]
          rintro ⟨z1, z2, z3⟩
          apply hc
          refine ⟨z1, z2, ?_⟩
          rcases Nat.lt_or_ge (rk (dL d t) (m - (64 * t + 8 * dR d t))) i with z | z
          · exact z
          · have := rk_inj z2 hb (by omega)
            omega
    · dsimp only
      unfold f9_lay_l14_B f9_lay_b68
      rcases (show i = 0 ∨ i = 1 ∨ 2 ≤ i by omega) with rfl | rfl | hi2
      · rw [if_pos rfl] at hpl
        simp (disch := omega) only [bd_s, bd2_s, bn_e, ck_nI, dz_nI, cz_0, cz_1, ix_nI, le_t, le_f, lt_t, lt_f, eq_t, eq_f, if_true, if_false, nI_add, pk_sub, pk_mul, pk_div, el, e3', hpl, li0, li1, li2, li3, li4, li5, li6, li7, li8, li9, li10, li12, li15, li16, li20, li21, li24, li31, li32, li40, li41, li48, li53, li55, li56, li57, li63, li64, li100, li108, li112, li115, li126, li127, li255, li256, li576, li384]
      · rw [if_neg (by decide), if_pos rfl] at hpl
        simp (disch := omega) only [bd_s, bd2_s, bn_e, ck_nI, dz_nI, cz_0, cz_1, ix_nI, le_t, le_f, lt_t, lt_f, eq_t, eq_f, if_true, if_false, nI_add, pk_sub, pk_mul, pk_div, el, e3', hpl, li0, li1, li2, li3, li4, li5, li6, li7, li8, li9, li10, li12, li15, li16, li20, li21, li24, li31, li32, li40, li41, li48, li53, li55, li56, li57, li63, li64, li100, li108, li112, li115, li126, li127, li255, li256, li576, li384]
      · rw [if_neg (by omega), if_neg (by omega)] at hpl
        simp (disch := omega) only [bd_s, bd2_s, bn_e, ck_nI, dz_nI, cz_0, cz_1, ix_nI, le_t, le_f, lt_t, lt_f, eq_t, eq_f, if_true, if_false, nI_add, pk_sub, pk_mul, pk_div, el, e3', hpl, li0, li1, li2, li3, li4, li5, li6, li7, li8, li9, li10, li12, li15, li16, li20, li21, li24, li31, li32, li40, li41, li48, li53, li55, li56, li57, li63, li64, li100, li108, li112, li115, li126, li127, li255, li256, li576, li384]) N 0 (nI t, a, b, c, nI (pc (dL d t)), nI 0, q) (Nat.zero_le _) (by omega) ⟨⟨rfl, rfl, rfl, rfl, rfl, rfl⟩, fun _ => rfl, fun _ _ => rfl, fun m => by rw [if_neg (by rintro ⟨-, -, z⟩; omega)]⟩
  obtain ⟨x1, x2, x3, x4, x5, x6, q1⟩ := s'
  dsimp only at hx1 hx2 hx3 hx4 hx5 hx6 hf ha h4 hrun
  subst hx1 hx2 hx3 hx4 hx5 hx6
  have e3' : ar q1 3 t = nI (dR d t) := by rw [ha 3 (by decide)]; exact e3
  refine ⟨sf (sa q1 3 t (nI (dR d t + 1))) 3 0, ?_, ?_, rfl⟩
  · unfold f9_lay
    rw [ck_nI (by omega) (by decide), ix_nI (by omega), e0, eb, bd_s]
    refine Eq.trans hrun ?_
    unfold f9_lay_l14_B
    simp (disch := omega) only [bd_s, bd2_s, bn_e, ck_nI, dz_nI, cz_0, cz_1, ix_nI, le_t, le_f, lt_t, lt_f, eq_t, eq_f, if_true, if_false, nI_add, pk_sub, pk_mul, pk_div, e3', li0, li1, li2, li3, li4, li5, li6, li7, li8, li9, li10, li12, li15, li16, li20, li21, li24, li31, li32, li40, li41, li48, li53, li55, li56, li57, li63, li64, li100, li108, li112, li115, li126, li127, li255, li256, li576, li384]
  · refine RM_rows hw h ht (fun k hk => ?_) (fun k hk => ?_) (fun u hu => ?_) (fun u i l hu hne hi hl => ?_) (fun i l hi hl hb => ?_)
    · rw [fi_sf, if_neg (by omega), fi_sa, hf]
    · rw [ar_sf]
      funext m
      rw [ar_sa, if_neg (by omega), ha k (by omega)]
    · rw [ar_sf, ar_sa, if_pos rfl, ha 3 (by decide)]
    · rw [ar_sf, ar_sa, if_neg (by decide), h4, if_neg]
      rintro ⟨⟨z1, z2⟩, -⟩
      rcases Nat.lt_or_ge u t with z | z <;> omega
    · rw [ar_sf, ar_sa, if_neg (by decide), h4]
      by_cases hi2 : i = dR d t
      · subst hi2
        rw [Nat.add_sub_cancel_left, if_pos ⟨⟨by omega, by omega⟩, hb, rk_pc hL hl hb⟩]
        simp
      · rw [if_neg (by rintro ⟨⟨z1, z2⟩, -⟩; omega)]
        simp only [hi2, if_false]
        exact h.2.2.2.2.2.2.2.1 t i l ht (by omega) hl hb
end Rows
