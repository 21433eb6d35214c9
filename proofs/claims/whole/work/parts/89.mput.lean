/-! the reference's cells -/
section MPut
variable {N : Nat} {d : DB} {q : SS}
theorem mj_right : ∀ (A B : List Nat) (j : Nat), mj (A ++ B) (A.length + j) = mj B j
  | [], B, j => by rw [List.nil_append, List.length_nil, Nat.zero_add]
  | a :: A, B, j => by
    rw [List.cons_append, List.length_cons, show A.length + 1 + j = (A.length + j) + 1 by omega]
    exact mj_right A B j
def tri (q : SS) (l : List Nat) : Prop := fi q 13 = nI l.length ∧ ∀ k, k < l.length → ar q 20 k = nI (mj l k)
def frX (q q' : SS) : Prop := (∀ j, j ≠ 13 → fi q' j = fi q j) ∧ ∀ k, k ≠ 20 → ar q' k = ar q k
theorem frX.rf {q : SS} : frX q q := ⟨fun _ _ => rfl, fun _ _ => rfl⟩
theorem frX.tr {a b c : SS} (h : frX a b) (g : frX b c) : frX a c := ⟨fun k hk => (g.1 k hk).trans (h.1 k hk), fun k hk => (g.2 k hk).trans (h.2 k hk)⟩
theorem m_putSign {l : List Nat} {c : Nat} (h : tri q l) (hl : l.length < 21) : ∃ q', f9_putSign (nI c) q = some q' ∧ tri q' (l ++ [c]) ∧ frX q q' := by
  refine ⟨sf (sa q 20 l.length (nI c)) 13 (nI (l.length + 1)), ?_, ⟨?_, fun k hk => ?_⟩, fun j hj => ?_, fun k hk => ?_⟩
  · unfold f9_putSign
    rw [h.1, ck_nI hl (by decide), ix_nI (by omega), bn_e, fi_sa, h.1, nI_s, bn_e]
  · rw [gf, List.length_append]
    rfl
  · rw [List.length_append] at hk
    have hk : k < l.length + 1 := hk
    rw [ar_sf]
    by_cases e : k = l.length
    · subst e
      rw [ga, mj_last]
    · rw [gi _ _ _ _ e, mj_left (by omega)]
      exact h.2 k (by omega)
  · rw [gg _ _ _ hj]
    rfl
  · rw [ar_sf, gk _ _ _ _ hk]
theorem m_putText {l m : List Nat} {i : Nat} (hN : 1000 ≤ N) (h : tri q l) (hi : i < 576) (hl : l.length + m.length ≤ 21) (hm : ∀ k, k < m.length → ar q 19 (21 * i + k) = nI (mj m k)) : ∃ q', f9_putText N (nI i) (nI m.length) q = some q' ∧ tri q' (l ++ m) ∧ frX q q' := by
  obtain ⟨q', ⟨g1, g2, g3, g4⟩, hrun⟩ := loop_st (fun n (p : Int32 × Int32 × Int32 × SS) => f9_putText_l2 N n p.1 p.2.1 p.2.2.1 p.2.2.2) (fun k p => f9_putText_l2_B N (fun x1 x2 x3 x4 => k (x1, x2, x3, x4)) p.1 p.2.1 p.2.2.1 p.2.2.2) (fun n p => rfl) (fun k q => (nI i, nI m.length, nI k, q)) (fun k q' => frX q q' ∧ fi q' 13 = nI (l.length + k) ∧ (∀ j, j < l.length → ar q' 20 j = nI (mj l j)) ∧ ∀ j, j < k → ar q' 20 (l.length + j) = nI (mj m j)) 0 m.length (fun q' => some q') (by
    rintro k q1 - hk ⟨g1, g2, g3, g4⟩
    refine ⟨sf (sa q1 20 (l.length + k) (nI (mj m k))) 13 (nI (l.length + (k + 1))), ⟨⟨fun j hj => ?_, fun j hj => ?_⟩, gf _ _ _, fun j hj => ?_, fun j hj => ?_⟩, fun kk => ?_⟩
    · rw [gg _ _ _ hj]; exact g1.1 j hj
    · rw [ar_sf, gk _ _ _ _ hj]; exact g1.2 j hj
    · rw [ar_sf, gi _ _ _ _ (by omega)]; exact g3 j hj
    · rw [ar_sf]
      by_cases e : j = k
      · subst e; rw [ga]
      · rw [gi _ _ _ _ (by omega)]; exact g4 j (by omega)
    · dsimp only
      unfold f9_putText_l2_B f9_putSign
      rw [if_neg (nI_ge hk (by omega)), li21, pk_mul, nI_add, ck_nI (by omega) (by decide), ix_nI (by omega), g1.2 19 (by decide), hm k hk, g2, ck_nI (by omega) (by decide), ix_nI (by omega), bn_e, fi_sa, g2, nI_s, bn_e, bd_s, nI_s, bn_e]
      rfl) (by
    rintro q1 - k
    dsimp only
    unfold f9_putText_l2_B
    rw [if_pos (nI_le (Nat.le_refl _) (by omega))]) N 0 q (by omega) (by omega) (by omega) ⟨frX.rf, h.1, h.2, fun j hj => by omega⟩
  refine ⟨q', hrun, ⟨by rw [g2, List.length_append], fun k hk => ?_⟩, g1⟩
  rw [List.length_append] at hk
  by_cases c : k < l.length
  · rw [mj_left c]; exact g3 k c
  · obtain ⟨j, rfl⟩ : ∃ j, k = l.length + j := ⟨k - l.length, by omega⟩
    rw [mj_right]
    exact g4 j (by omega)
/-- the cell i of the set s holds v -/
def cellM (d : DB) (s i v : Nat) (q : SS) : Prop := (v = INF ∧ ar q 18 i = -1) ∨ ∃ c l, isPl (dT d) s l ∧ c ≤ CB s ∧ v = c * 18446744073709551616 + keyF 0 l ∧ ar q 18 i = nI c ∧ ∀ k, k < l.length → ar q 19 (21 * i + k) = nI (mj l k)
def frO (i : Nat) (q q' : SS) : Prop := (∀ j, fi q' j = fi q j) ∧ (∀ k, k ≠ 18 → k ≠ 19 → ar q' k = ar q k) ∧ (∀ m, m ≠ i → ar q' 18 m = ar q 18 m) ∧ ∀ m, m < 21 * i ∨ 21 * i + 21 ≤ m → ar q' 19 m = ar q 19 m
theorem frO.rf {i : Nat} {q : SS} : frO i q q := ⟨fun _ => rfl, fun _ _ _ => rfl, fun _ _ => rfl, fun _ _ => rfl⟩
theorem m_copy {l : List Nat} {i : Nat} (hN : 1000 ≤ N) (h : tri q l) (hi : i < 576) (hl : l.length ≤ 21) : ∃ q', f9_offer_l96 N N (nI i) (nI 0) q = some q' ∧ (∀ j, fi q' j = fi q j) ∧ (∀ k, k ≠ 19 → ar q' k = ar q k) ∧ (∀ m, m < 21 * i ∨ 21 * i + 21 ≤ m → ar q' 19 m = ar q 19 m) ∧ ∀ k, k < l.length → ar q' 19 (21 * i + k) = nI (mj l k) := by
  obtain ⟨q', ⟨g1, g2, g3, g4⟩, hrun⟩ := loop_st (fun n (p : Int32 × Int32 × SS) => f9_offer_l96 N n p.1 p.2.1 p.2.2) (fun k p => f9_offer_l96_B N (fun x1 x2 x3 => k (x1, x2, x3)) p.1 p.2.1 p.2.2) (fun n p => rfl) (fun k q => (nI i, nI k, q)) (fun k q' => (∀ j, fi q' j = fi q j) ∧ (∀ k, k ≠ 19 → ar q' k = ar q k) ∧ (∀ m, m < 21 * i ∨ 21 * i + 21 ≤ m → ar q' 19 m = ar q 19 m) ∧ ∀ j, j < k → ar q' 19 (21 * i + j) = nI (mj l j)) 0 l.length (fun q' => some q') (by
    rintro k q1 - hk ⟨g1, g2, g3, g4⟩
    refine ⟨sa q1 19 (21 * i + k) (nI (mj l k)), ⟨fun j => g1 j, fun j hj => ?_, fun m hm => ?_, fun j hj => ?_⟩, fun kk => ?_⟩
    · rw [gk _ _ _ _ hj]; exact g2 j hj
    · rw [gi _ _ _ _ (by omega)]; exact g3 m hm
    · by_cases e : j = k
      · subst e; rw [ga]
      · rw [gi _ _ _ _ (by omega)]; exact g4 j (by omega)
    · dsimp only
      unfold f9_offer_l96_B
      rw [g1 13, h.1, if_neg (nI_ge hk (by omega)), ck_nI (by omega) (by decide), li21, pk_mul, nI_add, ck_nI (by omega) (by decide), ix_nI (by omega), ix_nI (by omega), g2 20 (by decide), h.2 k hk, bn_e, nI_s, bn_e]) (by
    rintro q1 ⟨g1, g2, g3, g4⟩ k
    dsimp only
    unfold f9_offer_l96_B
    rw [g1 13, h.1, if_pos (nI_le (Nat.le_refl _) (by omega))]) N 0 q (by omega) (by omega) (by omega) ⟨fun _ => rfl, fun _ _ => rfl, fun _ _ => rfl, fun j hj => by omega⟩
  exact ⟨q', hrun, g1, g2, g3, g4⟩
theorem b80_pos {x3 x4 x5 : Int32} (h : 0 ≤ x5) : f9_offer_b80 N x3 x4 x5 q = some q := by
  unfold f9_offer_b80
  rw [if_pos h]
theorem b80_neg {x3 x4 x5 : Int32} (h : ¬ 0 ≤ x5) : f9_offer_b80 N x3 x4 x5 q = f9_offer_b80 N x3 x4 (-1) q := by
  unfold f9_offer_b80
  rw [if_neg h, if_neg (show ¬ (0 : Int32) ≤ -1 by decide)]
theorem l37_ne {x3 x4 x5 x6 : Int32} {n : Nat} (h : ¬ x5 = 0) : f9_offer_l37 N (n + 1) x3 x4 x5 x6 q = f9_offer_b80 N x3 x4 x5 q := by
  show f9_offer_l37_B N (f9_offer_l37 N n) x3 x4 x5 x6 q = _
  unfold f9_offer_l37_B
  rw [if_neg h, ite_self]
theorem sub_sign {a b : Nat} (ha : a < 2 ^ 30) (hb : b < 2 ^ 30) : (0 ≤ nI a - nI b ↔ b ≤ a) ∧ (nI a - nI b = 0 ↔ a = b) := by
  have e := pk_sub_toInt ha hb
  constructor
  · rw [Int32.le_iff_toInt_le, e]
    show (0 : Int) ≤ _ ↔ _
    omega
  · rw [← Int32.toInt_inj, e]
    show _ = (0 : Int) ↔ _
    omega
theorem sgn_le {c : Nat} (h : sgn c) : c ≤ 115 := by unfold sgn at h; omega
theorem pl_sg {T s : Nat} {l : List Nat} (hT : T ≤ 6) (hs : s < 2 ^ T) (h : isPl T s l) {k : Nat} (hk : k < l.length) : mj l k ≤ 115 := sgn_le (runL_sg hT l _ _ (h.run hT hs) _ (mj_mem hk))
theorem m_cmp (hw : WF d) {s i c : Nat} {l m : List Nat} (hs : s < 2 ^ dT d) (hl : isPl (dT d) s l) (hm : isPl (dT d) s m) (hi : i < 576) (h21 : l.length ≤ 21) (ht : tri q l) (hc : ∀ k, k < m.length → ar q 19 (21 * i + k) = nI (mj m k)) : ∀ n k fuel, k + n = l.length → (∀ j, j < k → mj l j = mj m j) → n + 1 < fuel → f9_offer_l37 N fuel (nI c) (nI i) 0 (nI k) q = if keyF 0 l < keyF 0 m then f9_offer_b80 N (nI c) (nI i) (-1) q else some q := by
  have hT := hw.1
  have hlm : l.length = m.length := hl.1.trans hm.1.symm
  intro n
  induction n with
  | zero =>
    intro k fuel hk he hf
    obtain ⟨fuel, rfl⟩ : ∃ f, fuel = f + 1 := ⟨fuel - 1, by omega⟩
    have : l = m := list_mj l m hlm (fun j hj => he j (by omega))
    subst this
    rw [if_neg (Nat.lt_irrefl _)]
    show f9_offer_l37_B N (f9_offer_l37 N fuel) _ _ _ _ _ = _
    unfold f9_offer_l37_B
    rw [ht.1, if_pos (nI_le (by omega) (by omega)), b80_pos (by decide)]
  | succ n ih =>
    intro k fuel hk he hf
    obtain ⟨fuel, rfl⟩ : ∃ f, fuel = f + 1 := ⟨fuel - 1, by omega⟩
    have b1 := pl_sg hT hs hl (show k < l.length by omega)
    have b2 := pl_sg hT hs hm (show k < m.length by omega)
    obtain ⟨g1, g2⟩ := sub_sign (a := mj l k) (b := mj m k) (by omega) (by omega)
    have un : f9_offer_l37 N (fuel + 1) (nI c) (nI i) 0 (nI k) q = f9_offer_l37 N fuel (nI c) (nI i) (nI (mj l k) - nI (mj m k)) (nI (k + 1)) q := by
      show f9_offer_l37_B N (f9_offer_l37 N fuel) _ _ _ _ _ = _
      unfold f9_offer_l37_B
      rw [ht.1, if_neg (nI_ge (by omega) (by omega)), if_pos rfl, ck_nI (by omega) (by decide), li21, pk_mul, nI_add, ck_nI (by omega) (by decide), ix_nI (by omega), ix_nI (by omega), ht.2 k (by omega), hc k (by omega), bn_e, nI_s, bn_e]
    rw [un]
    by_cases e : mj l k = mj m k
    · rw [g2.mpr e]
      exact ih (k + 1) fuel (by omega) (fun j hj => by
        by_cases z : j = k
        · subst z; exact e
        · exact he j (by omega)) (by omega)
    · obtain ⟨fuel, rfl⟩ : ∃ f, fuel = f + 1 := ⟨fuel - 1, by omega⟩
      rw [l37_ne (fun z => e (g2.mp z))]
      rcases Nat.lt_or_ge (mj l k) (mj m k) with z | z
      · rw [if_pos (hl.cmp hT hs hm (by omega) he z), b80_neg (fun y => by have := g1.mp y; omega)]
      · have := hm.cmp hT hs hl (show k < m.length by omega) (fun j hj => (he j hj).symm) (by omega)
        rw [if_neg (by omega), b80_pos (g1.mpr z)]
theorem m_offer (hw : WF d) (hN : 1000 ≤ N) {s o c v : Nat} {l : List Nat} (hs1 : 1 ≤ s) (hs : s < 2 ^ dT d) (ho : o < 9) (hl : isPl (dT d) s l) (hc : c ≤ CB s) (ht : tri q l) (hv : cellM d s (9 * s + o) v q) : ∃ q', f9_offer N (nI s) (nI o) (nI c) q = some q' ∧ cellM d s (9 * s + o) (min v (c * 18446744073709551616 + keyF 0 l)) q' ∧ frO (9 * s + o) q q' := by
  have hT := hw.1
  have hs6 := s_lt hw hs
  have p6 := (pc6 hs6).1
  have p1 := pc_pos hs1 hs6
  have hcb := CB_lt p6
  have hlen := hl.1
  have hkey := hl.key_lt hT hs
  have h16 : 16 ^ (3 * pc s - 2) ≤ 18446744073709551616 := Nat.le_trans (Nat.pow_le_pow_right (by decide) (show 3 * pc s - 2 ≤ 16 by omega)) (by decide)
  have hxI : c * 18446744073709551616 + keyF 0 l < INF := by unfold INF; omega
  /- the cell is written -/
  have put : ∃ q', f9_offer_b80 N (nI c) (nI (9 * s + o)) (-1) q = some q' ∧ cellM d s (9 * s + o) (c * 18446744073709551616 + keyF 0 l) q' ∧ frO (9 * s + o) q q' := by
    obtain ⟨q2, r2, f1, f2, f3, f4⟩ := m_copy (N := N) (q := sa q 18 (9 * s + o) (nI c)) (i := 9 * s + o) hN (l := l) ⟨ht.1, fun k hk => by rw [gk _ _ _ _ (by decide)]; exact ht.2 k hk⟩ (by omega) (by omega)
    refine ⟨q2, ?_, Or.inr ⟨c, l, hl, hc, rfl, ?_, f4⟩, fun j => f1 j, fun k k1 k2 => ?_, fun m hm => ?_, fun m hm => ?_⟩
    · unfold f9_offer_b80
      rw [if_neg (show ¬ (0 : Int32) ≤ -1 by decide), ck_nI (by omega) (by decide), ix_nI (by omega), bn_e]
      exact r2
    · rw [f2 18 (by decide), ga]
    · rw [f2 k k2, gk _ _ _ _ k1]
    · rw [f2 18 (by decide), gi _ _ _ _ hm]
    · rw [f3 m hm, gk _ _ _ _ (by decide)]
  obtain ⟨qp, rp, cp, fp⟩ := put
  obtain ⟨N', hN'⟩ : ∃ m, N = m + 1 := ⟨N - 1, by omega⟩
  have fuel : ∀ x5, ¬ x5 = 0 → f9_offer_l37 N N (nI c) (nI (9 * s + o)) x5 0 q = f9_offer_b80 N (nI c) (nI (9 * s + o)) x5 q := by
    intro x5 h
    conv => lhs; arg 2; rw [hN']
    exact l37_ne h
  unfold f9_offer f9_offer_b32
  rw [li9, pk_mul, nI_add, bn_e, ck_nI (by omega) (by decide), ck_nI (by omega) (by decide), ix_nI (by omega)]
  rcases hv with ⟨rfl, h1⟩ | ⟨c', m, hm, hc', rfl, h1, h2⟩
  · rw [h1, if_pos rfl, fuel _ (by decide), rp, Nat.min_eq_right (by omega)]
    exact ⟨qp, rfl, cp, fp⟩
  · have hkm := hm.key_lt hT hs
    obtain ⟨g1, g2⟩ := sub_sign (a := c) (b := c') (by omega) (by omega)
    have keep : cellM d s (9 * s + o) (c' * 18446744073709551616 + keyF 0 m) q := Or.inr ⟨c', m, hm, hc', rfl, h1, h2⟩
    rw [h1, if_neg (nI_m1 (by omega))]
    by_cases e : c = c'
    · subst e
      rw [g2.mpr rfl, show (0 : Int32) = nI 0 from rfl]
      have := m_cmp (N := N) (c := c) hw hs hl hm (i := 9 * s + o) (by omega) (by omega) ht h2 l.length 0 N (by omega) (fun j hj => by omega) (by omega)
      rw [show (nI 0 : Int32) = 0 from rfl] at this ⊢
      rw [this]
      by_cases z : keyF 0 l < keyF 0 m
      · rw [if_pos z, rp, Nat.min_eq_right (by omega)]
        exact ⟨qp, rfl, cp, fp⟩
      · rw [if_neg z, Nat.min_eq_left (by omega)]
        exact ⟨q, rfl, keep, frO.rf⟩
    · rw [fuel _ (fun z => e (g2.mp z))]
      rcases Nat.lt_or_ge c c' with z | z
      · rw [b80_neg (fun y => by have := g1.mp y; omega), rp, Nat.min_eq_right (by omega)]
        exact ⟨qp, rfl, cp, fp⟩
      · rw [b80_pos (g1.mpr z), Nat.min_eq_left (by omega)]
        exact ⟨q, rfl, keep, frO.rf⟩
/-- only the row of s changes -/
def frN (s : Nat) (q q' : SS) : Prop := (∀ j, j ≠ 13 → fi q' j = fi q j) ∧ (∀ k, k < 18 ∨ 21 ≤ k → ar q' k = ar q k) ∧ (∀ m, m < 9 * s ∨ 9 * s + 9 ≤ m → ar q' 18 m = ar q 18 m) ∧ ∀ m, m < 189 * s ∨ 189 * s + 189 ≤ m → ar q' 19 m = ar q 19 m
theorem frN.rf {s : Nat} {q : SS} : frN s q q := ⟨fun _ _ => rfl, fun _ _ => rfl, fun _ _ => rfl, fun _ _ => rfl⟩
theorem frN.tr {s : Nat} {a b c : SS} (h : frN s a b) (g : frN s b c) : frN s a c := ⟨fun k hk => (g.1 k hk).trans (h.1 k hk), fun k hk => (g.2.1 k hk).trans (h.2.1 k hk), fun m hm => (g.2.2.1 m hm).trans (h.2.2.1 m hm), fun m hm => (g.2.2.2 m hm).trans (h.2.2.2 m hm)⟩
theorem frN.same {s : Nat} {a b : SS} (h : frN s a b) : sameM a b := ⟨fun k hk => h.1 k (by omega), fun k hk => h.2.1 k (by omega)⟩
theorem frX.toN {s : Nat} {a b : SS} (h : frX a b) : frN s a b := ⟨h.1, fun k hk => h.2 k (by omega), fun m _ => by rw [h.2 18 (by decide)], fun m _ => by rw [h.2 19 (by decide)]⟩
theorem frO.toN {s o : Nat} {a b : SS} (ho : o < 9) (h : frO (9 * s + o) a b) : frN s a b := ⟨fun j _ => h.1 j, fun k hk => h.2.1 k (by omega) (by omega), fun m hm => h.2.2.1 m (by omega), fun m hm => h.2.2.2 m (by omega)⟩
def RowM (d : DB) (s : Nat) (V : Nat → Nat) (q : SS) : Prop := ∀ o, o < 9 → cellM d s (9 * s + o) (V o) q
theorem cellM_same {s i v : Nat} {q q' : SS} (p6 : pc s ≤ 6) (h : cellM d s i v q) (e1 : ar q' 18 i = ar q 18 i) (e2 : ∀ k, k < 21 → ar q' 19 (21 * i + k) = ar q 19 (21 * i + k)) : cellM d s i v q' := by
  rcases h with ⟨h1, h2⟩ | ⟨c, l, h1, h2, h3, h4, h5⟩
  · exact Or.inl ⟨h1, e1.trans h2⟩
  · refine Or.inr ⟨c, l, h1, h2, h3, e1.trans h4, fun k hk => ?_⟩
    have := h1.1
    rw [e2 k (by omega)]
    exact h5 k hk
theorem frN.row {s t : Nat} {a b : SS} {V : Nat → Nat} (p6 : pc t ≤ 6) (h : frN s a b) (hst : t ≠ s) (r : RowM d t V a) : RowM d t V b := fun o ho => cellM_same p6 (r o ho) (h.2.2.1 _ (by omega)) (fun k hk => h.2.2.2 _ (by omega))
/-- the row of s holds the least of what P offers -/
def RMnM (d : DB) (s : Nat) (P : Nat → Nat → Prop) (q : SS) : Prop := ∃ V, RowM d s V q ∧ ∀ t, t < 9 → isMin (P t) (V t)
theorem RMnM_ext {s : Nat} {P P' : Nat → Nat → Prop} (h : RMnM d s P q) (e : ∀ t x, t < 9 → (P t x ↔ P' t x)) : RMnM d s P' q := by
  obtain ⟨V, h2, h3⟩ := h
  exact ⟨V, h2, fun t ht => isMin_ext (h3 t ht) (fun x => e t x ht)⟩
theorem frX.row {s : Nat} {P : Nat → Nat → Prop} {a b : SS} (p6 : pc s ≤ 6) (h : frX a b) (r : RMnM d s P a) : RMnM d s P b := by
  obtain ⟨V, h2, h3⟩ := r
  exact ⟨V, fun o ho => cellM_same p6 (h2 o ho) (by rw [h.2 18 (by decide)]) (fun k _ => by rw [h.2 19 (by decide)]), h3⟩
theorem m_give (hw : WF d) (hN : 1000 ≤ N) {s o c : Nat} {l : List Nat} {P : Nat → Nat → Prop} (hs1 : 1 ≤ s) (hs : s < 2 ^ dT d) (ho : o < 9) (hl : isPl (dT d) s l) (hc : c ≤ CB s) (ht : tri q l) (h : RMnM d s P q) : ∃ q', f9_offer N (nI s) (nI o) (nI c) q = some q' ∧ frN s q q' ∧ RMnM d s (fun t y => P t y ∨ (t = o ∧ y = c * 18446744073709551616 + keyF 0 l)) q' := by
  obtain ⟨V, h2, h3⟩ := h
  have hs6 := s_lt hw hs
  have p6 := (pc6 hs6).1
  have hcb := CB_lt p6
  have hkey := hl.key_lt hw.1 hs
  have h16 : 16 ^ (3 * pc s - 2) ≤ 18446744073709551616 := Nat.le_trans (Nat.pow_le_pow_right (by decide) (show 3 * pc s - 2 ≤ 16 by omega)) (by decide)
  have hxI : c * 18446744073709551616 + keyF 0 l < INF := by unfold INF; omega
  obtain ⟨q', r1, r2, r3⟩ := m_offer hw hN hs1 hs ho hl hc ht (h2 o ho)
  refine ⟨q', r1, r3.toN ho, fun t => if t = o then min (V t) (c * 18446744073709551616 + keyF 0 l) else V t, fun t ht2 => ?_, fun t ht2 => ?_⟩
  · by_cases e : t = o
    · subst e
      show cellM d s (9 * s + t) (if t = t then min (V t) (c * 18446744073709551616 + keyF 0 l) else V t) q'
      rw [if_pos rfl]
      exact r2
    · show cellM d s (9 * s + t) (if t = o then min (V t) (c * 18446744073709551616 + keyF 0 l) else V t) q'
      rw [if_neg e]
      exact cellM_same p6 (h2 t ht2) (r3.2.2.1 _ (by omega)) (fun k hk => r3.2.2.2 _ (by omega))
  · show isMin _ (if t = o then min (V t) (c * 18446744073709551616 + keyF 0 l) else V t)
    by_cases e : t = o
    · rw [if_pos e]
      exact isMin_add (h3 t ht2) hxI (fun y => ⟨fun z => z.imp_right (fun w => w.2), fun z => z.imp_right (fun w => ⟨e, w⟩)⟩)
    · rw [if_neg e]
      exact isMin_ext (h3 t ht2) (fun y => ⟨Or.inl, fun z => z.resolve_right (fun w => e w.1)⟩)
theorem m_signsOf {s : Nat} (hN : 1000 ≤ N) (hs : s < 64) (p1 : 1 ≤ pc s) : f9_signsOf N (nI s) = some (nI (4 * pc s - 3)) := by
  unfold f9_signsOf
  rw [m_bitsOf hN (by omega), bd_s, li4, pk_mul, li3, pk_sub (by omega)]
end MPut
