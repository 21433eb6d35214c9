/-! which order is the best one -/
section MOrder
variable {N : Nat} {d : DB} {q : SS}
/-- what a row's order o costs, if e (a letter and one; 0: none) is wished -/
def ext (d : DB) (b s e o : Nat) : Nat := if e = 0 ∨ o = e then 0 else srb d b s
def wv (d : DB) (b s e : Nat) (V : Nat → Nat) (o : Nat) : Nat := V o + ext d b s e o * 18446744073709551616
def fr14 (q q' : SS) : Prop := (∀ j, j ≠ 14 → fi q' j = fi q j) ∧ ∀ k, ar q' k = ar q k
theorem fr14.same {a b : SS} (h : fr14 a b) : sameM a b := ⟨fun k hk => h.1 k (by omega), fun k _ => h.2 k⟩
theorem b148_pos {bk : Int32 → Int32 → Int32 → Int32 → SS → Option (Int32 × SS)} {x1 x2 x3 x4 x6 x7 : Int32} (h : 0 ≤ x7) : f9_bestOrder_b148 N bk x1 x2 x3 x4 x6 x7 q = bk x1 x2 x3 (x4 + 1) (sf q 14 (fi q 14)) := by
  unfold f9_bestOrder_b148 f9_bestOrder_b159 f9_bestOrder_b175 f9_bestOrder_b178
  rw [if_pos h, if_pos h, bn_e, bn_e]
theorem b148_neg {bk : Int32 → Int32 → Int32 → Int32 → SS → Option (Int32 × SS)} {x1 x2 x3 x4 x6 x7 : Int32} (h : ¬ 0 ≤ x7) : f9_bestOrder_b148 N bk x1 x2 x3 x4 x6 x7 q = bk x1 x2 x4 (x4 + 1) (sf q 14 x6) := by
  unfold f9_bestOrder_b148 f9_bestOrder_b159 f9_bestOrder_b175 f9_bestOrder_b178
  rw [if_neg h, if_neg h, bn_e, bn_e]
theorem l95_ne {bk : Int32 → Int32 → Int32 → Int32 → SS → Option (Int32 × SS)} {x2 x3 x4 x5 x6 x7 x8 : Int32} {n s : Nat} (hN : 1000 ≤ N) (hs : s < 64) (p1 : 1 ≤ pc s) (h : ¬ x7 = 0) : f9_bestOrder_l95 N bk (n + 1) (nI s) x2 x3 x4 x5 x6 x7 x8 q = f9_bestOrder_b148 N bk (nI s) x2 x3 x4 x6 x7 q := by
  show f9_bestOrder_l95_B N bk (f9_bestOrder_l95 N bk n) (nI s) x2 x3 x4 x5 x6 x7 x8 q = _
  unfold f9_bestOrder_l95_B
  rw [m_signsOf hN hs p1, bd_s, if_neg h, ite_self]
theorem m_cmp2 (hw : WF d) (hN : 1000 ≤ N) {s i o' : Nat} {l m : List Nat} {bk : Int32 → Int32 → Int32 → Int32 → SS → Option (Int32 × SS)} {x2 x4 x6 : Int32} (hs1 : 1 ≤ s) (hs : s < 2 ^ dT d) (hl : isPl (dT d) s l) (hm : isPl (dT d) s m) (hi : i < 576) (ho : o' < 9) (h1 : ∀ k, k < l.length → ar q 19 (21 * i + k) = nI (mj l k)) (h2 : ∀ k, k < m.length → ar q 19 (21 * (9 * s + o') + k) = nI (mj m k)) : ∀ n k fuel, k + n = l.length → (∀ j, j < k → mj l j = mj m j) → n + 1 < fuel → f9_bestOrder_l95 N bk fuel (nI s) x2 (nI o') x4 (nI i) x6 0 (nI k) q = if keyF 0 l < keyF 0 m then bk (nI s) x2 x4 (x4 + 1) (sf q 14 x6) else bk (nI s) x2 (nI o') (x4 + 1) (sf q 14 (fi q 14)) := by
  have hT := hw.1
  have hs6 := s_lt hw hs
  have p6 := (pc6 hs6).1
  have p1 := pc_pos hs1 hs6
  have hlm : l.length = m.length := hl.1.trans hm.1.symm
  have hlen := hl.1
  intro n
  induction n with
  | zero =>
    intro k fuel hk he hf
    obtain ⟨fuel, rfl⟩ : ∃ f, fuel = f + 1 := ⟨fuel - 1, by omega⟩
    have : l = m := list_mj l m hlm (fun j hj => he j (by omega))
    subst this
    rw [if_neg (Nat.lt_irrefl _)]
    show f9_bestOrder_l95_B N bk (f9_bestOrder_l95 N bk fuel) _ _ _ _ _ _ _ _ _ = _
    unfold f9_bestOrder_l95_B
    rw [m_signsOf hN hs6 p1, bd_s, if_pos (nI_le (by omega) (by omega)), b148_pos (by decide)]
  | succ n ih =>
    intro k fuel hk he hf
    obtain ⟨fuel, rfl⟩ : ∃ f, fuel = f + 1 := ⟨fuel - 1, by omega⟩
    have b1 := pl_sg hT hs hl (show k < l.length by omega)
    have b2 := pl_sg hT hs hm (show k < m.length by omega)
    obtain ⟨g1, g2⟩ := sub_sign (a := mj l k) (b := mj m k) (by omega) (by omega)
    have un : f9_bestOrder_l95 N bk (fuel + 1) (nI s) x2 (nI o') x4 (nI i) x6 0 (nI k) q = f9_bestOrder_l95 N bk fuel (nI s) x2 (nI o') x4 (nI i) x6 (nI (mj l k) - nI (mj m k)) (nI (k + 1)) q := by
      show f9_bestOrder_l95_B N bk (f9_bestOrder_l95 N bk fuel) _ _ _ _ _ _ _ _ _ = _
      unfold f9_bestOrder_l95_B
      rw [m_signsOf hN hs6 p1, bd_s, if_neg (nI_ge (by omega) (by omega)), if_pos rfl, li21, li9, pk_mul, pk_mul, nI_add, nI_add, pk_mul, nI_add, ck_nI (by omega) (by decide), ck_nI (by omega) (by decide), ix_nI (by omega), ix_nI (by omega), h1 k (by omega), h2 k (by omega), bn_e, nI_s, bn_e]
    rw [un]
    by_cases e : mj l k = mj m k
    · rw [g2.mpr e]
      exact ih (k + 1) fuel (by omega) (fun j hj => by
        by_cases z : j = k
        · subst z; exact e
        · exact he j (by omega)) (by omega)
    · obtain ⟨fuel, rfl⟩ : ∃ f, fuel = f + 1 := ⟨fuel - 1, by omega⟩
      rw [l95_ne hN hs6 p1 (fun z => e (g2.mp z))]
      rcases Nat.lt_or_ge (mj l k) (mj m k) with z | z
      · rw [if_pos (hl.cmp hT hs hm (by omega) he z), b148_neg (fun y => by have := g1.mp y; omega)]
      · have := hm.cmp hT hs hl (show k < m.length by omega) (fun j hj => (he j hj).symm) (by omega)
        rw [if_neg (by omega), b148_pos (g1.mpr z)]
theorem m_bestOrder (hw : WF d) (hM : RMk d q) (hN : 1000 ≤ N) {b s e : Nat} {V : Nat → Nat} (hs1 : 1 ≤ s) (hs : s < 2 ^ dT d) (he : e ≤ 8) (hP : LPg d b q) (hR : RowM d s V q) (hV : ∃ o, o < 9 ∧ V o ≠ INF) : ∃ o q', f9_bestOrder N (nI s) (nI e - 1) q = some (nI o, q') ∧ fr14 q q' ∧ o < 9 ∧ V o ≠ INF ∧ fi q' 14 = nI (wv d b s e V o / 18446744073709551616) ∧ ∀ o2, o2 < 9 → V o2 ≠ INF → wv d b s e V o ≤ wv d b s e V o2 := by
  have hT := hw.1
  have hs6 := s_lt hw hs
  have p6 := (pc6 hs6).1
  have p1 := pc_pos hs1 hs6
  have hcb := CB_lt p6
  have hsr := srb_le (b := b) hw hs
  have hpg := pgs_20 (b := b) hw hs
  have h16 : 16 ^ (3 * pc s - 2) ≤ 18446744073709551616 := Nat.le_trans (Nat.pow_le_pow_right (by decide) (show 3 * pc s - 2 ≤ 16 by omega)) (by decide)
  have hext : ∀ o, ext d b s e o ≤ 11010048 := fun o => by unfold ext; split <;> omega
  obtain ⟨n0, s', hI, hrun⟩ := loop_inv (fun n (p : Int32 × Int32 × Int32 × Int32 × SS) => f9_bestOrder_l10 N n p.1 p.2.1 p.2.2.1 p.2.2.2.1 p.2.2.2.2) (fun k p => f9_bestOrder_l10_B N (fun x1 x2 x3 x4 x5 => k (x1, x2, x3, x4, x5)) p.1 p.2.1 p.2.2.1 p.2.2.2.1 p.2.2.2.2) (fun n p => rfl) (fun m p => ∃ x3 q', p = (nI s, nI e - 1, x3, nI m, q') ∧ fr14 q q' ∧ ((x3 = -1 ∧ ∀ o, o < m → V o = INF) ∨ ∃ o, x3 = nI o ∧ o < m ∧ V o ≠ INF ∧ fi q' 14 = nI (wv d b s e V o / 18446744073709551616) ∧ ∀ o2, o2 < m → V o2 ≠ INF → wv d b s e V o ≤ wv d b s e V o2)) 9 (by
    rintro o p ho ⟨x3, q1, rfl, g1, g2⟩
    have hM1 := hM.same g1.same
    have hR1 : RowM d s V q1 := fun o ho => cellM_same p6 (hR o ho) (by rw [g1.2]) (fun k _ => by rw [g1.2])
    have e13 : ar q1 13 s = nI (pgs d s b) := by rw [g1.2]; exact hP s hs1 hs
    dsimp only
    rcases hR1 o ho with ⟨z, ez⟩ | ⟨c, l, il, cl, vl, el, xl⟩
    · refine ⟨(nI s, nI e - 1, x3, nI (o + 1), q1), ⟨x3, q1, rfl, g1, ?_⟩, fun k => ?_⟩
      · rcases g2 with ⟨y1, y2⟩ | ⟨o1, y1, y2, y3, y4, y5⟩
        · refine Or.inl ⟨y1, fun j hj => ?_⟩
          by_cases w : j = o
          · subst w; exact z
          · exact y2 j (by omega)
        · refine Or.inr ⟨o1, y1, by omega, y3, y4, fun j hj hj2 => ?_⟩
          by_cases w : j = o
          · subst w; exact absurd z hj2
          · exact y5 j (by omega) hj2
      · unfold f9_bestOrder_l10_B f9_bestOrder_b178
        rw [if_neg (show ¬ (9 : Int32) ≤ nI o from nI_ge (b := 9) ho (by decide)), li9, pk_mul, nI_add, bn_e, ck_nI (by omega) (by decide), ix_nI (by omega), ez, if_pos rfl, nI_s, bn_e]
    · have kl := il.key_lt hT hs
      have hVI : V o ≠ INF := by rw [vl]; unfold INF; omega
      have hx := hext o
      have hwd : wv d b s e V o / 18446744073709551616 = c + ext d b s e o ∧ wv d b s e V o % 18446744073709551616 = keyF 0 l := by
        unfold wv
        rw [vl]
        omega
      have lenl := il.1
      /- the body comes to the comparison -/
      have un : ∀ k, f9_bestOrder_l10_B N k (nI s) (nI e - 1) x3 (nI o) q1 = if x3 = -1 then f9_bestOrder_l95 N k N (nI s) (nI e - 1) x3 (nI o) (nI (9 * s + o)) (nI (c + ext d b s e o)) (-1) 0 q1 else f9_bestOrder_l95 N k N (nI s) (nI e - 1) x3 (nI o) (nI (9 * s + o)) (nI (c + ext d b s e o)) (nI (c + ext d b s e o) - fi q1 14) 0 q1 := by
        intro k
        unfold f9_bestOrder_l10_B f9_bestOrder_b57 f9_bestOrder_b71 f9_bestOrder_b90
        rw [if_neg (show ¬ (9 : Int32) ≤ nI o from nI_ge (b := 9) ho (by decide)), li9, pk_mul, nI_add, bn_e, ck_nI (by omega) (by decide), ck_nI (by omega) (by decide), ix_nI (by omega), el, if_neg (nI_m1 (by omega)), pI_s, ck_nI hs6 (by decide), ix_nI (by omega), e13, m_sorting hw hM1 hN (by omega), bd_s, bn_e, bn_e]
        unfold ext
        by_cases c0 : e = 0
        · rw [if_pos (show nI e - 1 = -1 by rw [c0]; decide), if_pos (Or.inl c0), Int32.add_zero]
          rfl
        · rw [if_neg (show ¬ nI e - 1 = -1 from fun z => by
            obtain ⟨e', he'⟩ : ∃ e', e = e' + 1 := ⟨e - 1, by omega⟩
            rw [he', nI_p] at z
            exact nI_m1 (by omega) z)]
          by_cases c1 : o = e
          · rw [if_pos (show nI o = nI e by rw [c1]), if_pos (Or.inr c1), Int32.add_zero]
            rfl
          · rw [if_neg (show ¬ nI o = nI e from fun z => c1 ((nI_eq (by omega) (by omega)).mp z)), if_neg (show ¬ (e = 0 ∨ o = e) from fun z => z.elim c0 c1), nI_add]
            rfl
      obtain ⟨N', hN'⟩ : ∃ m, N = m + 1 := ⟨N - 1, by omega⟩
      have fuel : ∀ (k : Int32 → Int32 → Int32 → Int32 → SS → Option (Int32 × SS)) (x7 x6 : Int32), ¬ x7 = 0 → f9_bestOrder_l95 N k N (nI s) (nI e - 1) x3 (nI o) (nI (9 * s + o)) x6 x7 0 q1 = f9_bestOrder_b148 N k (nI s) (nI e - 1) x3 (nI o) x6 x7 q1 := by
        intro k x7 x6 h
        conv => lhs; arg 3; rw [hN']
        exact l95_ne hN hs6 p1 h
      /- o becomes the best one -/
      have take : (∀ o2, o2 < o → V o2 ≠ INF → wv d b s e V o ≤ wv d b s e V o2) → ∃ x3' q', (nI s, nI e - 1, nI o, nI (o + 1), sf q1 14 (nI (c + ext d b s e o))) = (nI s, nI e - 1, x3', nI (o + 1), q') ∧ fr14 q q' ∧ ((x3' = -1 ∧ ∀ j, j < o + 1 → V j = INF) ∨ ∃ o1, x3' = nI o1 ∧ o1 < o + 1 ∧ V o1 ≠ INF ∧ fi q' 14 = nI (wv d b s e V o1 / 18446744073709551616) ∧ ∀ o2, o2 < o + 1 → V o2 ≠ INF → wv d b s e V o1 ≤ wv d b s e V o2) := by
        intro hle
        refine ⟨nI o, _, rfl, ⟨fun j hj => by rw [gg _ _ _ hj]; exact g1.1 j hj, fun k => g1.2 k⟩, Or.inr ⟨o, rfl, by omega, hVI, by rw [gf, hwd.1], fun j hj hj2 => ?_⟩⟩
        by_cases w : j = o
        · subst w; exact Nat.le_refl _
        · exact hle j (by omega) hj2
      rcases g2 with ⟨y1, y2⟩ | ⟨o1, y1, y2, y3, y4, y5⟩
      · refine ⟨_, take (fun o2 h1 h2 => absurd (y2 o2 h1) h2), fun k => ?_⟩
        show f9_bestOrder_l10_B N (fun x1 x2 x3 x4 x5 => k (x1, x2, x3, x4, x5)) (nI s) (nI e - 1) x3 (nI o) q1 = _
        rw [un, if_pos y1, fuel _ _ _ (by decide), b148_neg (by decide), nI_s]
      · rcases hR1 o1 (by omega) with ⟨z, -⟩ | ⟨c', m, im, cm, vm, em, xm⟩
        · exact absurd z y3
        have km := im.key_lt hT hs
        have hx1 := hext o1
        have hwd1 : wv d b s e V o1 / 18446744073709551616 = c' + ext d b s e o1 ∧ wv d b s e V o1 % 18446744073709551616 = keyF 0 m := by
          unfold wv
          rw [vm]
          omega
        obtain ⟨s1, s2⟩ := sub_sign (a := c + ext d b s e o) (b := c' + ext d b s e o1) (by omega) (by omega)
        have x3m : ¬ x3 = -1 := by rw [y1]; exact nI_m1 (by omega)
        /- the old one stays -/
        have keep : wv d b s e V o1 ≤ wv d b s e V o → ∃ x3' q', (nI s, nI e - 1, x3, nI (o + 1), sf q1 14 (fi q1 14)) = (nI s, nI e - 1, x3', nI (o + 1), q') ∧ fr14 q q' ∧ ((x3' = -1 ∧ ∀ j, j < o + 1 → V j = INF) ∨ ∃ o1, x3' = nI o1 ∧ o1 < o + 1 ∧ V o1 ≠ INF ∧ fi q' 14 = nI (wv d b s e V o1 / 18446744073709551616) ∧ ∀ o2, o2 < o + 1 → V o2 ≠ INF → wv d b s e V o1 ≤ wv d b s e V o2) := by
          intro hle
          refine ⟨x3, _, rfl, ⟨fun j hj => by rw [gg _ _ _ hj]; exact g1.1 j hj, fun k => g1.2 k⟩, Or.inr ⟨o1, y1, by omega, y3, by rw [gf]; exact y4, fun j hj hj2 => ?_⟩⟩
          by_cases w : j = o
          · subst w; exact hle
          · exact y5 j (by omega) hj2
        have tk : wv d b s e V o ≤ wv d b s e V o1 → ∀ o2, o2 < o → V o2 ≠ INF → wv d b s e V o ≤ wv d b s e V o2 := fun hle o2 h1 h2 => Nat.le_trans hle (y5 o2 h1 h2)
        by_cases ce : c + ext d b s e o = c' + ext d b s e o1
        · have hcm := fun k => m_cmp2 (N := N) (bk := k) (x2 := nI e - 1) (x4 := nI o) (x6 := nI (c + ext d b s e o)) hw hN hs1 hs il im (show 9 * s + o < 576 by omega) (show o1 < 9 by omega) xl xm l.length 0 N (by omega) (fun j hj => by omega) (by omega)
          by_cases z : keyF 0 l < keyF 0 m
          · refine ⟨_, take (tk (by omega)), fun k => ?_⟩
            show f9_bestOrder_l10_B N (fun x1 x2 x3 x4 x5 => k (x1, x2, x3, x4, x5)) (nI s) (nI e - 1) x3 (nI o) q1 = _
            have := hcm (fun x1 x2 x3 x4 x5 => k (x1, x2, x3, x4, x5))
            rw [if_pos z, nI_s] at this
            rw [un, if_neg x3m, y4, hwd1.1, s2.mpr ce, y1]
            exact this
          · refine ⟨_, keep (by omega), fun k => ?_⟩
            show f9_bestOrder_l10_B N (fun x1 x2 x3 x4 x5 => k (x1, x2, x3, x4, x5)) (nI s) (nI e - 1) x3 (nI o) q1 = _
            have := hcm (fun x1 x2 x3 x4 x5 => k (x1, x2, x3, x4, x5))
            rw [if_neg z, nI_s] at this
            rw [un, if_neg x3m, show nI (c + ext d b s e o) - fi q1 14 = 0 from by rw [y4, hwd1.1]; exact s2.mpr ce, y1]
            exact this
        · rcases Nat.lt_or_ge (c + ext d b s e o) (c' + ext d b s e o1) with z | z
          · refine ⟨_, take (tk (by omega)), fun k => ?_⟩
            show f9_bestOrder_l10_B N (fun x1 x2 x3 x4 x5 => k (x1, x2, x3, x4, x5)) (nI s) (nI e - 1) x3 (nI o) q1 = _
            rw [un, if_neg x3m, y4, hwd1.1, fuel _ _ _ (fun w => ce (s2.mp w)), b148_neg (fun y => by have := s1.mp y; omega), nI_s]
          · refine ⟨_, keep (by omega), fun k => ?_⟩
            show f9_bestOrder_l10_B N (fun x1 x2 x3 x4 x5 => k (x1, x2, x3, x4, x5)) (nI s) (nI e - 1) x3 (nI o) q1 = _
            rw [un, if_neg x3m, show nI (c + ext d b s e o) - fi q1 14 = nI (c + ext d b s e o) - nI (c' + ext d b s e o1) from by rw [y4, hwd1.1], fuel _ _ _ (fun w => ce (s2.mp w)), b148_pos (s1.mpr z), nI_s]) N 0 (nI s, nI e - 1, -1, nI 0, sf q 14 0) (by omega) (by omega) ⟨-1, _, rfl, ⟨fun j hj => gg _ _ _ hj, fun _ => rfl⟩, Or.inl ⟨rfl, fun o ho => by omega⟩⟩
  obtain ⟨x3, q', rfl, g1, g2⟩ := hI
  have hfin : f9_bestOrder N (nI s) (nI e - 1) q = some (x3, q') := by
    unfold f9_bestOrder
    rw [bn_e]
    refine Eq.trans hrun ?_
    dsimp only
    unfold f9_bestOrder_l10_B
    rw [if_pos (show (9 : Int32) ≤ nI 9 by decide)]
  rcases g2 with ⟨y1, y2⟩ | ⟨o, y1, y2, y3, y4, y5⟩
  · obtain ⟨o, o1, o2⟩ := hV
    exact absurd (y2 o o1) o2
  · subst y1
    exact ⟨o, q', hfin, g1, y2, y3, y4, y5⟩
/-- what both take for the best one -/
theorem wv_eq (hw : WF d) {b s e o : Nat} {R V : Nat → Nat} (hs : s < 2 ^ dT d) (he : e ≤ 8) (hR : RG R s) (hE : EQ R V) (ho : o < 9) (hV : V o ≠ INF) (hmin : ∀ o2, o2 < 9 → V o2 ≠ INF → wv d b s e V o ≤ wv d b s e V o2) : wv d b s e V o = if e = 0 then R 8 else wl d b R s (e - 1) := by
  have hs6 := s_lt hw hs
  have p6 := (pc6 hs6).1
  have hcb := CB_lt p6
  have g8 := GV_INF (by omega) (hR.1 8 (by decide) hR.2)
  by_cases c : e = 0
  · rw [if_pos c]
    obtain ⟨o2, h1, h2⟩ := hE.2.1
    have h3 := hmin o2 h1 (by rw [← h2]; exact hR.2)
    have h4 := hE.2.2 o ho
    unfold wv ext at *
    rw [if_pos (Or.inl c)] at *
    rw [if_pos (Or.inl c)] at h3
    omega
  · rw [if_neg c]
    have hl : e - 1 < 8 := by omega
    have he1 : e - 1 + 1 = e := by omega
    have eext : ∀ o, ext d b s e o = if o = e - 1 + 1 then 0 else srb d b s := fun o => by
      unfold ext
      rw [he1]
      by_cases z : o = e
      · rw [if_pos (Or.inr z), if_pos z]
      · rw [if_neg (fun w => w.elim c z), if_neg z]
    have h1 := wl_le (d := d) (b := b) (s := s) hE hl ho
    have gw := GV_INF (c := CB s + 11010048) (by omega) (wl_GV (b := b) hw hs hl hR)
    obtain ⟨o2, h2, h3, h4⟩ := wl_at (d := d) (b := b) (s := s) hE hl gw g8
    have h5 := hmin o2 h2 (by omega)
    unfold wv at *
    rw [eext] at *
    rw [eext] at h5
    omega
end MOrder
