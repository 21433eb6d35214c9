/-! the reference's steps -/
section MJoin
variable {N : Nat} {d : DB} {q : SS}
def wc (i : Nat) : Nat := if i = 0 then 108 else if i = 1 then 112 else 115
theorem wc_or (i : Nat) : wc i = 108 ∨ wc i = 112 ∨ wc i = 115 := by
  unfold wc
  split
  · exact Or.inl rfl
  · split
    · exact Or.inr (Or.inl rfl)
    · exact Or.inr (Or.inr rfl)
def SM (d : DB) (A B s : Nat) : Prop := A < 2 ^ dT d ∧ B < 2 ^ dT d ∧ 1 ≤ pc A ∧ 1 ≤ pc B ∧ pc A + pc B = pc s ∧ A ||| B = s ∧ A &&& B = 0 ∧ A ≠ s ∧ B ≠ s ∧ 1 ≤ s ∧ s < 2 ^ dT d
/-- what the reference's rows of both sides say -/
def QM (d : DB) (b A B : Nat) (MA MB : Nat → Nat) (q : SS) : Prop := RMk d q ∧ LPg d b q ∧ RowM d A MA q ∧ RowM d B MB q
theorem QM.fr {b A B s : Nat} {MA MB : Nat → Nat} {q q' : SS} (h : QM d b A B MA MB q) (pA : pc A ≤ 6) (pB : pc B ≤ 6) (hA : A ≠ s) (hB : B ≠ s) (f : frN s q q') : QM d b A B MA MB q' := by
  obtain ⟨h1, h2, h3, h4⟩ := h
  exact ⟨h1.same f.same, fun t t1 t2 => by rw [f.2.1 13 (by decide)]; exact h2 t t1 t2, f.row pA hA h3, f.row pB hB h4⟩
/-- one step: the way w, the orders o and p -/
theorem m_try (hw : WF d) (hN : 1000 ≤ N) {b A B s o p w : Nat} {MA MB : Nat → Nat} {P : Nat → Nat → Prop} (hs : SM d A B s) (hq : QM d b A B MA MB q) (ho : o < 9) (hp : p < 9) (hww : w = 108 ∨ w = 112 ∨ w = 115) (hoI : MA o ≠ INF) (hpI : MB p ≠ INF) (h : RMnM d s P q) : ∃ q', frN s q q' ∧ RMnM d s (fun t x => P t x ∨ OfW d b MA MB A B o p w t x) q' ∧ ∀ bk2 bk11 bk38 i, f9_joinSides_b89 N bk2 bk11 bk38 (nI A) (nI B) (nI o) (nI p) (nI (9 * A + o)) (nI (9 * B + p)) (nI i) (nI w) q = bk38 (nI A) (nI B) (nI o) (nI p) (nI (9 * A + o)) (nI (9 * B + p)) (nI (i + 1)) q' := by
  have hT := hw.1
  obtain ⟨tA, tB, pA, pB, hsum, hor, hand, hAs, hBs, s1, sT⟩ := hs
  obtain ⟨hM, hP, rA, rB⟩ := hq
  have hA6 := s_lt hw tA
  have hB6 := s_lt hw tB
  have s6 := s_lt hw sT
  have p6 := (pc6 s6).1
  have A1 : 1 ≤ A := by
    rcases Nat.eq_zero_or_pos A with z | z
    · rw [z] at pA; exact absurd pA (by decide)
    · exact z
  have B1 : 1 ≤ B := by
    rcases Nat.eq_zero_or_pos B with z | z
    · rw [z] at pB; exact absurd pB (by decide)
    · exact z
  have gA := pgs_20 (b := b) hw tA
  have gB := pgs_20 (b := b) hw tB
  have hst := stc_lt (w := w) (oA := o) (oB := p) (b := b) hw tA tB (by omega)
  have hor2 : nI A ||| nI B = nI s := by rw [or_nI (by omega) (by omega), hor]
  have c1 := m_stepCost (N := N) hw hM hN hww tA tB (show o ≤ 8 by omega) (show p ≤ 8 by omega) gA gB (hP A A1 tA) (hP B B1 tB)
  rcases rA o ho with ⟨z, -⟩ | ⟨cA, la, iA, bA, vA, eA, xA⟩
  · exact absurd z hoI
  rcases rB p hp with ⟨z, -⟩ | ⟨cB, lb, iB, bB, vB, eB, xB⟩
  · exact absurd z hpI
  have hcA := CB_lt (s := A) (by omega)
  have hcB := CB_lt (s := B) (by omega)
  by_cases hmay : may d w A B = true
  · rw [hmay, if_pos rfl] at c1
    have lenA := iA.1
    have lenB := iB.1
    obtain ⟨q1, hq1⟩ : ∃ x, x = sf q 13 0 := ⟨_, rfl⟩
    have f1 : frX q q1 := by rw [hq1]; exact ⟨fun j hj => gg _ _ _ hj, fun _ _ => rfl⟩
    have t1 : tri q1 [] := ⟨by rw [hq1, gf]; rfl, fun k hk => absurd hk (Nat.not_lt_zero _)⟩
    obtain ⟨q2, r2, t2, f2⟩ := m_putSign (c := 40) t1 (by decide)
    have f02 := f1.tr f2
    obtain ⟨q3, r3, t3, f3⟩ := m_putText (N := N) (m := la) (i := 9 * A + o) hN t2 (by omega) (by show 1 + la.length ≤ 21; omega) (fun k hk => by rw [f02.2 19 (by decide)]; exact xA k hk)
    have f03 := f02.tr f3
    obtain ⟨q4, r4, t4, f4⟩ := m_putSign (c := w) t3 (by rw [List.length_append]; show 1 + la.length < 21; omega)
    have f04 := f03.tr f4
    obtain ⟨q5, r5, t5, f5⟩ := m_putText (N := N) (m := lb) (i := 9 * B + p) hN t4 (by omega) (by rw [List.length_append, List.length_append]; show 1 + la.length + 1 + lb.length ≤ 21; omega) (fun k hk => by rw [f04.2 19 (by decide)]; exact xB k hk)
    have f05 := f04.tr f5
    obtain ⟨q6, r6, t6, f6⟩ := m_putSign (c := 41) t5 (by rw [List.length_append, List.length_append, List.length_append]; show 1 + la.length + 1 + lb.length < 21; omega)
    have f06 := f05.tr f6
    have hM6 := hM.same (f06.toN (s := s)).same
    have elist : [] ++ [40] ++ la ++ [w] ++ lb ++ [41] = 40 :: (la ++ w :: (lb ++ [41])) := by simp
    rw [elist] at t6
    have hpl := isPl_step hT hA6 hB6 pA pB hand hww iA iB
    rw [hor] at hpl
    obtain ⟨o', o1, o2, o3⟩ := m_stepOrder (N := N) (oA := o) hw hM6 hN hww tA tB
    have o3 := o3 hmay
    subst o3
    have hw41 : w ≠ 41 := by omega
    have hkey := key_step (la := la) (lb := lb) hw41
    have hsc := CB_sum pA pB hsum
    obtain ⟨q7, r7, f7, m7⟩ := m_give (N := N) (c := cA + cB + stb d b w A B o p) hw hN s1 sT (show sto d w A B o < 9 by omega) hpl (by unfold stb; omega) t6 (f06.row p6 h)
    have kA := iA.key_lt hT tA
    have kB := iB.key_lt hT tB
    have k16A : 16 ^ (3 * pc A - 2) ≤ 18446744073709551616 := Nat.le_trans (Nat.pow_le_pow_right (by decide) (show 3 * pc A - 2 ≤ 16 by omega)) (by decide)
    have k16B : 16 ^ (3 * pc B - 2) ≤ 18446744073709551616 := Nat.le_trans (Nat.pow_le_pow_right (by decide) (show 3 * pc B - 2 ≤ 16 by omega)) (by decide)
    have dA : MA o / 18446744073709551616 = cA ∧ MA o % 18446744073709551616 = keyF 0 la := by rw [vA]; omega
    have dB : MB p / 18446744073709551616 = cB ∧ MB p % 18446744073709551616 = keyF 0 lb := by rw [vB]; omega
    have hx : (cA + cB + stb d b w A B o p) * 18446744073709551616 + keyF 0 (40 :: (la ++ w :: (lb ++ [41]))) = cmb (dig w) (nk A) (nk B) (MA o) (MB p) + stb d b w A B o p * 18446744073709551616 := by
      unfold cmb nk
      rw [dA.1, dA.2, dB.1, dB.2, hkey, iA.2.1, iB.2.1]
      omega
    have hAI : MA o < INF := by rw [vA]; unfold INF; omega
    have hBI : MB p < INF := by rw [vB]; unfold INF; omega
    refine ⟨q7, (f06.toN).tr f7, RMnM_ext m7 (fun t x _ => ⟨fun y => y.imp_right (fun ⟨y1, y2⟩ => ⟨hAI, hBI, hmay, y1, y2.trans hx⟩), fun y => y.imp_right (fun ⟨_, _, _, y1, y2⟩ => ⟨y1, y2.trans hx.symm⟩)⟩), fun bk2 bk11 bk38 i => ?_⟩
    unfold f9_joinSides_b89 f9_joinSides_b187
    rw [c1, bd_s, if_neg (nI_m1 (by omega)), bn_e, ← hq1, show (40 : Int32) = nI 40 from rfl, r2, bd_s, m_signsOf hN hA6 pA, bd_s, ← lenA, r3, bd_s, r4, bd_s, m_signsOf hN hB6 pB, bd_s, ← lenB, r5, bd_s, show (41 : Int32) = nI 41 from rfl, r6, bd_s, o2, bd_s, ck_nI (by omega) (by decide), ck_nI (by omega) (by decide), ix_nI (by omega), ix_nI (by omega), f06.2 18 (by decide), eA, eB, nI_add, nI_add, hor2, show cA + cB + stc d w (pgs d A b) (pgs d B b) A B o p = cA + cB + stb d b w A B o p from rfl, r7, bd_s, nI_s, bn_e]
  · have hmay : may d w A B = false := Bool.not_eq_true _ |>.mp hmay
    rw [hmay, if_neg Bool.false_ne_true] at c1
    refine ⟨q, frN.rf, RMnM_ext h (fun t x _ => ⟨Or.inl, fun y => y.resolve_right (fun z => by
      have := z.2.2.1
      rw [hmay] at this
      cases this)⟩), fun bk2 bk11 bk38 i => ?_⟩
    unfold f9_joinSides_b89 f9_joinSides_b187
    rw [c1, bd_s, if_pos rfl, nI_s, bn_e]
/-- all ways -/
theorem m_ways (hw : WF d) (hN : 1000 ≤ N) {b A B s o p : Nat} {MA MB : Nat → Nat} {P : Nat → Nat → Prop} (hs : SM d A B s) (hq : QM d b A B MA MB q) (ho : o < 9) (hp : p < 9) (h : RMnM d s P q) : ∃ q', (frN s q q' ∧ RMnM d s (fun t x => P t x ∨ ∃ w, (w = 108 ∨ w = 112 ∨ w = 115) ∧ OfW d b MA MB A B o p w t x) q') ∧ ∀ bk : (Int32 → Int32 → Int32 → SS → Option SS) × (Int32 → Int32 → Int32 → Int32 → SS → Option SS), f9_joinSides_l38 N bk.1 bk.2 N (nI A) (nI B) (nI o) (nI p) (nI (9 * A + o)) (nI (9 * B + p)) (nI 0) q = bk.2 (nI A) (nI B) (nI o) (nI (p + 1)) q' := by
  obtain ⟨tA, tB, pA, pB, hsum, hor, hand, hAs, hBs, s1, sT⟩ := hs
  have hs : SM d A B s := ⟨tA, tB, pA, pB, hsum, hor, hand, hAs, hBs, s1, sT⟩
  have hA6 := s_lt hw tA
  have hB6 := s_lt hw tB
  have p6 := (pc6 (s_lt hw sT)).1
  by_cases hI : MA o = INF ∨ MB p = INF
  · refine ⟨q, ⟨frN.rf, RMnM_ext h (fun t x _ => ⟨Or.inl, fun y => y.resolve_right (fun ⟨w, _, z⟩ => by
      have z1 := z.1
      have z2 := z.2.1
      omega)⟩)⟩, fun bk => ?_⟩
    obtain ⟨N', hN'⟩ : ∃ m, N = m + 1 := ⟨N - 1, by omega⟩
    conv => lhs; arg 4; rw [hN']
    show f9_joinSides_l38_B N bk.1 bk.2 (f9_joinSides_l38 N bk.1 bk.2 N') _ _ _ _ _ _ _ _ = _
    unfold f9_joinSides_l38_B f9_joinSides_b193
    rw [if_neg (show ¬ (3 : Int32) ≤ nI 0 by decide), ck_nI (by omega) (by decide), ck_nI (by omega) (by decide), ix_nI (by omega), ix_nI (by omega), nI_s, bn_e]
    by_cases hz : MA o = INF
    · rcases hq.2.2.1 o ho with ⟨-, e⟩ | ⟨c, l, i1, i2, i3, i4, -⟩
      · rw [e, if_pos rfl]
      · exfalso
        have := CB_lt (s := A) (by omega)
        have := i1.key_lt hw.1 tA
        have k16A : 16 ^ (3 * pc A - 2) ≤ 18446744073709551616 := Nat.le_trans (Nat.pow_le_pow_right (by decide) (show 3 * pc A - 2 ≤ 16 by omega)) (by decide)
        unfold INF at hz
        omega
    · have hz2 := hI.resolve_left hz
      rcases hq.2.2.2 p hp with ⟨-, e⟩ | ⟨c, l, i1, i2, i3, i4, -⟩
      · rw [e, if_pos rfl, ite_self]
      · exfalso
        have := CB_lt (s := B) (by omega)
        have := i1.key_lt hw.1 tB
        have k16B : 16 ^ (3 * pc B - 2) ≤ 18446744073709551616 := Nat.le_trans (Nat.pow_le_pow_right (by decide) (show 3 * pc B - 2 ≤ 16 by omega)) (by decide)
        unfold INF at hz2
        omega
  · have hoI : MA o ≠ INF := fun z => hI (Or.inl z)
    have hpI : MB p ≠ INF := fun z => hI (Or.inr z)
    obtain ⟨q', ⟨g1, g2⟩, hrun⟩ := loop_bk (fun (bk : (Int32 → Int32 → Int32 → SS → Option SS) × (Int32 → Int32 → Int32 → Int32 → SS → Option SS)) n (p : Int32 × Int32 × Int32 × Int32 × Int32 × Int32 × Int32 × SS) => f9_joinSides_l38 N bk.1 bk.2 n p.1 p.2.1 p.2.2.1 p.2.2.2.1 p.2.2.2.2.1 p.2.2.2.2.2.1 p.2.2.2.2.2.2.1 p.2.2.2.2.2.2.2) (fun bk k p => f9_joinSides_l38_B N bk.1 bk.2 (fun x1 x2 x3 x4 x5 x6 x7 x8 => k (x1, x2, x3, x4, x5, x6, x7, x8)) p.1 p.2.1 p.2.2.1 p.2.2.2.1 p.2.2.2.2.1 p.2.2.2.2.2.1 p.2.2.2.2.2.2.1 p.2.2.2.2.2.2.2) (fun bk n p => rfl) (fun i q => (nI A, nI B, nI o, nI p, nI (9 * A + o), nI (9 * B + p), nI i, q)) (fun i q' => frN s q q' ∧ RMnM d s (fun t x => P t x ∨ ∃ j, j < i ∧ OfW d b MA MB A B o p (wc j) t x) q') 0 3 (fun bk q' => bk.2 (nI A) (nI B) (nI o) (nI (p + 1)) q') (by
      rintro i q1 - hi ⟨g1, g2⟩
      have hq1 := hq.fr (by omega) (by omega) hAs hBs g1
      obtain ⟨q2, f2, m2, r2⟩ := m_try (N := N) hw hN hs hq1 ho hp (wc_or i) hoI hpI g2
      refine ⟨q2, ⟨g1.tr f2, RMnM_ext m2 (fun t x _ => ⟨fun y => ?_, fun y => ?_⟩)⟩, fun bk k => ?_⟩
      · rcases y with (y | ⟨j, j1, j2⟩) | y
        · exact Or.inl y
        · exact Or.inr ⟨j, by omega, j2⟩
        · exact Or.inr ⟨i, by omega, y⟩
      · rcases y with y | ⟨j, j1, j2⟩
        · exact Or.inl (Or.inl y)
        · by_cases e : j = i
          · subst e; exact Or.inr j2
          · exact Or.inl (Or.inr ⟨j, by omega, j2⟩)
      · dsimp only
        unfold f9_joinSides_l38_B
        rw [if_neg (show ¬ (3 : Int32) ≤ nI i from nI_ge (b := 3) hi (by decide)), ck_nI (by omega) (by decide), ck_nI (by omega) (by decide), ix_nI (by omega), ix_nI (by omega)]
        rcases hq1.2.2.1 o ho with ⟨z, -⟩ | ⟨cA, la, iA, bA, vA, eA, xA⟩
        · exact absurd z hoI
        rcases hq1.2.2.2 p hp with ⟨z, -⟩ | ⟨cB, lb, iB, bB, vB, eB, xB⟩
        · exact absurd z hpI
        have hcA := CB_lt (s := A) (by omega)
        have hcB := CB_lt (s := B) (by omega)
        rw [eA, if_neg (nI_m1 (by omega)), eB, if_neg (nI_m1 (by omega))]
        have r3 := r2 bk.1 bk.2 (fun x1 x2 x3 x4 x5 x6 x7 x8 => k (x1, x2, x3, x4, x5, x6, x7, x8)) i
        rcases (show i = 0 ∨ i = 1 ∨ i = 2 by omega) with rfl | rfl | rfl
        · rw [if_pos (show nI 0 = 0 from rfl)]
          exact r3
        · rw [if_neg (show ¬ nI 1 = 0 by decide), if_pos (show nI 1 = 1 from rfl)]
          exact r3
        · rw [if_neg (show ¬ nI 2 = 0 by decide), if_neg (show ¬ nI 2 = 1 by decide)]
          exact r3) (by
      rintro q1 - bk k
      dsimp only
      unfold f9_joinSides_l38_B f9_joinSides_b193
      rw [if_pos (show (3 : Int32) ≤ nI 3 by decide), nI_s, bn_e]) N 0 q (by omega) (by omega) (by omega) ⟨frN.rf, RMnM_ext h (fun t x _ => ⟨Or.inl, fun y => y.resolve_right (fun ⟨j, j1, _⟩ => by omega)⟩)⟩
    refine ⟨q', ⟨g1, RMnM_ext g2 (fun t x _ => ⟨fun y => y.imp_right (fun ⟨j, j1, j2⟩ => ⟨wc j, wc_or j, j2⟩), fun y => y.imp_right (fun ⟨w, w1, w2⟩ => ?_)⟩)⟩, hrun⟩
    rcases w1 with rfl | rfl | rfl
    · exact ⟨0, by decide, w2⟩
    · exact ⟨1, by decide, w2⟩
    · exact ⟨2, by decide, w2⟩
/-- all orders of the right side -/
theorem m_rights (hw : WF d) (hN : 1000 ≤ N) {b A B s o : Nat} {MA MB : Nat → Nat} {P : Nat → Nat → Prop} (hs : SM d A B s) (hq : QM d b A B MA MB q) (ho : o < 9) (h : RMnM d s P q) : ∃ q', (frN s q q' ∧ RMnM d s (fun t x => P t x ∨ ∃ p, p < 9 ∧ ∃ w, (w = 108 ∨ w = 112 ∨ w = 115) ∧ OfW d b MA MB A B o p w t x) q') ∧ ∀ bk : Int32 → Int32 → Int32 → SS → Option SS, f9_joinSides_l11 N bk N (nI A) (nI B) (nI o) (nI 0) q = bk (nI A) (nI B) (nI (o + 1)) q' := by
  obtain ⟨tA, tB, pA, pB, hsum, hor, hand, hAs, hBs, s1, sT⟩ := hs
  have hs : SM d A B s := ⟨tA, tB, pA, pB, hsum, hor, hand, hAs, hBs, s1, sT⟩
  have p6 := (pc6 (s_lt hw sT)).1
  obtain ⟨q', ⟨g1, g2⟩, hrun⟩ := loop_bk (fun (bk : Int32 → Int32 → Int32 → SS → Option SS) n (p : Int32 × Int32 × Int32 × Int32 × SS) => f9_joinSides_l11 N bk n p.1 p.2.1 p.2.2.1 p.2.2.2.1 p.2.2.2.2) (fun bk k p => f9_joinSides_l11_B N bk (fun x1 x2 x3 x4 x5 => k (x1, x2, x3, x4, x5)) p.1 p.2.1 p.2.2.1 p.2.2.2.1 p.2.2.2.2) (fun bk n p => rfl) (fun p q => (nI A, nI B, nI o, nI p, q)) (fun m q' => frN s q q' ∧ RMnM d s (fun t x => P t x ∨ ∃ p, p < m ∧ ∃ w, (w = 108 ∨ w = 112 ∨ w = 115) ∧ OfW d b MA MB A B o p w t x) q') 0 9 (fun bk q' => bk (nI A) (nI B) (nI (o + 1)) q') (by
    rintro p q1 - hp ⟨g1, g2⟩
    have hq1 := hq.fr (by omega) (by omega) hAs hBs g1
    obtain ⟨q2, ⟨f2, m2⟩, r2⟩ := m_ways (N := N) hw hN hs hq1 ho hp g2
    refine ⟨q2, ⟨g1.tr f2, RMnM_ext m2 (fun t x _ => ⟨fun y => ?_, fun y => ?_⟩)⟩, fun bk k => ?_⟩
    · rcases y with (y | ⟨j, j1, j2⟩) | y
      · exact Or.inl y
      · exact Or.inr ⟨j, by omega, j2⟩
      · exact Or.inr ⟨p, by omega, y⟩
    · rcases y with y | ⟨j, j1, j2⟩
      · exact Or.inl (Or.inl y)
      · by_cases e : j = p
        · subst e; exact Or.inr j2
        · exact Or.inl (Or.inr ⟨j, by omega, j2⟩)
    · dsimp only
      unfold f9_joinSides_l11_B
      rw [if_neg (show ¬ (9 : Int32) ≤ nI p from nI_ge (b := 9) hp (by decide)), li9, pk_mul, nI_add, bn_e, pk_mul, nI_add, bn_e]
      exact r2 (bk, fun x1 x2 x3 x4 x5 => k (x1, x2, x3, x4, x5))) (by
    rintro q1 - bk k
    dsimp only
    unfold f9_joinSides_l11_B
    rw [if_pos (show (9 : Int32) ≤ nI 9 by decide), nI_s, bn_e]) N 0 q (by omega) (by omega) (by omega) ⟨frN.rf, RMnM_ext h (fun t x _ => ⟨Or.inl, fun y => y.resolve_right (fun ⟨j, j1, _⟩ => by omega)⟩)⟩
  exact ⟨q', ⟨g1, g2⟩, hrun⟩
theorem m_join (hw : WF d) (hN : 1000 ≤ N) {b A B s : Nat} {MA MB : Nat → Nat} {P : Nat → Nat → Prop} (hs : SM d A B s) (hq : QM d b A B MA MB q) (h : RMnM d s P q) : ∃ q', f9_joinSides N (nI A) (nI B) q = some q' ∧ frN s q q' ∧ RMnM d s (fun t x => P t x ∨ OfB d b MA MB A B t x) q' := by
  obtain ⟨tA, tB, pA, pB, hsum, hor, hand, hAs, hBs, s1, sT⟩ := hs
  have hs : SM d A B s := ⟨tA, tB, pA, pB, hsum, hor, hand, hAs, hBs, s1, sT⟩
  have p6 := (pc6 (s_lt hw sT)).1
  obtain ⟨q', ⟨g1, g2⟩, hrun⟩ := loop_st (fun n (p : Int32 × Int32 × Int32 × SS) => f9_joinSides_l2 N n p.1 p.2.1 p.2.2.1 p.2.2.2) (fun k p => f9_joinSides_l2_B N (fun x1 x2 x3 x4 => k (x1, x2, x3, x4)) p.1 p.2.1 p.2.2.1 p.2.2.2) (fun n p => rfl) (fun o q => (nI A, nI B, nI o, q)) (fun m q' => frN s q q' ∧ RMnM d s (fun t x => P t x ∨ ∃ o, o < m ∧ ∃ p, p < 9 ∧ ∃ w, (w = 108 ∨ w = 112 ∨ w = 115) ∧ OfW d b MA MB A B o p w t x) q') 0 9 (fun q' => some q') (by
    rintro o q1 - ho ⟨g1, g2⟩
    have hq1 := hq.fr (by omega) (by omega) hAs hBs g1
    obtain ⟨q2, ⟨f2, m2⟩, r2⟩ := m_rights (N := N) hw hN hs hq1 ho g2
    refine ⟨q2, ⟨g1.tr f2, RMnM_ext m2 (fun t x _ => ⟨fun y => ?_, fun y => ?_⟩)⟩, fun k => ?_⟩
    · rcases y with (y | ⟨j, j1, j2⟩) | y
      · exact Or.inl y
      · exact Or.inr ⟨j, by omega, j2⟩
      · exact Or.inr ⟨o, by omega, y⟩
    · rcases y with y | ⟨j, j1, j2⟩
      · exact Or.inl (Or.inl y)
      · by_cases e : j = o
        · subst e; exact Or.inr j2
        · exact Or.inl (Or.inr ⟨j, by omega, j2⟩)
    · dsimp only
      unfold f9_joinSides_l2_B
      rw [if_neg (show ¬ (9 : Int32) ≤ nI o from nI_ge (b := 9) ho (by decide))]
      exact r2 (fun x1 x2 x3 x4 => k (x1, x2, x3, x4))) (by
    rintro q1 - k
    dsimp only
    unfold f9_joinSides_l2_B
    rw [if_pos (show (9 : Int32) ≤ nI 9 by decide)]) N 0 q (by omega) (by omega) (by omega) ⟨frN.rf, RMnM_ext h (fun t x _ => ⟨Or.inl, fun y => y.resolve_right (fun ⟨j, j1, _⟩ => by omega)⟩)⟩
  exact ⟨q', hrun, g1, g2⟩
end MJoin
