/-! the reference's search -/
section MFind
variable {N : Nat} {d : DB} {q : SS}
theorem m_table (hw : WF d) (hN : 1000 ≤ N) {b s set sp : Nat} {P : Nat → Nat → Prop} (hM : RMk d q) (hP : LPg d b q) (hs1 : 1 ≤ s) (hsT : s < 2 ^ dT d) (h1 : pc s = 1) (h : RMnM d s P q) : ∃ q', frN s q q' ∧ RMnM d s (fun t x => P t x ∨ (t = sb d (tz s) ∧ x = tval d b s)) q' ∧ ∀ bk, f9_findBest_l60 N bk N (nI set) (nI sp) (nI s) (nI 0) q = bk (nI set) (nI sp) (nI (s + 1)) q' := by
  have hT := hw.1
  have hs6 := s_lt hw hsT
  have p6 := (pc6 hs6).1
  have h2 := (pc1 hs6).mp h1
  have htT : tz s < dT d := bit_lt hsT (by rw [show s.testBit (tz s) = (2 ^ tz s).testBit (tz s) from by rw [← h2.1], Nat.testBit_two_pow_self])
  have hsb := sb_le d (tz s)
  have hp := pgs_20 (b := b) hw hsT
  obtain ⟨q1, hq1⟩ : ∃ x, x = sf q 13 0 := ⟨_, rfl⟩
  have f1 : frX q q1 := by rw [hq1]; exact ⟨fun j hj => gg _ _ _ hj, fun _ _ => rfl⟩
  have t1 : tri q1 [] := ⟨by rw [hq1, gf]; rfl, fun k hk => absurd hk (Nat.not_lt_zero _)⟩
  obtain ⟨q2, r2, t2, f2⟩ := m_putSign (c := tz s + 48) t1 (by decide)
  have f02 := f1.tr f2
  have hM2 := hM.same (f02.toN (s := s)).same
  have hpl := isPl_table hT htT
  rw [← h2.1] at hpl
  obtain ⟨q3, r3, f3, m3⟩ := m_give (N := N) (c := pgs d s b) hw hN hs1 hsT (show sb d (tz s) < 9 by omega) hpl (by unfold CB; rw [h1]; omega) t2 (f02.row p6 h)
  have hx : pgs d s b * 18446744073709551616 + keyF 0 [tz s + 48] = tval d b s := by
    show pgs d s b * 18446744073709551616 + kst 0 (tz s + 48) = _
    unfold kst dig tval
    rw [if_neg (by omega), if_neg (by omega), if_pos (by omega)]
    omega
  refine ⟨q3, (f02.toN).tr f3, RMnM_ext m3 (fun t x _ => by rw [hx]), fun bk => ?_⟩
  refine loop_run (fun n (p : Int32 × Int32 × Int32 × Int32 × SS) => f9_findBest_l60 N bk n p.1 p.2.1 p.2.2.1 p.2.2.2.1 p.2.2.2.2) (fun k p => f9_findBest_l60_B N bk (fun x1 x2 x3 x4 x5 => k (x1, x2, x3, x4, x5)) p.1 p.2.1 p.2.2.1 p.2.2.2.1 p.2.2.2.2) (fun n p => rfl) (fun i => (nI set, nI sp, nI s, nI i, q)) (tz s) _ (c := 0) ?_ ?_ N 0 (by omega) (by omega) (by omega)
  · intro i _ hi k
    dsimp only
    unfold f9_findBest_l60_B
    rw [shl1 (by omega), if_neg (fun e => by
      have e1 := (nI_eq (Nat.lt_of_lt_of_le (pow_lt6 (show i < 6 by omega)) (by decide)) (by omega)).mp e
      have e2 : 2 ^ i < 2 ^ tz s := Nat.pow_lt_pow_right (by decide) hi
      rw [← h2.1] at e2
      omega), nI_s, bn_e]
  · intro k
    dsimp only
    unfold f9_findBest_l60_B f9_findBest_b187
    rw [shl1 (by omega), if_pos (by rw [← h2.1]), bn_e, ← hq1, li48, nI_add, show 48 + tz s = tz s + 48 by omega, r2, bd_s, m_sortedBy hw hM2 hN htT, bd_s, pI_s, ck_nI hs6 (by decide), ix_nI (by omega), f02.2 13 (by decide), hP s hs1 hsT, r3, bd_s, nI_s, bn_e]
theorem m_lefts (hw : WF d) (hN : 1000 ≤ N) {b s set sp : Nat} {M : Nat → Nat → Nat} (hsp : sp ≤ 1) (hM : RMk d q) (hP : LPg d b q) (hs1 : 1 ≤ s) (hsT : s < 2 ^ dT d) (hrow : ∀ t, 1 ≤ t → t < s → andn t s = 0 → RowM d t (M t) q) (h : RMnM d s (fun _ _ => False) q) : ∃ q', (frN s q q' ∧ RMnM d s (fun t x => ∃ A, VL sp s A ∧ OfB d b (M A) (M (s - A)) A (s - A) t x) q') ∧ ∀ bk, f9_findBest_l125 N bk N (nI set) (nI sp) (nI s) (nI 1) q = bk (nI set) (nI sp) (nI (s + 1)) q' := by
  have hs6 := s_lt hw hsT
  have p6 := (pc6 hs6).1
  obtain ⟨q', ⟨g1, g2⟩, hrun⟩ := loop_bk (fun (bk : Int32 → Int32 → Int32 → SS → Option SS) n (p : Int32 × Int32 × Int32 × Int32 × SS) => f9_findBest_l125 N bk n p.1 p.2.1 p.2.2.1 p.2.2.2.1 p.2.2.2.2) (fun bk k p => f9_findBest_l125_B N bk (fun x1 x2 x3 x4 x5 => k (x1, x2, x3, x4, x5)) p.1 p.2.1 p.2.2.1 p.2.2.2.1 p.2.2.2.2) (fun bk n p => rfl) (fun A q => (nI set, nI sp, nI s, nI A, q)) (fun m q' => frN s q q' ∧ RMnM d s (fun t x => ∃ A, (1 ≤ A ∧ A < m) ∧ VL sp s A ∧ OfB d b (M A) (M (s - A)) A (s - A) t x) q') 1 s (fun bk q' => bk (nI set) (nI sp) (nI (s + 1)) q') (by
    rintro A q1 hA1 hAs ⟨g1, g2⟩
    have a1 : A &&& s ≤ A := Nat.and_le_left
    have e1 : nI A &&& nI s = nI (A &&& s) := and_nI (by omega) (by omega)
    have e2 : nI s - nI A = nI (s - A) := pk_sub (by omega)
    have pR := pc_le (s := s - A)
    have hun : ∀ bk k, f9_findBest_l125_B N bk k (nI set) (nI sp) (nI s) (nI A) q1 = if andn A s = 0 ∧ (sp = 0 ∨ pc (s - A) = 1) then (bd (f9_joinSides N (nI A) (nI (s - A)) q1) fun q_2 => k (nI set) (nI sp) (nI s) (nI (A + 1)) q_2) else k (nI set) (nI sp) (nI s) (nI (A + 1)) q1 := by
      intro bk k
      unfold f9_findBest_l125_B f9_findBest_b158 f9_findBest_b162 f9_findBest_b163 f9_findBest_b181
      rw [if_neg (nI_ge hAs (by omega)), e1, e2, nI_s, m_bitsOf hN (by omega), bd_s, if_neg (show ¬ (1 : Int32) = 0 by decide), if_pos (show (0 : Int32) = 0 from rfl)]
      simp only [bn_e]
      by_cases c1 : andn A s = 0
      · have hz : nI (A &&& s) = nI A := by rw [sub_andn.mpr c1]
        rw [if_pos hz]
        by_cases c2 : sp = 0
        · rw [if_pos (show nI sp = 0 by rw [c2]; rfl), if_pos (show andn A s = 0 ∧ (sp = 0 ∨ pc (s - A) = 1) from ⟨c1, Or.inl c2⟩)]
        · rw [if_neg (show ¬ nI sp = 0 from nz c2 (by omega))]
          by_cases c3 : pc (s - A) = 1
          · rw [if_pos (show nI (pc (s - A)) = 1 by rw [c3]; rfl), if_pos (show andn A s = 0 ∧ (sp = 0 ∨ pc (s - A) = 1) from ⟨c1, Or.inr c3⟩)]
          · rw [if_neg (show ¬ nI (pc (s - A)) = 1 from fun e => c3 ((nI_eq (b := 1) (by omega) (by decide)).mp e)), if_neg (show ¬ (andn A s = 0 ∧ (sp = 0 ∨ pc (s - A) = 1)) from fun z => z.2.elim c2 c3)]
      · have hz : ¬ nI (A &&& s) = nI A := fun e => c1 (sub_andn.mp ((nI_eq (by omega) (by omega)).mp e))
        rw [if_neg hz, if_neg (show ¬ (andn A s = 0 ∧ (sp = 0 ∨ pc (s - A) = 1)) from fun z => c1 z.1)]
    dsimp only
    by_cases hv : VL sp s A
    · obtain ⟨f1, f2, f3, f4, f5, f6, f7⟩ := vl_facts hs6 hv.1 hv.2.1 hv.2.2.1
      have hSM : SM d A (s - A) s := ⟨by omega, by omega, f5, f6, f4, f2, f3, by omega, by omega, hs1, hsT⟩
      have hQ : QM d b A (s - A) (M A) (M (s - A)) q := ⟨hM, hP, hrow A hA1 hAs hv.2.2.1, hrow (s - A) (by omega) (by omega) f7⟩
      obtain ⟨q2, r2, fr2, m2⟩ := m_join (N := N) hw hN hSM (hQ.fr (s := s) (by omega) (by omega) (by omega) (by omega) g1) g2
      refine ⟨q2, ⟨g1.tr fr2, RMnM_ext m2 (fun t x _ => ⟨fun y => ?_, fun y => ?_⟩)⟩, fun bk k => ?_⟩
      · rcases y with ⟨A', y1, y2⟩ | y
        · exact ⟨A', by omega, y2⟩
        · exact ⟨A, by omega, hv, y⟩
      · obtain ⟨A', y1, y2, y3⟩ := y
        by_cases e : A' = A
        · subst e; exact Or.inr y3
        · exact Or.inl ⟨A', by omega, y2, y3⟩
      · rw [hun, if_pos ⟨hv.2.2.1, hv.2.2.2⟩, r2, bd_s]
    · refine ⟨q1, ⟨g1, RMnM_ext g2 (fun t x _ => ⟨fun ⟨A', y1, y2⟩ => ⟨A', by omega, y2⟩, fun y => ?_⟩)⟩, fun bk k => ?_⟩
      · obtain ⟨A', y1, y2, y3⟩ := y
        by_cases e : A' = A
        · subst e; exact absurd y2 hv
        · exact ⟨A', by omega, y2, y3⟩
      · rw [hun, if_neg (fun z => hv ⟨hA1, hAs, z⟩)]) (by
    rintro q1 - bk k
    dsimp only
    unfold f9_findBest_l125_B f9_findBest_b187
    rw [if_pos (nI_le (Nat.le_refl _) (by omega)), nI_s, bn_e]) N 1 q (by omega) (by omega) (by omega) ⟨frN.rf, RMnM_ext h (fun t x _ => ⟨fun y => y.elim, fun ⟨A, a1, _⟩ => by omega⟩)⟩
  refine ⟨q', ⟨g1, RMnM_ext g2 (fun t x _ => ⟨fun ⟨A, a1, a2⟩ => ⟨A, a2⟩, fun ⟨A, a2⟩ => ⟨A, ⟨a2.1.1, a2.1.2.1⟩, a2⟩⟩)⟩, hrun⟩
def frY (q q' : SS) : Prop := (∀ j, j ≠ 13 → fi q' j = fi q j) ∧ ∀ k, k < 18 ∨ 21 ≤ k → ar q' k = ar q k
theorem frY.tr {a b c : SS} (h : frY a b) (g : frY b c) : frY a c := ⟨fun k hk => (g.1 k hk).trans (h.1 k hk), fun k hk => (g.2 k hk).trans (h.2 k hk)⟩
theorem frY.same {a b : SS} (h : frY a b) : sameM a b := ⟨fun k hk => h.1 k (by omega), fun k hk => h.2 k (by omega)⟩
theorem frN.Y {s : Nat} {a b : SS} (h : frN s a b) : frY a b := ⟨h.1, h.2.1⟩
/-- the search's cells -/
def frF (q q' : SS) : Prop := (∀ j, j ≠ 3 → j ≠ 4 → j ≠ 13 → fi q' j = fi q j) ∧ ∀ k, k ≠ 8 → k ≠ 9 → k ≠ 10 → k ≠ 13 → (k < 18 ∨ 21 ≤ k) → ar q' k = ar q k
def rowsM (d : DB) (set m : Nat) (M : Nat → Nat → Nat) (q : SS) : Prop := ∀ t, 1 ≤ t → t < m → andn t set = 0 → RowM d t (M t) q
theorem m_loop (hw : WF d) (hN : 1000 ≤ N) {b sp set : Nat} (hsp : sp ≤ 1) (hs1 : 1 ≤ set) (hsT : set < 2 ^ dT d) (hM : RMk d q) (hP : LPg d b q) (h : ∀ i, i < 576 → ar q 18 i = -1) : ∃ q' M, f9_findBest_l33 N N (nI set) (nI sp) (nI 1) q = some q' ∧ frY q q' ∧ SpM d b sp set (set + 1) M ∧ rowsM d set (set + 1) M q' := by
  have hs6 := s_lt hw hsT
  obtain ⟨q', ⟨g1, g0, M, g2, g3⟩, hrun⟩ := loop_st (fun n (p : Int32 × Int32 × Int32 × SS) => f9_findBest_l33 N n p.1 p.2.1 p.2.2.1 p.2.2.2) (fun k p => f9_findBest_l33_B N (fun x1 x2 x3 x4 => k (x1, x2, x3, x4)) p.1 p.2.1 p.2.2.1 p.2.2.2) (fun n p => rfl) (fun s q => (nI set, nI sp, nI s, q)) (fun m q' => frY q q' ∧ (∀ i, 9 * m ≤ i → i < 576 → ar q' 18 i = -1) ∧ ∃ M, SpM d b sp set m M ∧ rowsM d set m M q') 1 (set + 1) (fun q' => some q') (by
    rintro s q1 h1 h2 ⟨g1, g0, M, g2, g3⟩
    have hM1 := hM.same g1.same
    have hP1 : LPg d b q1 := fun t t1 t2 => by rw [g1.2 13 (by decide)]; exact hP t t1 t2
    have s6 : s < 64 := by omega
    have p6 := (pc6 s6).1
    have a1 : s &&& set ≤ s := Nat.and_le_left
    have e1 : nI s &&& nI set = nI (s &&& set) := and_nI (by omega) (by omega)
    dsimp only
    by_cases c : andn s set = 0
    · have sT := andn_lt c hsT
      have hz : nI (s &&& set) = nI s := by rw [sub_andn.mpr c]
      have h0 : RMnM d s (fun _ _ => False) q1 := ⟨fun _ => INF, fun o ho => Or.inl ⟨rfl, g0 _ (by omega) (by omega)⟩, fun _ _ => isMin_no (fun _ z => z)⟩
      obtain ⟨q6, f6, m6, r6⟩ : ∃ q6, frN s q1 q6 ∧ RMnM d s (OfM d b sp M s) q6 ∧ ∀ bk : Int32 → Int32 → Int32 → SS → Option SS, (if nI (pc s) = 1 then f9_findBest_l60 N bk N (nI set) (nI sp) (nI s) (nI 0) q1 else f9_findBest_l125 N bk N (nI set) (nI sp) (nI s) (nI 1) q1) = bk (nI set) (nI sp) (nI (s + 1)) q6 := by
        by_cases cp : pc s = 1
        · obtain ⟨q6, k1, k2, k3⟩ := m_table (N := N) (set := set) (sp := sp) hw hN hM1 hP1 h1 sT cp h0
          refine ⟨q6, k1, RMnM_ext k2 (fun t x _ => ⟨fun y => Or.inl ⟨cp, y.resolve_left id⟩, fun y => ?_⟩), fun bk => by rw [if_pos (show nI (pc s) = 1 by rw [cp]; rfl)]; exact k3 bk⟩
          rcases y with y | y
          · exact Or.inr y.2
          · exact absurd cp y.1
        · obtain ⟨q6, ⟨k1, k2⟩, k3⟩ := m_lefts (N := N) (set := set) (M := M) hw hN hsp hM1 hP1 h1 sT (fun t t1 t2 t3 => g3 t t1 t2 (andn_tr t3 c)) h0
          refine ⟨q6, k1, RMnM_ext k2 (fun t x _ => ⟨fun y => Or.inr ⟨cp, y⟩, fun y => ?_⟩), fun bk => by rw [if_neg (show ¬ nI (pc s) = 1 from fun e => cp ((nI_eq (b := 1) (by omega) (by decide)).mp e))]; exact k3 bk⟩
          rcases y with y | y
          · exact absurd y.1 cp
          · exact y.2
      obtain ⟨V, v1, v2⟩ := m6
      have cong : ∀ t l x, t ≤ s → (OfM d b sp (uR M s V) t l x ↔ OfM d b sp M t l x) := by
        intro t l x ht
        unfold OfM
        constructor
        · rintro (y | ⟨y1, A, y2, y3⟩)
          · exact Or.inl y
          · refine Or.inr ⟨y1, A, y2, ?_⟩
            have := y2.1
            have := y2.2.1
            rw [uR_ne (by omega), uR_ne (by omega)] at y3
            exact y3
        · rintro (y | ⟨y1, A, y2, y3⟩)
          · exact Or.inl y
          · refine Or.inr ⟨y1, A, y2, ?_⟩
            have := y2.1
            have := y2.2.1
            rw [uR_ne (by omega), uR_ne (by omega)]
            exact y3
      refine ⟨q6, ⟨g1.tr f6.Y, fun i i1 i2 => ?_, uR M s V, fun t t1 t2 t3 l hl => ?_, fun t t1 t2 t3 => ?_⟩, fun k => ?_⟩
      · rw [f6.2.2.1 i (by omega)]
        exact g0 i (by omega) i2
      · by_cases e : t = s
        · subst e
          rw [uR_self]
          exact isMin_ext (v2 l hl) (fun x => (cong t l x (Nat.le_refl _)).symm)
        · rw [uR_ne e]
          exact isMin_ext (g2 t t1 (by omega) t3 l hl) (fun x => (cong t l x (by omega)).symm)
      · by_cases e : t = s
        · subst e
          rw [uR_self]
          exact v1
        · rw [uR_ne e]
          exact f6.row (pc6 (show t < 64 by omega)).1 e (g3 t t1 (by omega) t3)
      · unfold f9_findBest_l33_B f9_findBest_b113
        rw [if_neg (nI_nlt (by omega) (by omega)), e1, if_pos hz, m_bitsOf hN (by omega), bd_s, if_pos hz]
        exact r6 (fun x1 x2 x3 x4 => k (x1, x2, x3, x4))
    · have hz : ¬ nI (s &&& set) = nI s := fun e => c (sub_andn.mp ((nI_eq (by omega) (by omega)).mp e))
      refine ⟨q1, ⟨g1, fun i i1 i2 => g0 i (by omega) i2, M, fun t t1 t2 t3 => g2 t t1 ?_ t3, fun t t1 t2 t3 => g3 t t1 ?_ t3⟩, fun k => ?_⟩
      · by_cases e : t = s
        · subst e; exact absurd t3 c
        · omega
      · by_cases e : t = s
        · subst e; exact absurd t3 c
        · omega
      · unfold f9_findBest_l33_B f9_findBest_b113 f9_findBest_b187
        rw [if_neg (nI_nlt (by omega) (by omega)), e1, if_neg hz, if_neg hz, nI_s, bn_e]) (by
    rintro q1 - k
    dsimp only
    unfold f9_findBest_l33_B
    rw [if_pos (show nI set < nI (set + 1) from nI_lt (by omega) (by omega))]) N 1 q (by omega) (by omega) (by omega) ⟨⟨fun _ _ => rfl, fun _ _ => rfl⟩, fun i _ i2 => h i i2, fun _ _ => 0, fun t t1 t2 => by omega, fun t t1 t2 => by omega⟩
  exact ⟨q', M, hrun, g1, g2, g3⟩
theorem frF.rm {a b : SS} (h : frF a b) (m : RMk d a) : RMk d b := by
  obtain ⟨h0, h1, h2, h3, h4, h5, h6, h7, h8⟩ := m
  have A := fun k k1 k2 k3 k4 k5 => h.2 k k1 k2 k3 k4 k5
  exact ⟨by rw [h.1 0 (by decide) (by decide) (by decide)]; exact h0, by rw [h.1 1 (by decide) (by decide) (by decide)]; exact h1, by rw [h.1 2 (by decide) (by decide) (by decide)]; exact h2, by rw [h.1 5 (by decide) (by decide) (by decide)]; exact h3, by rw [h.1 12 (by decide) (by decide) (by decide)]; exact h4,
    fun t ht => by rw [A 1 (by decide) (by decide) (by decide) (by decide) (by decide), A 2 (by decide) (by decide) (by decide) (by decide) (by decide)]; exact h5 t ht, fun t ht => by rw [A 3 (by decide) (by decide) (by decide) (by decide) (by decide)]; exact h6 t ht, fun t i l ht hi hl hb => by rw [A 4 (by decide) (by decide) (by decide) (by decide) (by decide)]; exact h7 t i l ht hi hl hb, fun k hk => by rw [A 11 (by decide) (by decide) (by decide) (by decide) (by decide)]; exact h8 k hk⟩
theorem m_findBest (hw : WF d) (hM : RMk d q) (hH : CH d q) (hN : 2 ^ 40 ≤ N) {b sp set : Nat} (hb : b ≤ 1) (hsp : sp ≤ 1) (hs1 : 1 ≤ set) (hsT : set < 2 ^ dT d) : ∃ q' M, f9_findBest N (nI set) (nI sp) (nI b) q = some q' ∧ frF q q' ∧ CH d q' ∧ LPg d b q' ∧ SpM d b sp set (set + 1) M ∧ rowsM d set (set + 1) M q' := by
  obtain ⟨q1, r1, f1, c1, l1⟩ := m_layPages (N := N) hw hM hH hN hb
  have hM1 := f1.rm hM
  obtain ⟨q2, ⟨g1, g2, g3⟩, hrun⟩ := loop_st (fun n (p : Int32 × Int32 × Int32 × SS) => f9_findBest_l8 N n p.1 p.2.1 p.2.2.1 p.2.2.2) (fun k p => f9_findBest_l8_B N (fun x1 x2 x3 x4 => k (x1, x2, x3, x4)) p.1 p.2.1 p.2.2.1 p.2.2.2) (fun n p => rfl) (fun i q => (nI set, nI sp, nI i, q)) (fun m q' => (∀ j, fi q' j = fi q1 j) ∧ (∀ k, k ≠ 18 → ar q' k = ar q1 k) ∧ ∀ i, i < m → ar q' 18 i = -1) 0 576 (fun q' => f9_findBest_l33 N N (nI set) (nI sp) (nI 1) q') (by
    rintro i qa - hi ⟨g1, g2, g3⟩
    refine ⟨sa qa 18 i (-1), ⟨fun j => g1 j, fun k hk => ?_, fun j hj => ?_⟩, fun k => ?_⟩
    · rw [gk _ _ _ _ hk]; exact g2 k hk
    · by_cases e : j = i
      · subst e; rw [ga]
      · rw [gi _ _ _ _ e]; exact g3 j (by omega)
    · dsimp only
      unfold f9_findBest_l8_B
      rw [if_neg (show ¬ (576 : Int32) ≤ nI i from nI_ge (b := 576) hi (by decide)), ck_nI hi (by decide), ix_nI (by omega), bn_e, nI_s, bn_e]) (by
    rintro qa - k
    dsimp only
    unfold f9_findBest_l8_B
    rw [if_pos (show (576 : Int32) ≤ nI 576 by decide)]
    rfl) N 0 q1 (by omega) (by omega) (by omega) ⟨fun _ => rfl, fun _ _ => rfl, fun j hj => by omega⟩
  have s12 : sameM q1 q2 := ⟨fun k _ => g1 k, fun k hk => g2 k (by omega)⟩
  have l2 : LPg d b q2 := fun t t1 t2 => by rw [g2 13 (by decide)]; exact l1 t t1 t2
  obtain ⟨q3, M, r3, f3, k1, k2⟩ := m_loop (N := N) hw (by omega) hsp hs1 hsT (hM1.same s12) l2 g3
  refine ⟨q3, M, ?_, ⟨fun j j1 j2 j3 => ?_, fun k a1 a2 a3 a4 a5 => ?_⟩, (c1.same s12).same f3.same, fun t t1 t2 => ?_, k1, k2⟩
  · unfold f9_findBest
    rw [r1, bd_s]
    exact hrun.trans r3
  · rw [f3.1 j j3, g1, f1.1 j j1 j2]
  · rw [f3.2 k a5, g2 k (by omega), f1.2 k a1 a2 a3 a4]
  · rw [f3.2 13 (by decide)]
    exact l2 t t1 t2
end MFind
