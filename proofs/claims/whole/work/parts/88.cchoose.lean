/-! the chooser -/
section CChoose
variable {N : Nat} {d : DB} {q : SS}
/-- the row of s holds the least of what P offers -/
def RMin (q : SS) (s : Nat) (P : Nat → Nat → Prop) : Prop := (∀ l x, l < 9 → P l x → GV s (CB s) x) ∧ ∃ V, RowC q s V ∧ ∀ l, l < 9 → isMin (P l) (V l)
theorem RMin_ext {s : Nat} {P P' : Nat → Nat → Prop} (h : RMin q s P) (e : ∀ l x, l < 9 → (P l x ↔ P' l x)) : RMin q s P' := by
  obtain ⟨h1, V, h2, h3⟩ := h
  exact ⟨fun l x hl hx => h1 l x hl ((e l x hl).mpr hx), V, h2, fun l hl => isMin_ext (h3 l hl) (fun x => e l x hl)⟩
theorem c_give {s j x : Nat} {P : Nat → Nat → Prop} (hs : s < 64) (p1 : 1 ≤ pc s) (p6 : pc s ≤ 6) (hj : j < 9) (hx : GV s (CB s) x) (h : RMin q s P) : ∃ q', f0_offer (nI s) (nI j) (nI (x / 18446744073709551616)) (lN (x % 18446744073709551616)) q = some q' ∧ frR s q q' ∧ RMin q' s (fun l y => P l y ∨ ((l = j ∨ l = 8) ∧ y = x)) := by
  obtain ⟨h1, V, h2, h3⟩ := h
  have hcb := CB_lt p6
  have hxI := GV_INF (by omega) hx
  obtain ⟨q', r1, r2, r3⟩ := c_offer hs p1 p6 hj (fun l hl hne => h1 l _ hl ((h3 l hl).1.resolve_left hne)) hx h2
  refine ⟨q', r1, r3, fun l y hl hy => ?_, offV V j x, r2, fun l hl => ?_⟩
  · rcases hy with hy | ⟨-, rfl⟩
    · exact h1 l y hl hy
    · exact hx
  · unfold offV
    by_cases c : l = j ∨ l = 8
    · rw [if_pos c]
      exact isMin_add (h3 l hl) hxI (fun y => ⟨fun z => z.imp_right (fun w => w.2), fun z => z.imp_right (fun w => ⟨c, w⟩)⟩)
    · rw [if_neg c]
      exact isMin_ext (h3 l hl) (fun y => ⟨Or.inl, fun z => z.resolve_right (fun w => c w.1)⟩)
def SX (d : DB) (A B s : Nat) (CA CB' : Nat → Nat) : Prop := A < 2 ^ dT d ∧ B < 2 ^ dT d ∧ 1 ≤ A ∧ 1 ≤ B ∧ 1 ≤ pc A ∧ 1 ≤ pc B ∧ pc A + pc B = pc s ∧ A ||| B = s ∧ A ≠ s ∧ B ≠ s ∧ s < 64 ∧ pc s ≤ 6 ∧ RG CA A ∧ RG CB' B
def QX (d : DB) (b A B : Nat) (CA CB' : Nat → Nat) (q : SS) : Prop := RowC q A CA ∧ RowC q B CB' ∧ ar q 24 A = nI (pgs d A b) ∧ ar q 24 B = nI (pgs d B b) ∧ ar q 25 A = nI (srb d b A) ∧ ar q 25 B = nI (srb d b B) ∧ fi q 3 = nI (dM d)
theorem QX.fr {b A B s : Nat} {CA CB' : Nat → Nat} {q q' : SS} (h : QX d b A B CA CB' q) (hA : A ≠ s) (hB : B ≠ s) (f : frR s q q') : QX d b A B CA CB' q' := by
  obtain ⟨h1, h2, h3, h4, h5, h6, h7⟩ := h
  refine ⟨f.row hA h1, f.row hB h2, ?_, ?_, ?_, ?_, ?_⟩
  · rw [f.2.1 24 (by decide)]; exact h3
  · rw [f.2.1 24 (by decide)]; exact h4
  · rw [f.2.1 25 (by decide)]; exact h5
  · rw [f.2.1 25 (by decide)]; exact h6
  · rw [f.1 3]; exact h7
theorem c_takeLoops (hw : WF d) (hN : 1000 ≤ N) {b A B s : Nat} {CA CB' : Nat → Nat} {P : Nat → Nat → Prop} (hs : SX d A B s CA CB') (hq : QX d b A B CA CB' q) (h : RMin q s P) : ∃ q', f0_takeLoops N (nI A) (nI B) q = some q' ∧ frR s q q' ∧ RMin q' s (fun l x => P l x ∨ ∃ j, j < 9 ∧ Of1 d b CA CB' A B j l x) := by
  have hm := hw.2.2.2.2.2.2.1
  have hm9 := hw.2.2.2.2.2.2.2.1
  obtain ⟨tA, tB, A1, B1, pA, pB, hsum, hor, hAs, hBs, s64, p6, rA, rB⟩ := hs
  have hA6 := s_lt hw tA
  have hB6 := s_lt hw tB
  have gA := pgs_20 (b := b) hw tA
  have gB8 := rB.1 8 (by decide) rB.2
  have kB := GV_key pB gB8
  have cB := gB8.2
  have hcB := CB_lt (s := B) (by omega)
  have hcA := CB_lt (s := A) (by omega)
  have hst := stc_lt (w := 108) (oA := 0) (oB := 0) (b := b) hw tA tB (by omega)
  have hor2 : nI A ||| nI B = nI s := by rw [or_nI (by omega) (by omega), hor]
  obtain ⟨q', ⟨g1, g2⟩, hrun⟩ := loop_st (fun n (p : Int32 × Int32 × Int32 × Int32 × Int32 × SS) => f0_takeLoops_l42 N n p.1 p.2.1 p.2.2.1 p.2.2.2.1 p.2.2.2.2.1 p.2.2.2.2.2) (fun k p => f0_takeLoops_l42_B N (fun x1 x2 x3 x4 x5 x6 => k (x1, x2, x3, x4, x5, x6)) p.1 p.2.1 p.2.2.1 p.2.2.2.1 p.2.2.2.2.1 p.2.2.2.2.2) (fun n p => rfl) (fun j q => (nI A, nI B, nI (9 * B + 8), nI (CB' 8 / 18446744073709551616 + stb d b 108 A B 0 0), nI j, q)) (fun j q' => frR s q q' ∧ RMin q' s (fun l x => P l x ∨ ∃ i, i < j ∧ Of1 d b CA CB' A B i l x)) 0 9 (fun q' => some q') (by
    rintro j q1 - hj ⟨g1, g2⟩
    obtain ⟨w1, w2, w3, w4, w5, w6, w7⟩ := hq.fr hAs hBs g1
    rcases w2 8 (by decide) with ⟨z, -⟩ | ⟨-, e8, l8⟩
    · exact absurd z rB.2
    have hun : ∀ k, f0_takeLoops_l42_B N k (nI A) (nI B) (nI (9 * B + 8)) (nI (CB' 8 / 18446744073709551616 + stb d b 108 A B 0 0)) (nI j) q1 = if ar q1 22 (9 * A + j) = -1 then k (nI A) (nI B) (nI (9 * B + 8)) (nI (CB' 8 / 18446744073709551616 + stb d b 108 A B 0 0)) (nI (j + 1)) q1 else bd (f0_keyOfStep (nI A) (lo q1 (9 * A + j)) 8 (nI B) (lN (CB' 8 % 18446744073709551616))) fun r => bd (f0_offer (nI s) (nI j) (ar q1 22 (9 * A + j) + nI (CB' 8 / 18446744073709551616 + stb d b 108 A B 0 0)) r q1) fun q2 => k (nI A) (nI B) (nI (9 * B + 8)) (nI (CB' 8 / 18446744073709551616 + stb d b 108 A B 0 0)) (nI (j + 1)) q2 := by
      intro k
      unfold f0_takeLoops_l42_B f0_takeLoops_b112
      rw [if_neg (show ¬ (9 : Int32) ≤ nI j from nI_ge (b := 9) hj (by decide)), li9, pk_mul, nI_add, show A * 9 + j = 9 * A + j by omega, bn_e, ck_nI (by omega) (by decide), ck_nI (by omega) (by decide), ck_nI (by omega) (by decide), ix_nI (by omega), ix_nI (by omega), nI_s, hor2, l8]
      have cka : ∀ k : Option SS, ck (nI (9 * A + j)) 576 k = k := fun k => ck_nI (by omega) (by decide)
      simp only [cka, bn_e]
    dsimp only
    rcases w1 j (by omega) with ⟨z, ea⟩ | ⟨hne, ea, la⟩
    · refine ⟨q1, ⟨g1, RMin_ext g2 (fun l x _ => ⟨fun y => ?_, fun y => ?_⟩)⟩, fun k => ?_⟩
      · rcases y with y | ⟨i, i1, i2⟩
        · exact Or.inl y
        · exact Or.inr ⟨i, by omega, i2⟩
      · rcases y with y | ⟨i, i1, i2⟩
        · exact Or.inl y
        · refine Or.inr ⟨i, ?_, i2⟩
          by_cases e : i = j
          · subst e
            have := i2.1
            omega
          · omega
      · rw [hun, ea, if_pos rfl]
    · have gj := rA.1 j hj hne
      have kj := GV_key pA gj
      have cj := gj.2
      have ij := GV_INF (by omega) gj
      have hO : Of1 d b CA CB' A B j j (cmb 8 (nk A) (nk B) (CA j) (CB' 8) + stb d b 108 A B 0 0 * 18446744073709551616) := ⟨ij, Or.inl rfl, rfl⟩
      have gx := Of1_GV (s := s) hw tA tB pA pB hsum p6 rA rB hj hO
      obtain ⟨e1, e2, e3⟩ := cmb_div (w := 8) pA pB (by omega) (by decide) gj gB8
      obtain ⟨f1, f2⟩ := add_Q (cmb 8 (nk A) (nk B) (CA j) (CB' 8)) (stb d b 108 A B 0 0)
      obtain ⟨q2, r2, fr2, m2⟩ := c_give s64 (by omega) p6 hj gx g2
      refine ⟨q2, ⟨g1.tr fr2, RMin_ext m2 (fun l x _ => ⟨fun y => ?_, fun y => ?_⟩)⟩, fun k => ?_⟩
      · rcases y with (y | ⟨i, i1, i2⟩) | ⟨y1, y2⟩
        · exact Or.inl y
        · exact Or.inr ⟨i, by omega, i2⟩
        · exact Or.inr ⟨j, by omega, ij, y1, y2⟩
      · rcases y with y | ⟨i, i1, i2⟩
        · exact Or.inl (Or.inl y)
        · by_cases e : i = j
          · subst e
            exact Or.inr i2.2
          · exact Or.inl (Or.inr ⟨i, by omega, i2⟩)
      · rw [hun, ea, if_neg (nI_m1 (by omega)), la, li8, c_keyOfStep hA6 hB6 pA pB (by omega) (by decide) kj kB, bd_s, ← e2, ← f2, nI_add, ← Nat.add_assoc, ← e1, ← f1, r2, bd_s]) (by
    rintro q1 - k
    dsimp only
    unfold f0_takeLoops_l42_B
    rw [if_pos (show (9 : Int32) ≤ nI 9 by decide)]) N 0 q (by omega) (by omega) (by omega) ⟨frR.rf, RMin_ext h (fun l x _ => ⟨Or.inl, fun y => y.resolve_right (fun ⟨i, i1, _⟩ => by omega)⟩)⟩
  refine ⟨q', ?_, g1, g2⟩
  obtain ⟨w1, w2, w3, w4, w5, w6, w7⟩ := hq
  rcases w2 8 (by decide) with ⟨z, -⟩ | ⟨-, e8, l8⟩
  · exact absurd z rB.2
  unfold f0_takeLoops f7_memory
  rw [li9, pk_mul, li8, nI_add, show B * 9 + 8 = 9 * B + 8 by omega, bn_e, ck_nI (by omega) (by decide), ck_nI hA6 (by decide), ck_nI hB6 (by decide), bd_s, ix_nI (by omega), ix_nI (by omega), ix_nI (by omega), w3, w4, w7, c_loops hm hm9 gA, bd_s, e8, nI_add, bn_e]
  exact hrun
theorem c_takeParts (hw : WF d) {b A B s : Nat} {CA CB' : Nat → Nat} {P : Nat → Nat → Prop} (hs : SX d A B s CA CB') (hq : QX d b A B CA CB' q) (hsh : sh d A B ≠ 0) (h : RMin q s P) : ∃ q', f0_takeParts (nI A) (nI B) q = some q' ∧ frR s q q' ∧ RMin q' s (fun l x => P l x ∨ Of2 d b CA CB' A B l x) := by
  have hm := hw.2.2.2.2.2.2.1
  have hm9 := hw.2.2.2.2.2.2.2.1
  obtain ⟨tA, tB, A1, B1, pA, pB, hsum, hor, hAs, hBs, s64, p6, rA, rB⟩ := hs
  obtain ⟨w1, w2, w3, w4, w5, w6, w7⟩ := hq
  have hA6 := s_lt hw tA
  have hB6 := s_lt hw tB
  have gA := pgs_20 (b := b) hw tA
  have gB := pgs_20 (b := b) hw tB
  have gA8 := rA.1 8 (by decide) rA.2
  have gB8 := rB.1 8 (by decide) rB.2
  rcases w1 8 (by decide) with ⟨z, -⟩ | ⟨-, eA, lA⟩
  · exact absurd z rA.2
  rcases w2 8 (by decide) with ⟨z, -⟩ | ⟨-, eB, lB⟩
  · exact absurd z rB.2
  have hO : Of2 d b CA CB' A B 8 (cmb 9 (nk A) (nk B) (CA 8) (CB' 8) + stb d b 112 A B 0 0 * 18446744073709551616) := ⟨hsh, rfl, rfl⟩
  have gx := Of2_GV (s := s) hw tA tB pA pB hsum p6 rA rB hO
  obtain ⟨e1, e2, e3⟩ := cmb_div (w := 9) pA pB (by omega) (by decide) gA8 gB8
  obtain ⟨f1, f2⟩ := add_Q (cmb 9 (nk A) (nk B) (CA 8) (CB' 8)) (stb d b 112 A B 0 0)
  obtain ⟨q2, r2, fr2, m2⟩ := c_give s64 (by omega) p6 (show 8 < 9 by decide) gx h
  refine ⟨q2, ?_, fr2, RMin_ext m2 (fun l x _ => ⟨fun y => y.imp_right (fun ⟨y1, y2⟩ => ⟨hsh, by omega, y2⟩), fun y => y.imp_right (fun ⟨_, y1, y2⟩ => ⟨Or.inl y1, y2⟩)⟩)⟩
  have hor2 : nI A ||| nI B = nI s := by rw [or_nI (by omega) (by omega), hor]
  unfold f0_takeParts f7_memory
  rw [li9, pk_mul, li8, nI_add, show A * 9 + 8 = 9 * A + 8 by omega, bn_e, pk_mul, nI_add, show B * 9 + 8 = 9 * B + 8 by omega, bn_e, ck_nI hA6 (by decide), ck_nI hB6 (by decide), bd_s, ix_nI (by omega), ix_nI (by omega), ix_nI (by omega), ix_nI (by omega), w3, w4, w7, c_parts hm hm9 gA gB, bd_s, ck_nI (by omega) (by decide), ck_nI (by omega) (by decide), lA, lB, eA, eB, c_keyOfStep (w := 9) hA6 hB6 pA pB (by omega) (by decide) (GV_key pA gA8) (GV_key pB gB8), bd_s, ck_nI (by omega) (by decide), ck_nI (by omega) (by decide), hor2, nI_add, nI_add, ← e1, ← e2, ← f2]
  rw [show cmb 9 (nk A) (nk B) (CA 8) (CB' 8) / 18446744073709551616 + (if min (pgs d A b) (pgs d B b) ≤ dM d - 2 then 0 else 2 * (pgs d A b + pgs d B b)) = (cmb 9 (nk A) (nk B) (CA 8) (CB' 8) + stb d b 112 A B 0 0 * 18446744073709551616) / 18446744073709551616 from f1.symm, r2, bd_s]
theorem c_takeSorted (hw : WF d) {b A B s : Nat} {CA CB' : Nat → Nat} {P : Nat → Nat → Prop} (hs : SX d A B s CA CB') (hq : QX d b A B CA CB' q) (hsh : sh d A B ≠ 0) (h : RMin q s P) : ∃ q', f0_takeSorted (nI A) (nI B) (nI (tz (sh d A B))) q = some q' ∧ frR s q q' ∧ RMin q' s (fun l x => P l x ∨ Of3 d b CA CB' A B l x) := by
  obtain ⟨tA, tB, A1, B1, pA, pB, hsum, hor, hAs, hBs, s64, p6, rA, rB⟩ := hs
  obtain ⟨w1, w2, w3, w4, w5, w6, w7⟩ := hq
  have hA6 := s_lt hw tA
  have hB6 := s_lt hw tB
  have htz := tz_lt (sh_lt hw A B)
  have gwA := wl_GV (b := b) hw tA htz rA
  have gwB := wl_GV (b := b) hw tB htz rB
  have hO : Of3 d b CA CB' A B 8 (cmb 10 (nk A) (nk B) (wl d b CA A (tz (sh d A B))) (wl d b CB' B (tz (sh d A B)))) := ⟨hsh, Or.inr rfl, rfl⟩
  have gx := Of3_GV (s := s) hw tA tB pA pB hsum p6 rA rB hO
  obtain ⟨e1, e2, e3⟩ := cmb_div (w := 10) pA pB (by omega) (by decide) gwA gwB
  obtain ⟨cA1, cA2⟩ := c_for hw A1 tA htz rA w1 w5
  obtain ⟨cB1, cB2⟩ := c_for hw B1 tB htz rB w2 w6
  obtain ⟨q2, r2, fr2, m2⟩ := c_give s64 (by omega) p6 (show tz (sh d A B) < 9 by omega) gx h
  refine ⟨q2, ?_, fr2, RMin_ext m2 (fun l x _ => ⟨fun y => y.imp_right (fun ⟨y1, y2⟩ => ⟨hsh, y1, y2⟩), fun y => y.imp_right (fun ⟨_, y1, y2⟩ => ⟨y1, y2⟩)⟩)⟩
  have hor2 : nI A ||| nI B = nI s := by rw [or_nI (by omega) (by omega), hor]
  unfold f0_takeSorted
  rw [cA1, bd_s, cB1, bd_s, nI_add, bn_e, cA2, bd_s, cB2, bd_s, li10, c_keyOfStep hA6 hB6 pA pB (by omega) (by decide) (GV_key pA gwA) (GV_key pB gwB), bd_s, hor2, ← e1, ← e2, r2, bd_s]
/-- all steps of a set -/
theorem c_takeSteps (hw : WF d) (hC : RC d q) (hN : 1000 ≤ N) {b sp s : Nat} {C : Nat → Nat → Nat} (hsp : sp ≤ 1) (hs1 : 1 ≤ s) (hsT : s < 2 ^ dT d) (hrow : ∀ t, 1 ≤ t → t < s → andn t s = 0 → RG (C t) t ∧ RowC q t (C t) ∧ ar q 24 t = nI (pgs d t b) ∧ ar q 25 t = nI (srb d b t)) (h : RowC q s (fun _ => INF)) : ∃ q', f0_takeSteps N (nI s) (nI sp) q = some q' ∧ frR s q q' ∧ RMin q' s (fun l x => ∃ A, VL sp s A ∧ OfA d b (C A) (C (s - A)) A (s - A) l x) := by
  have hs6 := s_lt hw hsT
  have p6 := (pc6 hs6).1
  obtain ⟨q', ⟨g1, g2⟩, hrun⟩ := loop_st (fun n (p : Int32 × Int32 × Int32 × SS) => f0_takeSteps_l2 N n p.1 p.2.1 p.2.2.1 p.2.2.2) (fun k p => f0_takeSteps_l2_B N (fun x1 x2 x3 x4 => k (x1, x2, x3, x4)) p.1 p.2.1 p.2.2.1 p.2.2.2) (fun n p => rfl) (fun A q => (nI s, nI sp, nI A, q)) (fun m q' => frR s q q' ∧ RMin q' s (fun l x => ∃ A, A < m ∧ VL sp s A ∧ OfA d b (C A) (C (s - A)) A (s - A) l x)) 1 s (fun q' => some q') (by
    rintro A q1 hA1 hAs ⟨g1, g2⟩
    have hC1 := hC.same g1.same
    have a1 : andn s A < 64 := Nat.xor_lt_two_pow (n := 6) hs6 (Nat.lt_of_le_of_lt Nat.and_le_left hs6)
    have a2 : andn A s < 64 := Nat.xor_lt_two_pow (n := 6) (show A < 2 ^ 6 by omega) (Nat.lt_of_le_of_lt Nat.and_le_left (show A < 2 ^ 6 by omega))
    have e1 : nI s &&& (nI A ^^^ (-1)) = nI (andn s A) := andn_nI (by omega) (by omega)
    have e2 : nI A &&& (nI s ^^^ (-1)) = nI (andn A s) := andn_nI (by omega) (by omega)
    have pR := pc_le (s := andn s A)
    have hun : ∀ k, f0_takeSteps_l2_B N k (nI s) (nI sp) (nI A) q1 = if andn A s = 0 ∧ (sp = 0 ∨ pc (andn s A) = 1) then (bd (f0_takeLoops N (nI A) (nI (andn s A)) q1) fun q_51 => bd (f7_lettersOfSet N q_51 (nI A)) fun r_59 => bd (f7_lettersOfSet N q_51 (nI (andn s A))) fun r_68 => bn (r_59 &&& r_68) fun x6_72 => if x6_72 = 0 then k (nI s) (nI sp) (nI (A + 1)) q_51 else (bd (f0_takeParts (nI A) (nI (andn s A)) q_51) fun q_83 => bd (fJ6_numberOfTrailingZeros x6_72) fun r_92 => bd (f0_takeSorted (nI A) (nI (andn s A)) r_92 q_83) fun q_95 => k (nI s) (nI sp) (nI (A + 1)) q_95)) else k (nI s) (nI sp) (nI (A + 1)) q1 := by
      intro k
      unfold f0_takeSteps_l2_B f0_takeSteps_b27 f0_takeSteps_b32 f0_takeSteps_b98
      rw [if_neg (nI_ge hAs (by omega)), e1, bn_e, e2, nI_s, bitCount_ok (by omega), bd_s, if_neg (show ¬ (1 : Int32) = 0 by decide), if_pos (show (0 : Int32) = 0 from rfl)]
      simp only [bn_e]
      by_cases c1 : andn A s = 0
      · have hz : nI (andn A s) = 0 := by rw [c1]; rfl
        rw [if_pos hz, if_pos hz]
        by_cases c2 : sp = 0
        · rw [if_pos (show nI sp = 0 by rw [c2]; rfl), if_pos (show andn A s = 0 ∧ (sp = 0 ∨ pc (andn s A) = 1) from ⟨c1, Or.inl c2⟩)]
        · rw [if_neg (show ¬ nI sp = 0 from nz c2 (by omega))]
          by_cases c3 : pc (andn s A) = 1
          · rw [if_pos (show nI (pc (andn s A)) = 1 by rw [c3]; rfl), if_pos (show andn A s = 0 ∧ (sp = 0 ∨ pc (andn s A) = 1) from ⟨c1, Or.inr c3⟩)]
          · rw [if_neg (show ¬ nI (pc (andn s A)) = 1 from fun e => c3 ((nI_eq (b := 1) (by omega) (by decide)).mp e)), if_neg (show ¬ (andn A s = 0 ∧ (sp = 0 ∨ pc (andn s A) = 1)) from fun z => z.2.elim c2 c3)]
      · have hz : ¬ nI (andn A s) = 0 := nz c1 (by omega)
        rw [if_neg hz, if_neg hz, if_neg (show ¬ (andn A s = 0 ∧ (sp = 0 ∨ pc (andn s A) = 1)) from fun z => c1 z.1), ite_self, ite_self]
    dsimp only
    by_cases hv : VL sp s A
    · obtain ⟨f1, f2, f3, f4, f5, f6, f7⟩ := vl_facts hs6 hv.1 hv.2.1 hv.2.2.1
      have hB1 : 1 ≤ s - A := by omega
      obtain ⟨rA, wA, pgA, srA⟩ := hrow A hA1 hAs hv.2.2.1
      obtain ⟨rB, wB, pgB, srB⟩ := hrow (s - A) hB1 (by omega) f7
      have tA : A < 2 ^ dT d := by omega
      have tB : s - A < 2 ^ dT d := by omega
      have hSX : SX d A (s - A) s (C A) (C (s - A)) := ⟨tA, tB, hA1, hB1, f5, f6, f4, f2, by omega, by omega, hs6, p6, rA, rB⟩
      have hQX0 : QX d b A (s - A) (C A) (C (s - A)) q := ⟨wA, wB, pgA, pgB, srA, srB, hC.2.2.2.1⟩
      have hQX := hQX0.fr (s := s) (by omega) (by omega) g1
      obtain ⟨q2, r2, fr2, m2⟩ := c_takeLoops hw hN hSX hQX g2
      have fr12 := g1.tr fr2
      have hC2 := hC.same fr12.same
      have hQ2 := hQX0.fr (s := s) (by omega) (by omega) fr12
      have l1 := c_lettersOfSet (N := N) hw hC2 hN (s := A) (by omega)
      have l2 := c_lettersOfSet (N := N) hw hC2 hN (s := s - A) (by omega)
      have hl1 := lS_lt hw A
      have hl2 := lS_lt hw (s - A)
      have hand : nI (lS d A) &&& nI (lS d (s - A)) = nI (sh d A (s - A)) := and_nI (by omega) (by omega)
      have hsl := sh_lt hw A (s - A)
      have hcond : andn A s = 0 ∧ (sp = 0 ∨ pc (andn s A) = 1) := ⟨hv.2.2.1, by rw [f1]; exact hv.2.2.2⟩
      by_cases c : sh d A (s - A) = 0
      · refine ⟨q2, ⟨fr12, RMin_ext m2 (fun l x _ => ⟨fun y => ?_, fun y => ?_⟩)⟩, fun k => ?_⟩
        · rcases y with ⟨A', y1, y2⟩ | y
          · exact ⟨A', by omega, y2⟩
          · exact ⟨A, by omega, hv, Or.inl y⟩
        · obtain ⟨A', y1, y2, y3⟩ := y
          by_cases e : A' = A
          · subst e
            rcases y3 with y3 | y3 | y3
            · exact Or.inr y3
            · exact absurd c y3.1
            · exact absurd c y3.1
          · exact Or.inl ⟨A', by omega, y2, y3⟩
        · rw [hun, if_pos hcond, f1, r2, bd_s, l1, bd_s, l2, bd_s, hand, bn_e, if_pos (by rw [c]; rfl)]
      · obtain ⟨q3, r3, fr3, m3⟩ := c_takeParts hw hSX hQ2 c m2
        have fr13 := fr12.tr fr3
        have hQ3 := hQX0.fr (s := s) (by omega) (by omega) fr13
        obtain ⟨q4, r4, fr4, m4⟩ := c_takeSorted hw hSX hQ3 c m3
        refine ⟨q4, ⟨fr13.tr fr4, RMin_ext m4 (fun l x _ => ⟨fun y => ?_, fun y => ?_⟩)⟩, fun k => ?_⟩
        · rcases y with ((⟨A', y1, y2⟩ | y) | y) | y
          · exact ⟨A', by omega, y2⟩
          · exact ⟨A, by omega, hv, Or.inl y⟩
          · exact ⟨A, by omega, hv, Or.inr (Or.inl y)⟩
          · exact ⟨A, by omega, hv, Or.inr (Or.inr y)⟩
        · obtain ⟨A', y1, y2, y3⟩ := y
          by_cases e : A' = A
          · subst e
            rcases y3 with y3 | y3 | y3
            · exact Or.inl (Or.inl (Or.inr y3))
            · exact Or.inl (Or.inr y3)
            · exact Or.inr y3
          · exact Or.inl (Or.inl (Or.inl ⟨A', by omega, y2, y3⟩))
        · rw [hun, if_pos hcond, f1, r2, bd_s, l1, bd_s, l2, bd_s, hand, bn_e, if_neg (nz c (by omega)), r3, bd_s, ntz_ok (by omega) hsl, bd_s, r4, bd_s]
    · refine ⟨q1, ⟨g1, RMin_ext g2 (fun l x _ => ⟨fun ⟨A', y1, y2⟩ => ⟨A', by omega, y2⟩, fun ⟨A', y1, y2, y3⟩ => ⟨A', ?_, y2, y3⟩⟩)⟩, fun k => ?_⟩
      · by_cases e : A' = A
        · subst e
          exact absurd y2 hv
        · omega
      · rw [hun, if_neg]
        intro z
        obtain ⟨f1, -⟩ := vl_facts hs6 hA1 hAs z.1
        rw [f1] at z
        exact hv ⟨hA1, hAs, z⟩) (by
    rintro q1 - k
    dsimp only
    unfold f0_takeSteps_l2_B
    rw [if_pos (nI_le (Nat.le_refl _) (by omega))]) N 1 q (by omega) (by omega) (by omega) ⟨frR.rf, fun l x _ hx => by
      obtain ⟨A, a1, a2, -⟩ := hx
      have := a2.1
      omega, fun _ => INF, h, fun l hl => isMin_no (fun x ⟨A, a1, a2, _⟩ => by
      have := a2.1
      omega)⟩
  refine ⟨q', hrun, g1, RMin_ext g2 (fun l x _ => ⟨fun ⟨A, a1, a2⟩ => ⟨A, a2⟩, fun ⟨A, a2⟩ => ⟨A, a2.1.2.1, a2⟩⟩)⟩
theorem c_forget (hN : 1000 ≤ N) {s : Nat} (hs : s < 64) : ∃ q', f0_forget N (nI s) q = some q' ∧ frR s q q' ∧ RowC q' s (fun _ => INF) := by
  obtain ⟨q', ⟨g1, g2⟩, hrun⟩ := loop_st (fun n (p : Int32 × Int32 × SS) => f0_forget_l2 N n p.1 p.2.1 p.2.2) (fun k p => f0_forget_l2_B N (fun x1 x2 x3 => k (x1, x2, x3)) p.1 p.2.1 p.2.2) (fun n p => rfl) (fun j q => (nI s, nI j, q)) (fun j q' => frR s q q' ∧ ∀ l, l < j → ar q' 22 (9 * s + l) = -1) 0 9 (fun q' => some q') (by
    rintro j q1 - hj ⟨g1, g2⟩
    refine ⟨sa q1 22 (9 * s + j) (-1), ⟨g1.tr ⟨fun _ => rfl, fun k hk => gk _ _ _ _ hk, fun m hm => ⟨gi _ _ _ _ (by omega), rfl⟩⟩, fun l hl => ?_⟩, fun k => ?_⟩
    · by_cases e : l = j
      · subst e; rw [ga]
      · rw [gi _ _ _ _ (by omega)]; exact g2 l (by omega)
    · dsimp only
      unfold f0_forget_l2_B
      rw [if_neg (show ¬ (9 : Int32) ≤ nI j from nI_ge (b := 9) hj (by decide)), li9, pk_mul, nI_add, show s * 9 + j = 9 * s + j by omega, ck_nI (by omega) (by decide), ix_nI (by omega), bn_e, nI_s, bn_e]) (by
    rintro q1 - k
    dsimp only
    unfold f0_forget_l2_B
    rw [if_pos (show (9 : Int32) ≤ nI 9 by decide)]) N 0 q (by omega) (by omega) (by omega) ⟨frR.rf, fun l hl => by omega⟩
  exact ⟨q', hrun, g1, fun l hl => Or.inl ⟨rfl, g2 l hl⟩⟩
theorem c_takeTable (hw : WF d) (hC : RC d q) (hN : 1000 ≤ N) {b s : Nat} (hsT : s < 2 ^ dT d) (h1 : pc s = 1) (e24 : ar q 24 s = nI (pgs d s b)) (h : RowC q s (fun _ => INF)) : ∃ q', f0_takeTable N (nI s) q = some q' ∧ frR s q q' ∧ RMin q' s (fun l x => (l = 8 ∨ l + 1 = sb d (tz s)) ∧ x = tval d b s) := by
  have hs6 := s_lt hw hsT
  have h2 := (pc1 hs6).mp h1
  have htT : tz s < dT d := bit_lt hsT (by rw [show s.testBit (tz s) = (2 ^ tz s).testBit (tz s) from by rw [← h2.1], Nat.testBit_two_pow_self])
  have hs0 : 0 < s := by rw [h2.1]; exact Nat.two_pow_pos _
  have hsb := sb_le d (tz s)
  have gx := tval_GV (b := b) hw hsT h1
  have hp := pgs_20 (b := b) hw hsT
  have v1 : tval d b s / 18446744073709551616 = pgs d s b := by unfold tval; omega
  have v2 : tval d b s % 18446744073709551616 = tz s + 2 := by unfold tval; omega
  have h0 : RMin q s (fun _ _ => False) := ⟨fun _ _ _ z => z.elim, fun _ => INF, h, fun _ _ => isMin_no (fun _ z => z)⟩
  have key : ∀ j, j < 9 → (∀ l, l < 9 → ((l = j ∨ l = 8) ↔ (l = 8 ∨ l + 1 = sb d (tz s)))) → ∃ q', f0_takeTable_b27 N (nI s) (nI (tz s)) (nI j) (nI s) q = some q' ∧ frR s q q' ∧ RMin q' s (fun l x => (l = 8 ∨ l + 1 = sb d (tz s)) ∧ x = tval d b s) := by
    intro j hj hl
    obtain ⟨q2, r2, fr2, m2⟩ := c_give hs6 (by omega) (by omega) hj gx h0
    refine ⟨q2, ?_, fr2, RMin_ext m2 (fun l x hl9 => ⟨fun y => ?_, fun y => Or.inr ⟨(hl l hl9).mpr y.1, y.2⟩⟩)⟩
    · unfold f0_takeTable_b27
      rw [ck_nI hs6 (by decide), ix_nI (by omega), e24, li2, nI_add, i64_nI (by omega), show 2 + tz s = tz s + 2 by omega, ← v1, ← v2, r2, bd_s]
    · have y := y.resolve_left id
      exact ⟨(hl l hl9).mp y.1, y.2⟩
  unfold f0_takeTable
  rw [ntz_ok hs0 (by omega), bd_s, c_sortedLetter hw hC hN htT, bd_s]
  by_cases c : sb d (tz s) = 0
  · rw [c, if_pos (show nI 0 - 1 = -1 by decide)]
    obtain ⟨q', k1, k2, k3⟩ := key 8 (by decide) (fun l hl => by omega)
    rw [c] at k3
    exact ⟨q', k1, k2, k3⟩
  · obtain ⟨j, hj⟩ : ∃ j, sb d (tz s) = j + 1 := ⟨sb d (tz s) - 1, by omega⟩
    rw [hj, nI_p, if_neg (nI_m1 (by omega))]
    obtain ⟨q', k1, k2, k3⟩ := key j (by omega) (fun l hl => by omega)
    rw [hj] at k3
    exact ⟨q', k1, k2, k3⟩
/-- the chooser's own cells -/
def frH (q q' : SS) : Prop := (∀ j, fi q' j = fi q j) ∧ ∀ k, k < 12 ∨ (16 ≤ k ∧ k < 22) ∨ 26 ≤ k → ar q' k = ar q k
theorem frH.rf {q : SS} : frH q q := ⟨fun _ => rfl, fun _ _ => rfl⟩
theorem frH.tr {a b c : SS} (h : frH a b) (g : frH b c) : frH a c := ⟨fun k => (g.1 k).trans (h.1 k), fun k hk => (g.2 k hk).trans (h.2 k hk)⟩
theorem frH.same {a b : SS} (h : frH a b) : sameC a b := ⟨fun k _ => h.1 k, fun k hk => h.2 k (by omega)⟩
theorem frS.H {a b : SS} (h : frS a b) : frH a b := ⟨h.1, fun k hk => h.2.1 k (by omega) (by omega) (by omega) (by omega)⟩
theorem frR.H {s : Nat} {a b : SS} (h : frR s a b) : frH a b := ⟨h.1, fun k hk => h.2.1 k (by omega)⟩
def uR (C : Nat → Nat → Nat) (s : Nat) (V : Nat → Nat) : Nat → Nat → Nat := fun t => if t = s then V else C t
theorem uR_self (C : Nat → Nat → Nat) (s : Nat) (V : Nat → Nat) : uR C s V s = V := if_pos rfl
theorem uR_ne {C : Nat → Nat → Nat} {s t : Nat} {V : Nat → Nat} (h : t ≠ s) : uR C s V t = C t := if_neg h
def rows (d : DB) (b set m : Nat) (C : Nat → Nat → Nat) (q : SS) : Prop := ∀ t, 1 ≤ t → t < m → andn t set = 0 → RowC q t (C t) ∧ ar q 24 t = nI (pgs d t b) ∧ ar q 25 t = nI (srb d b t)
theorem c_choose (hw : WF d) (hC : RC d q) (hN : 1000 ≤ N) {b sp set : Nat} (hb : b ≤ 1) (hsp : sp ≤ 1) (hs1 : 1 ≤ set) (hsT : set < 2 ^ dT d) : ∃ q' C, f0_choose N (nI set) (nI sp) (nI b) q = some q' ∧ frH q q' ∧ SpC d b sp set (set + 1) C ∧ rows d b set (set + 1) C q' := by
  have hs6 := s_lt hw hsT
  have hm := hw.2.2.2.2.2.2.1
  have hm9 := hw.2.2.2.2.2.2.2.1
  obtain ⟨q', ⟨g1, C, g2, g3⟩, hrun⟩ := loop_st (fun n (p : Int32 × Int32 × Int32 × Int32 × SS) => f0_choose_l3 N n p.1 p.2.1 p.2.2.1 p.2.2.2.1 p.2.2.2.2) (fun k p => f0_choose_l3_B N (fun x1 x2 x3 x4 x5 => k (x1, x2, x3, x4, x5)) p.1 p.2.1 p.2.2.1 p.2.2.2.1 p.2.2.2.2) (fun n p => rfl) (fun s q => (nI set, nI sp, nI b, nI s, q)) (fun m q' => frH q q' ∧ ∃ C, SpC d b sp set m C ∧ rows d b set m C q') 1 (set + 1) (fun q' => some q') (by
    rintro s q1 h1 h2 ⟨g1, C, g2, g3⟩
    have hC1 := hC.same g1.same
    have s6 : s < 64 := by omega
    have e1 : nI s &&& (nI set ^^^ (-1)) = nI (andn s set) := andn_nI (by omega) (by omega)
    have a1 : andn s set < 64 := Nat.xor_lt_two_pow (n := 6) s6 (Nat.lt_of_le_of_lt Nat.and_le_left s6)
    have p6 := (pc6 s6).1
    dsimp only
    by_cases c : andn s set = 0
    · have sT := andn_lt c hsT
      obtain ⟨q2, r2, f2⟩ := c_pagesOf (N := N) hw hC1 hN h1 sT hb
      have hp := pgs_20 (b := b) hw sT
      obtain ⟨q3, hq3⟩ : ∃ x, x = sa q2 24 s (nI (pgs d s b)) := ⟨_, rfl⟩
      obtain ⟨q4, hq4⟩ : ∃ x, x = sa q3 25 s (nI (srb d b s)) := ⟨_, rfl⟩
      have f24 : frH q2 q4 := by
        rw [hq4, hq3]
        exact ⟨fun _ => rfl, fun k hk => by rw [gk _ _ _ _ (by omega), gk _ _ _ _ (by omega)]⟩
      have f04 := (g1.tr f2.H).tr f24
      obtain ⟨q5, r5, f5, w5⟩ := c_forget (N := N) (q := q4) hN s6
      have f05 := f04.tr f5.H
      have hC5 := hC.same f05.same
      have h3 : f7_memory q3 = some (nI (dM d)) := by
        unfold f7_memory
        rw [hq3, fi_sa, f2.1, hC1.2.2.2.1]
      have e24 : ar q5 24 s = nI (pgs d s b) := by rw [f5.2.1 24 (by decide), hq4, gk _ _ _ _ (by decide), hq3, ga]
      have e25 : ar q5 25 s = nI (srb d b s) := by rw [f5.2.1 25 (by decide), hq4, ga]
      have old : rows d b set s C q5 := fun t t1 t2 t3 => by
        obtain ⟨o1, o2, o3⟩ := g3 t t1 t2 t3
        refine ⟨f5.row (by omega) (fun l hl => cellC_same (o1 l hl) ?_ ?_), ?_, ?_⟩
        · rw [hq4, gk _ _ _ _ (by decide), hq3, gk _ _ _ _ (by decide), f2.2.1 22 (by decide) (by decide) (by decide) (by decide)]
        · rw [hq4, lo_sa, hq3, lo_sa, f2.2.2]
        · rw [f5.2.1 24 (by decide), hq4, gk _ _ _ _ (by decide), hq3, gi _ _ _ _ (by omega), f2.2.1 24 (by decide) (by decide) (by decide) (by decide), o2]
        · rw [f5.2.1 25 (by decide), hq4, gi _ _ _ _ (by omega), hq3, gk _ _ _ _ (by decide), f2.2.1 25 (by decide) (by decide) (by decide) (by decide), o3]
      have rg := SpC_RG hw hsT g2
      obtain ⟨q6, r6, f6, m6⟩ : ∃ q6, (if nI (pc s) = 1 then f0_takeTable N (nI s) q5 else f0_takeSteps N (nI s) (nI sp) q5) = some q6 ∧ frR s q5 q6 ∧ RMin q6 s (OfC d b sp C s) := by
        by_cases cp : pc s = 1
        · obtain ⟨q6, k1, k2, k3⟩ := c_takeTable (N := N) hw hC5 hN sT cp e24 w5
          refine ⟨q6, by rw [cp, if_pos (show nI 1 = 1 from rfl)]; exact k1, k2, RMin_ext k3 (fun l x _ => ⟨fun y => Or.inl ⟨cp, y⟩, fun y => ?_⟩)⟩
          rcases y with y | y
          · exact y.2
          · exact absurd cp y.1
        · obtain ⟨q6, k1, k2, k3⟩ := c_takeSteps (N := N) (C := C) hw hC5 hN hsp h1 sT (fun t t1 t2 t3 => by
            have t4 := andn_tr t3 c
            obtain ⟨o1, o2, o3⟩ := old t t1 t2 t4
            exact ⟨rg (t + 1) t (by omega) t1 t2 t4, o1, o2, o3⟩) w5
          refine ⟨q6, by rw [if_neg (show ¬ nI (pc s) = 1 from fun e => cp ((nI_eq (b := 1) (by omega) (by decide)).mp e))]; exact k1, k2, RMin_ext k3 (fun l x _ => ⟨fun y => Or.inr ⟨cp, y⟩, fun y => ?_⟩)⟩
          rcases y with y | y
          · exact absurd y.1 cp
          · exact y.2
      obtain ⟨-, V, v1, v2⟩ := m6
      have cong : ∀ t l x, t ≤ s → (OfC d b sp (uR C s V) t l x ↔ OfC d b sp C t l x) := by
        intro t l x ht
        unfold OfC
        constructor
        · rintro (y | ⟨y1, A, y2, y3⟩)
          · exact Or.inl y
          · refine Or.inr ⟨y1, A, y2, ?_⟩
            have := y2.1
            have := y2.2.1
            rw [uR_ne (by omega), uR_ne (by omega)] at y3
            exact y3
        · rintro (y | ⟨y1, A, y2, y3⟩)
          · exact Or.inl y
          · refine Or.inr ⟨y1, A, y2, ?_⟩
            have := y2.1
            have := y2.2.1
            rw [uR_ne (by omega), uR_ne (by omega)]
            exact y3
      refine ⟨q6, ⟨f05.tr f6.H, uR C s V, fun t t1 t2 t3 l hl => ?_, fun t t1 t2 t3 => ?_⟩, fun k => ?_⟩
      · by_cases e : t = s
        · subst e
          rw [uR_self]
          exact isMin_ext (v2 l hl) (fun x => (cong t l x (Nat.le_refl _)).symm)
        · rw [uR_ne e]
          exact isMin_ext (g2 t t1 (by omega) t3 l hl) (fun x => (cong t l x (by omega)).symm)
      · by_cases e : t = s
        · subst e
          rw [uR_self, f6.2.1 24 (by decide), f6.2.1 25 (by decide)]
          exact ⟨v1, e24, e25⟩
        · rw [uR_ne e, f6.2.1 24 (by decide), f6.2.1 25 (by decide)]
          obtain ⟨o1, o2, o3⟩ := old t t1 (by omega) t3
          exact ⟨f6.row e o1, o2, o3⟩
      · unfold f0_choose_l3_B f0_choose_b97
        rw [if_neg (show ¬ (64 : Int32) ≤ nI s from nI_ge (b := 64) s6 (by decide)), if_neg (nI_nlt (by omega) (by omega)), e1, c, if_pos (show nI 0 = 0 from rfl), r2, bd2_s, ck_nI s6 (by decide), ix_nI (by omega), bn_e, ← hq3, ck_nI s6 (by decide), h3, bd_s, show ar q3 24 s = nI (pgs d s b) from by rw [hq3, ga], c_sorting hN hm hm9 (by omega), bd_s, ck_nI s6 (by decide), bn_e, show sa q3 25 s (nI (srt (pgs d s b) (dM d))) = q4 from hq4.symm, r5, bd_s, bitCount_ok (by omega), bd_s, nI_s]
        simp only [bn_e]
        by_cases cp : nI (pc s) = 1
        · rw [if_pos cp] at r6 ⊢
          rw [r6, bd_s]
        · rw [if_neg cp] at r6 ⊢
          rw [r6, bd_s]
    · refine ⟨q1, ⟨g1, C, fun t t1 t2 t3 => g2 t t1 ?_ t3, fun t t1 t2 t3 => g3 t t1 ?_ t3⟩, fun k => ?_⟩
      · by_cases e : t = s
        · subst e; exact absurd t3 c
        · omega
      · by_cases e : t = s
        · subst e; exact absurd t3 c
        · omega
      · unfold f0_choose_l3_B f0_choose_b97
        rw [if_neg (show ¬ (64 : Int32) ≤ nI s from nI_ge (b := 64) s6 (by decide)), if_neg (nI_nlt (by omega) (by omega)), e1, if_neg (nz c (by omega)), nI_s, bn_e]) (by
    rintro q1 - k
    dsimp only
    unfold f0_choose_l3_B
    rw [if_pos (show nI set < nI (set + 1) from nI_lt (by omega) (by omega)), ite_self]) N 1 q (by omega) (by omega) (by omega) ⟨frH.rf, fun _ _ => 0, fun t t1 t2 => by omega, fun t t1 t2 => by omega⟩
  exact ⟨q', C, hrun, g1, g2, g3⟩
end CChoose
