/-! the judge's steps -/
section Judge
/-- can all steps of a text be done: the sets that are held, the ways that wait -/
def evL (d : DB) : List Nat → List Nat → List Nat → Bool → Bool
  | [], _, _, ok => ok
  | c :: l, ss, ws, ok => if c = 41 then (match ss, ws with
      | B :: A :: ss', w :: ws' => evL d l ((A ||| B) :: ss') ws' (ok && may d w A B)
      | _, _ => false)
    else if c = 40 then evL d l ss ws ok
    else if c < 60 then evL d l (2 ^ (c - 48) :: ss) ws ok
    else evL d l ss (c :: ws) ok
def stk (h : Nat) (S : Nat → Nat) (ss : List Nat) : Prop := ss.length = h ∧ ∀ i, i < h → S i = mj ss (h - 1 - i)
theorem stk_push {h x : Nat} {S : Nat → Nat} {ss : List Nat} (g : stk h S ss) : stk (h + 1) (uE S h x) (x :: ss) := by
  refine ⟨by rw [List.length_cons, g.1], fun i hi => ?_⟩
  by_cases e : i = h
  · subst e
    rw [uE_self, show i + 1 - 1 - i = 0 by omega]
    rfl
  · rw [uE_ne e, g.2 i (by omega), show h + 1 - 1 - i = (h - 1 - i) + 1 by omega]
    rfl
theorem stk_pop {m : Nat} {W : Nat → Nat} {ws : List Nat} (g : stk (m + 1) W ws) : ∃ ws', ws = W m :: ws' ∧ stk m W ws' := by
  cases ws with
  | nil => exact absurd g.1 (by show ¬ 0 = m + 1; omega)
  | cons a ws =>
    have h1 : ws.length = m := Nat.succ.inj g.1
    have h2 : W m = a := by
      have := g.2 m (by omega)
      rw [show m + 1 - 1 - m = 0 by omega] at this
      exact this
    refine ⟨ws, by rw [h2], h1, fun i hi => ?_⟩
    have := g.2 i (by omega)
    rw [show m + 1 - 1 - i = (m - 1 - i) + 1 by omega] at this
    exact this
theorem stk_join {n x : Nat} {S : Nat → Nat} {ss : List Nat} (g : stk (n + 2) S ss) : ∃ ss', ss = S (n + 1) :: S n :: ss' ∧ stk (n + 1) (uE S n x) (x :: ss') := by
  obtain ⟨s1, e1, g1⟩ := stk_pop g
  obtain ⟨s2, e2, g2⟩ := stk_pop g1
  exact ⟨s2, by rw [e1, e2], stk_push g2⟩
variable {N : Nat} {d : DB} {q : SS}
theorem c_sortingUnless (hw : WF d) (hC : RC d q) (hN : 1000 ≤ N) {i l o p : Nat} (hi : i < 6) (hl : l < 8) (ho : o ≤ 8) (hp : p ≤ 262144) (e19 : ar q 19 i = nI o - 1) (e20 : ar q 20 i = nI p) : f2_sortingUnless N q (nI i) (nI l) = some (nI (if o = l + 1 then 0 else srt p (dM d))) := by
  have hm := hw.2.2.2.2.2.2.1
  have hm9 := hw.2.2.2.2.2.2.2.1
  unfold f2_sortingUnless
  rw [if_neg (show ¬ nI i < 0 from nI_nlt (b := 0) (Nat.zero_le _) (by omega)), if_neg (show ¬ (6 : Int32) ≤ nI i from nI_ge (b := 6) hi (by decide)), ck_nI hi (by decide), ix_nI (by omega), e19]
  by_cases h : o = l + 1
  · rw [if_pos (by rw [h, nI_pred]), if_pos h]
    rfl
  · have hne : ¬ nI o - 1 = nI l := fun e => by
      apply h
      have e2 : nI o - 1 + 1 = nI l + 1 := by rw [e]
      rw [pI_s, nI_s] at e2
      exact (nI_eq (by omega) (by omega)).mp e2
    have em : f7_memory q = some (nI (dM d)) := by
      unfold f7_memory
      rw [hC.2.2.2.1]
    rw [if_neg hne, ck_nI hi (by decide), em, bd_s, e20, c_sorting hN hm hm9 (by omega), bd_s, if_neg h]
theorem c_join (hw : WF d) (hC : RC d q) (hN : 1000 ≤ N) {b n m j : Nat} {S O W : Nat → Nat} {K : Nat → Int32} {ok : Bool} (hn : n + 2 ≤ 6) (hm6 : m + 1 ≤ 6) (h : CJ d b (n + 2) (m + 1) S O W K ok j q) (hS : ∀ i, i < n + 2 → 1 ≤ S i ∧ S i < 2 ^ dT d ∧ O i ≤ 8) (hW : W m = 108 ∨ W m = 112 ∨ W m = 115) : ∃ q', f2_joinLastTwo N q = some q' ∧ frW q q' ∧ CJ0 d b (n + 1) m (uE S n (S n ||| S (n + 1))) (uE O n (sto d (W m) (S n) (S (n + 1)) (O n))) W (uK K n (K n + K (n + 1) + nI (stc d (W m) (pgs d (S n) b) (pgs d (S (n + 1)) b) (S n) (S (n + 1)) (O n) (O (n + 1))))) (ok && may d (W m) (S n) (S (n + 1))) (j + 1) q' := by
  obtain ⟨⟨h10, h11, h12, h13, hI, h21⟩, h20⟩ := h
  have hm := hw.2.2.2.2.2.2.1
  have hm9 := hw.2.2.2.2.2.2.2.1
  have hA := hS n (by omega)
  have hB := hS (n + 1) (by omega)
  have hA6 := s_lt hw hA.2.1
  have hB6 := s_lt hw hB.2.1
  have pA := pgs_20 (b := b) hw hA.2.1
  have pB := pgs_20 (b := b) hw hB.2.1
  have hsl := sh_lt hw (S n) (S (n + 1))
  have htz := tz_lt hsl
  have lA := lS_lt hw (S n)
  have lB := lS_lt hw (S (n + 1))
  obtain ⟨q1, hq1⟩ : ∃ x, x = sf (sf q 11 (nI m)) 10 (nI (n + 1)) := ⟨_, rfl⟩
  have f1 : frW q q1 := by rw [hq1]; exact (frW.rf.sf (by omega) _).sf (by omega) _
  have hC1 := hC.same f1.same
  have a1 : ∀ k, ar q1 k = ar q k := fun k => by rw [hq1]; rfl
  obtain ⟨q2, hq2⟩ : ∃ x, x = sa q1 18 n (ar q 18 n + ar q 18 (n + 1)) := ⟨_, rfl⟩
  have f2 : frW q q2 := by rw [hq2]; exact f1.sa (by omega) _ _
  have hC2 := hC.same f2.same
  have a2 : ∀ k, k ≠ 18 → ar q2 k = ar q k := fun k hk => by rw [hq2, gk _ _ _ _ hk, a1]
  have em : f7_memory q2 = some (nI (dM d)) := by
    unfold f7_memory
    rw [hC2.2.2.2.1]
  have i2 : ∀ j, fi q2 j = fi q1 j := fun j => by rw [hq2]; rfl
  have e10 : fi q1 10 = nI (n + 1) := by rw [hq1]; rfl
  have e11 : fi q1 11 = nI m := by rw [hq1]; rfl
  have e12 : fi q1 12 = nI j := by rw [hq1]; exact h12
  have e13 : fi q1 13 = nI ok.toNat := by rw [hq1]; exact h13
  have end260 : ∀ (q3 : SS), f2_joinLastTwo_b260 N (nI n) (nI (n + 1)) q3 = some (sf (sa q3 17 n (ar q3 17 n ||| ar q3 17 (n + 1))) 12 (fi q3 12 + 1)) := fun q3 => by
    unfold f2_joinLastTwo_b260
    rw [ck_nI (by omega) (by decide), ck_nI (by omega) (by decide), ck_nI (by omega) (by decide), ix_nI (by omega), ix_nI (by omega), bn_e, bn_e]
    rfl
  have hor : nI (S n) ||| nI (S (n + 1)) = nI (S n ||| S (n + 1)) := or_nI (by omega) (by omega)
  /- what the last rows leave -/
  have fin : ∀ (q3 : SS) (ok' : Bool) (v : Int32) (o : Nat), frW q q3 → fi q3 10 = nI (n + 1) → fi q3 11 = nI m → fi q3 12 = nI j → fi q3 13 = nI ok'.toNat → ar q3 17 = ar q 17 → ar q3 20 = ar q 20 → ar q3 21 = ar q 21 → (ok' = true → ok = true ∧ ar q3 18 n = v ∧ ar q3 19 n = nI o - 1 ∧ ∀ i, i < n → ar q3 18 i = ar q 18 i ∧ ar q3 19 i = ar q 19 i) → frW q (sf (sa q3 17 n (ar q3 17 n ||| ar q3 17 (n + 1))) 12 (fi q3 12 + 1)) ∧ CJ0 d b (n + 1) m (uE S n (S n ||| S (n + 1))) (uE O n o) W (uK K n v) ok' (j + 1) (sf (sa q3 17 n (ar q3 17 n ||| ar q3 17 (n + 1))) 12 (fi q3 12 + 1)) := by
    intro q3 ok' v o g0 g10 g11 g12 g13 g17 g20 g21 g
    refine ⟨(g0.sa (by omega) _ _).sf (by omega) _, by rw [gg _ _ _ (by decide)]; exact g10, by rw [gg _ _ _ (by decide)]; exact g11, by rw [gf, g12, nI_s], by rw [gg _ _ _ (by decide)]; exact g13, fun i hi => ⟨?_, fun hi2 => ?_, fun hok => ?_⟩, fun i hi => ?_⟩
    · rw [ar_sf]
      by_cases hin : i = n
      · subst hin
        rw [ga, uE_self, g17, (hI i (by omega)).1, (hI (i + 1) (by omega)).1, hor]
      · rw [gi _ _ _ _ hin, uE_ne hin, g17]
        exact (hI i (by omega)).1
    · rw [ar_sf, gk _ _ _ _ (by decide), uE_ne (by omega), g20]
      exact h20 i (by omega)
    · obtain ⟨k0, k1, k2, k3⟩ := g hok
      rw [ar_sf, ar_sf, gk _ _ _ _ (by decide), gk _ _ _ _ (by decide)]
      by_cases hin : i = n
      · subst hin
        rw [uE_self]
        exact ⟨k1.trans (if_pos rfl).symm, k2⟩
      · rw [uE_ne hin, (k3 i (by omega)).1, (k3 i (by omega)).2]
        have := (hI i (by omega)).2.2 k0
        exact ⟨this.1.trans (if_neg hin).symm, this.2⟩
    · rw [ar_sf, gk _ _ _ _ (by decide), g21]
      exact h21 i (by omega)
  have pre : f2_joinLastTwo N q = if nI (W m) = 108 then (bd (f5_loops (nI (pgs d (S n) b)) (nI (pgs d (S (n + 1)) b)) (nI (dM d))) fun r => f2_joinLastTwo_b260 N (nI n) (nI (n + 1)) (sa q2 18 n (ar q2 18 n + r))) else if nI (sh d (S n) (S (n + 1))) = 0 then f2_joinLastTwo_b260 N (nI n) (nI (n + 1)) (sf q2 13 0) else if nI (W m) = 112 then (bd (f5_parts (nI (pgs d (S n) b)) (nI (pgs d (S (n + 1)) b)) (nI (dM d))) fun r => f2_joinLastTwo_b260 N (nI n) (nI (n + 1)) (sa (sa q2 18 n (ar q2 18 n + r)) 19 n (-1))) else (bd (fJ6_numberOfTrailingZeros (nI (sh d (S n) (S (n + 1))))) fun l => bd (f2_sortingUnless N q2 (nI n) l) fun r1 => bd (f2_sortingUnless N q2 (nI (n + 1)) l) fun r2 => f2_joinLastTwo_b260 N (nI n) (nI (n + 1)) (sa (sa q2 18 n (ar q2 18 n + (r1 + r2))) 19 n l)) := by
    unfold f2_joinLastTwo
    rw [h10, if_neg (show ¬ nI (n + 2) < 2 from nI_nlt (b := 2) (by omega) (by omega)), if_neg (show ¬ (6 : Int32) < nI (n + 2) from nI_nlt (a := 6) hn (by decide)), h11, if_neg (show ¬ nI (m + 1) < 1 from nI_nlt (b := 1) (by omega) (by omega)), if_pos (show nI (m + 1) ≤ 6 from nI_le (b := 6) hm6 (by decide)), nI_p, bn_e, gg _ _ _ (show (10 : Nat) ≠ 11 by decide), h10, show nI (n + 2) - 1 = nI (n + 1) from nI_p (n + 1), bn_e, ← hq1, e10, nI_p, bn_e, bn_e, e11, ck_nI (by omega) (by decide), ix_nI (by omega), a1, (hI n (by omega)).1, c_lettersOfSet hw hC1 hN (by omega), bd_s, ck_nI (by omega) (by decide), ix_nI (by omega), (hI (n + 1) (by omega)).1, c_lettersOfSet hw hC1 hN (by omega), bd_s, and_nI (by omega) (by omega), bn_e, ck_nI (by omega) (by decide), ix_nI (by omega), a1, h21 m (by omega), bn_e, ck_nI (by omega) (by decide), ck_nI (by omega) (by decide), ck_nI (by omega) (by decide), a1, bn_e, ← hq2, ck_nI (by omega) (by decide), ck_nI (by omega) (by decide), ck_nI (by omega) (by decide), em, bd_s, a2 20 (by decide), h20 n (by omega), h20 (n + 1) (by omega)]
    have ckn : ∀ k : Option SS, ck (nI n) 6 k = k := fun k => ck_nI (by omega) (by decide)
    have ckm : ∀ k : Option SS, ck (nI (n + 1)) 6 k = k := fun k => ck_nI (by omega) (by decide)
    simp only [ckn, ckm, bn_e, em, bd_s]
    rfl
  rw [pre]
  have hK : ∀ hok : ok = true, ar q2 18 n = K n + K (n + 1) := fun hok => by rw [hq2, ga, ((hI n (by omega)).2.2 hok).1, ((hI (n + 1) (by omega)).2.2 hok).1]
  have h18 : ∀ i, i < n → ar q2 18 i = ar q 18 i := fun i hi => by rw [hq2, gi _ _ _ _ (by omega), a1]
  generalize hwm : W m = wm at *
  rcases hW with rfl | rfl | rfl
  · rw [if_pos (show nI 108 = 108 from rfl), c_loops hm hm9 pA, bd_s, end260]
    rw [show may d 108 (S n) (S (n + 1)) = true from decide_eq_true (Or.inl rfl), Bool.and_true]
    refine ⟨_, rfl, fin _ ok _ _ (f2.sa (by omega) _ _) ?_ ?_ ?_ ?_ ?_ ?_ ?_ (fun hok => ⟨hok, ?_, ?_, fun i hi => ⟨?_, ?_⟩⟩)⟩
    · rw [fi_sa, i2, e10]
    · rw [fi_sa, i2, e11]
    · rw [fi_sa, i2, e12]
    · rw [fi_sa, i2, e13]
    · rw [gk _ _ _ _ (by decide), a2 17 (by decide)]
    · rw [gk _ _ _ _ (by decide), a2 20 (by decide)]
    · rw [gk _ _ _ _ (by decide), a2 21 (by decide)]
    · rw [ga, hK hok]
      rfl
    · rw [gk _ _ _ _ (by decide), a2 19 (by decide), ((hI n (by omega)).2.2 hok).2]
      rfl
    · rw [gi _ _ _ _ (by omega), h18 i hi]
    · rw [gk _ _ _ _ (by decide), a2 19 (by decide)]
  · rw [if_neg (show ¬ nI 112 = 108 by decide)]
    by_cases h0 : sh d (S n) (S (n + 1)) = 0
    · rw [if_pos (by rw [h0]; rfl), end260, show may d 112 (S n) (S (n + 1)) = false from decide_eq_false (fun z => z.elim (by decide) (fun z => z h0)), Bool.and_false]
      refine ⟨_, rfl, fin _ false _ _ (f2.sf (by omega) _) ?_ ?_ ?_ ?_ ?_ ?_ ?_ (fun hok => by cases hok)⟩
      · rw [gg _ _ _ (by decide), i2, e10]
      · rw [gg _ _ _ (by decide), i2, e11]
      · rw [gg _ _ _ (by decide), i2, e12]
      · rw [gf]; rfl
      · rw [ar_sf, a2 17 (by decide)]
      · rw [ar_sf, a2 20 (by decide)]
      · rw [ar_sf, a2 21 (by decide)]
    · rw [if_neg (nz h0 (by omega)), if_pos (show nI 112 = 112 from rfl), c_parts hm hm9 pA pB, bd_s, end260, show may d 112 (S n) (S (n + 1)) = true from decide_eq_true (Or.inr h0), Bool.and_true]
      refine ⟨_, rfl, fin _ ok _ _ ((f2.sa (by omega) _ _).sa (by omega) _ _) ?_ ?_ ?_ ?_ ?_ ?_ ?_ (fun hok => ⟨hok, ?_, ?_, fun i hi => ⟨?_, ?_⟩⟩)⟩
      · rw [fi_sa, fi_sa, i2, e10]
      · rw [fi_sa, fi_sa, i2, e11]
      · rw [fi_sa, fi_sa, i2, e12]
      · rw [fi_sa, fi_sa, i2, e13]
      · rw [gk _ _ _ _ (by decide), gk _ _ _ _ (by decide), a2 17 (by decide)]
      · rw [gk _ _ _ _ (by decide), gk _ _ _ _ (by decide), a2 20 (by decide)]
      · rw [gk _ _ _ _ (by decide), gk _ _ _ _ (by decide), a2 21 (by decide)]
      · rw [gk _ _ _ _ (by decide), ga, hK hok]
        rfl
      · rw [ga]
        rfl
      · rw [gk _ _ _ _ (by decide), gi _ _ _ _ (by omega), h18 i hi]
      · rw [gi _ _ _ _ (by omega), gk _ _ _ _ (by decide), a2 19 (by decide)]
  · rw [if_neg (show ¬ nI 115 = 108 by decide)]
    by_cases h0 : sh d (S n) (S (n + 1)) = 0
    · rw [if_pos (by rw [h0]; rfl), end260, show may d 115 (S n) (S (n + 1)) = false from decide_eq_false (fun z => z.elim (by decide) (fun z => z h0)), Bool.and_false]
      refine ⟨_, rfl, fin _ false _ _ (f2.sf (by omega) _) ?_ ?_ ?_ ?_ ?_ ?_ ?_ (fun hok => by cases hok)⟩
      · rw [gg _ _ _ (by decide), i2, e10]
      · rw [gg _ _ _ (by decide), i2, e11]
      · rw [gg _ _ _ (by decide), i2, e12]
      · rw [gf]; rfl
      · rw [ar_sf, a2 17 (by decide)]
      · rw [ar_sf, a2 20 (by decide)]
      · rw [ar_sf, a2 21 (by decide)]
    · rw [if_neg (nz h0 (by omega)), if_neg (show ¬ nI 115 = 112 by decide), ntz_ok (by omega) hsl, bd_s]
      have hx : ∀ (i : Nat), i < n + 2 → ∃ r, f2_sortingUnless N q2 (nI i) (nI (tz (sh d (S n) (S (n + 1))))) = some (nI r) ∧ (ok = true → r = if O i = tz (sh d (S n) (S (n + 1))) + 1 then 0 else srt (pgs d (S i) b) (dM d)) := by
        intro i hi
        have e20 : ar q2 20 i = nI (pgs d (S i) b) := by rw [a2 20 (by decide), h20 i hi]
        have hpi := pgs_20 (b := b) hw (hS i hi).2.1
        cases hok : ok with
        | true =>
          exact ⟨_, c_sortingUnless hw hC2 hN (by omega) htz (hS i hi).2.2 hpi (by rw [a2 19 (by decide)]; exact ((hI i hi).2.2 hok).2) e20, fun _ => rfl⟩
        | false =>
          by_cases h19 : ar q2 19 i = nI (tz (sh d (S n) (S (n + 1))))
          · refine ⟨0, ?_, fun z => by cases z⟩
            unfold f2_sortingUnless
            rw [if_neg (show ¬ nI i < 0 from nI_nlt (b := 0) (Nat.zero_le _) (by omega)), if_neg (show ¬ (6 : Int32) ≤ nI i from nI_ge (b := 6) (by omega) (by decide)), ck_nI (by omega) (by decide), ix_nI (by omega), if_pos h19]
            rfl
          · refine ⟨srt (pgs d (S i) b) (dM d), ?_, fun z => by cases z⟩
            unfold f2_sortingUnless
            rw [if_neg (show ¬ nI i < 0 from nI_nlt (b := 0) (Nat.zero_le _) (by omega)), if_neg (show ¬ (6 : Int32) ≤ nI i from nI_ge (b := 6) (by omega) (by decide)), ck_nI (by omega) (by decide), ix_nI (by omega), if_neg h19, ck_nI (by omega) (by decide), em, bd_s, e20, c_sorting hN hm hm9 (by omega), bd_s]
      obtain ⟨r1, x1, y1⟩ := hx n (by omega)
      obtain ⟨r2, x2, y2⟩ := hx (n + 1) (by omega)
      rw [x1, bd_s, x2, bd_s, end260, show may d 115 (S n) (S (n + 1)) = true from decide_eq_true (Or.inr h0), Bool.and_true, nI_add]
      refine ⟨_, rfl, fin _ ok _ _ ((f2.sa (by omega) _ _).sa (by omega) _ _) ?_ ?_ ?_ ?_ ?_ ?_ ?_ (fun hok => ⟨hok, ?_, ?_, fun i hi => ⟨?_, ?_⟩⟩)⟩
      · rw [fi_sa, fi_sa, i2, e10]
      · rw [fi_sa, fi_sa, i2, e11]
      · rw [fi_sa, fi_sa, i2, e12]
      · rw [fi_sa, fi_sa, i2, e13]
      · rw [gk _ _ _ _ (by decide), gk _ _ _ _ (by decide), a2 17 (by decide)]
      · rw [gk _ _ _ _ (by decide), gk _ _ _ _ (by decide), a2 20 (by decide)]
      · rw [gk _ _ _ _ (by decide), gk _ _ _ _ (by decide), a2 21 (by decide)]
      · rw [gk _ _ _ _ (by decide), ga, hK hok, y1 hok, y2 hok]
        rfl
      · rw [ga]
        show _ = nI (tz (sh d (S n) (S (n + 1))) + 1) - 1
        rw [nI_p]
      · rw [gk _ _ _ _ (by decide), gi _ _ _ _ (by omega), h18 i hi]
      · rw [gi _ _ _ _ (by omega), gk _ _ _ _ (by decide), a2 19 (by decide)]
theorem c_hold (hw : WF d) (hC : RC d q) (hN : 1000 ≤ N) {b h w t j : Nat} {S O W : Nat → Nat} {K : Nat → Int32} {ok : Bool} (h6 : h < 6) (ht : t < dT d) (g : CJ d b h w S O W K ok j q) : ∃ q', f2_holdTable N (nI t) q = some q' ∧ frW q q' ∧ CJ0 d b (h + 1) w (uE S h (2 ^ t)) (uE O h (sb d t)) W (uK K h (nI (pgs d (2 ^ t) b))) ok j q' := by
  obtain ⟨⟨h10, h11, h12, h13, hI, h21⟩, h20⟩ := g
  have hT := hw.1
  obtain ⟨q1, hq1⟩ : ∃ x, x = sa q 17 h (nI (2 ^ t)) := ⟨_, rfl⟩
  have f1 : frW q q1 := by rw [hq1]; exact frW.rf.sa (by omega) _ _
  have r2 : f7_pagesOfTable q1 (nI t) = some (nI (pgs d (2 ^ t) 0)) := by
    rw [c_pagesOfTable hw (hC.same f1.same) ht]
    unfold pgs
    rw [if_pos (pc_pow (by omega)), tz_pow (by omega)]
  obtain ⟨q3, hq3⟩ : ∃ x, x = sa q1 18 h (nI (pgs d (2 ^ t) 0)) := ⟨_, rfl⟩
  have f3 : frW q q3 := by rw [hq3]; exact f1.sa (by omega) _ _
  have i1 : ∀ j, fi q1 j = fi q j := fun j => by rw [hq1]; rfl
  have i3 : ∀ j, fi q3 j = fi q j := fun j => by rw [hq3, fi_sa, i1]
  refine ⟨sf (sa q3 19 h (nI (sb d t) - 1)) 10 (nI (h + 1)), ?_, (f3.sa (by omega) _ _).sf (by omega) _, rfl, by rw [gg _ _ _ (by decide), fi_sa, i3, h11], by rw [gg _ _ _ (by decide), fi_sa, i3, h12], by rw [gg _ _ _ (by decide), fi_sa, i3, h13], fun i hi => ?_, fun i hi => ?_⟩
  · unfold f2_holdTable
    rw [h10, if_neg (show ¬ nI h < 0 from nI_nlt (b := 0) (Nat.zero_le _) (by omega)), if_pos (show nI h < 6 from nI_lt (b := 6) h6 (by decide)), ck_nI h6 (by decide), ix_nI (by omega), shl1 (by omega), bn_e, ← hq1, r2, bd_s, i1, h10, ck_nI h6 (by decide), ix_nI (by omega), bn_e, ← hq3, c_sortedLetter hw (hC.same f3.same) hN ht, bd_s, i3, h10, ck_nI h6 (by decide), ix_nI (by omega), bn_e, fi_sa, i3, h10, nI_s, bn_e]
  · rw [ar_sf, ar_sf, ar_sf, ar_sf]
    by_cases hin : i = h
    · subst hin
      refine ⟨?_, fun z => by omega, fun hok => ⟨?_, ?_⟩⟩
      · rw [gk _ _ _ _ (by decide), hq3, gk _ _ _ _ (by decide), hq1, ga, uE_self]
      · rw [gk _ _ _ _ (by decide), hq3, ga, pgs_pow (c := b) hw ht]
        exact (if_pos rfl).symm
      · rw [ga, uE_self]
    · have hI' := hI i (by omega)
      have e20 := h20 i (by omega)
      rw [uE_ne hin, uE_ne hin]
      refine ⟨?_, fun _ => ?_, fun hok => ⟨?_, ?_⟩⟩
      · rw [gk _ _ _ _ (by decide), hq3, gk _ _ _ _ (by decide), hq1, gi _ _ _ _ hin, hI'.1]
      · rw [gk _ _ _ _ (by decide), hq3, gk _ _ _ _ (by decide), hq1, gk _ _ _ _ (by decide), e20]
      · rw [gk _ _ _ _ (by decide), hq3, gi _ _ _ _ hin, hq1, gk _ _ _ _ (by decide), (hI'.2.2 hok).1]
        exact (if_neg hin).symm
      · rw [gi _ _ _ _ hin, hq3, gk _ _ _ _ (by decide), hq1, gk _ _ _ _ (by decide), (hI'.2.2 hok).2]
  · rw [ar_sf, gk _ _ _ _ (by decide), hq3, gk _ _ _ _ (by decide), hq1, gk _ _ _ _ (by decide), h21 i hi]
theorem c_way {b h w x j : Nat} {S O W : Nat → Nat} {K : Nat → Int32} {ok : Bool} (h6 : w < 6) (g : CJ d b h w S O W K ok j q) : ∃ q', f2_holdWay (nI x) q = some q' ∧ frW q q' ∧ CJ d b h (w + 1) S O (uE W w x) K ok j q' := by
  obtain ⟨⟨h10, h11, h12, h13, hI, h21⟩, h20⟩ := g
  refine ⟨sf (sa q 21 w (nI x)) 11 (nI (w + 1)), ?_, (frW.rf.sa (by omega) _ _).sf (by omega) _, ⟨by rw [gg _ _ _ (by decide)]; exact h10, rfl, by rw [gg _ _ _ (by decide)]; exact h12, by rw [gg _ _ _ (by decide)]; exact h13, fun i hi => ⟨?_, fun _ => ?_, fun hok => ?_⟩, fun i hi => ?_⟩, fun i hi => ?_⟩
  · unfold f2_holdWay
    rw [h11, if_neg (show ¬ nI w < 0 from nI_nlt (b := 0) (Nat.zero_le _) (by omega)), if_pos (show nI w < 6 from nI_lt (b := 6) h6 (by decide)), ck_nI h6 (by decide), ix_nI (by omega), bn_e, fi_sa, h11, nI_s, bn_e]
  · rw [ar_sf, gk _ _ _ _ (by decide)]; exact (hI i hi).1
  · rw [ar_sf, gk _ _ _ _ (by decide)]; exact h20 i hi
  · rw [ar_sf, ar_sf, gk _ _ _ _ (by decide), gk _ _ _ _ (by decide)]; exact (hI i hi).2.2 hok
  · rw [ar_sf]
    by_cases hin : i = w
    · subst hin; rw [ga, uE_self]
    · rw [gi _ _ _ _ hin, uE_ne hin]; exact h21 i (by omega)
  · rw [ar_sf, gk _ _ _ _ (by decide)]; exact h20 i hi
end Judge
