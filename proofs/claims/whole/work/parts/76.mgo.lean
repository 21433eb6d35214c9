/-! the reference's steps -/
section MGo
variable {N : Nat} {d : DB} {q : SS}
def frG (q q' : SS) : Prop := (∀ j, j < 6 ∨ 10 ≤ j → fi q' j = fi q j) ∧ ∀ k, k ≠ 12 → ar q' k = ar q k
theorem frG.rf {q : SS} : frG q q := ⟨fun _ _ => rfl, fun _ _ => rfl⟩
theorem frG.tr {a b c : SS} (h : frG a b) (g : frG b c) : frG a c := ⟨fun k hk => (g.1 k hk).trans (h.1 k hk), fun k hk => (g.2 k hk).trans (h.2 k hk)⟩
theorem frG.sf {a b : SS} (h : frG a b) {k : Nat} (hk : 6 ≤ k ∧ k ≤ 9) (v : Int32) : frG a (sf b k v) := ⟨fun j hj => by rw [fi_sf, if_neg (by omega)]; exact h.1 j hj, fun k hk => h.2 k hk⟩
theorem frG.sa {a b : SS} (h : frG a b) (i : Nat) (v : Int32) : frG a (sa b 12 i v) := ⟨fun j hj => h.1 j hj, fun k hk => by funext m; rw [ar_sa, if_neg hk, h.2 k hk]⟩
theorem frG.same {a b : SS} (h : frG a b) : sameM a b := ⟨fun k hk => h.1 k (by omega), fun k hk => h.2 k (by omega)⟩
theorem m_endPlan {st : List Nat} {dn : Nat} (hl : st.length ≤ 6) (h6 : fi q 6 = nI st.length) (h9 : fi q 9 = nI dn) (hs : ∀ k, k < st.length → ar q 12 k = nI (mj st (st.length - 1 - k))) : ∃ q', f9_endPlan q = some q' ∧ frG q q' ∧ fi q' 6 = fi q 6 ∧ fi q' 7 = fi q 7 ∧ fi q' 8 = fi q 8 ∧ fi q' 9 = nI (if st.length = 0 then 1 else dn) ∧ ∀ k, k < st.length → ar q' 12 k = nI (mj (endS st) (st.length - 1 - k)) := by
  unfold f9_endPlan
  rw [h6]
  cases st with
  | nil =>
    refine ⟨sf q 9 1, ?_, frG.rf.sf (by omega) _, h6, rfl, rfl, rfl, fun k hk => absurd hk (Nat.not_lt_zero _)⟩
    rw [if_pos (show nI ([] : List Nat).length = 0 from rfl), bn_e]
  | cons a st =>
    rw [List.length_cons] at *
    refine ⟨sa q 12 st.length (nI (a + 1)), ?_, frG.rf.sa _ _, h6, rfl, rfl, ?_, fun k hk => ?_⟩
    · have e := hs st.length (by omega)
      rw [show st.length + 1 - 1 - st.length = 0 by omega] at e
      have e : ar q 12 st.length = nI a := e
      rw [if_neg (nz (show ¬ st.length + 1 = 0 by omega) (by omega)), nI_p, ck_nI (by omega) (by decide), ck_nI (by omega) (by decide), ix_nI (by omega), e, nI_s, bn_e]
    · rw [if_neg (by omega)]; exact h9
    · rw [ar_sa, if_pos rfl]
      by_cases hks : k = st.length
      · rw [if_pos hks, hks, show st.length + 1 - 1 - st.length = 0 by omega]
        rfl
      · rw [if_neg hks, hs k hk]
        obtain ⟨j, hj⟩ : ∃ j, st.length + 1 - 1 - k = j + 1 := ⟨st.length - 1 - k, by omega⟩
        rw [hj]
        rfl
theorem m_go (hw : WF d) (hM : RMk d q) (hN : 1000 ≤ N) {x u dn : Nat} {st : List Nat} (h : PO (dT d) st u dn) (hp : PM st u dn q) (hx : x ≤ 126) : ∃ q', frG q q' ∧ ((stepS (dT d) st u dn x = none ∧ f9_go N (nI x) q = some (0, q')) ∨ ∃ st' u' dn', stepS (dT d) st u dn x = some (st', u', dn') ∧ f9_go N (nI x) q = some (1, q') ∧ PM st' u' dn' q') := by
  have hT := hw.1
  obtain ⟨p6, p7, p8, p9, p12⟩ := hp
  obtain ⟨h1, h2, h3, h4, h5, h6⟩ := h
  have hu64 : u < 64 := Nat.lt_of_lt_of_le h4 (two_pow_T hw)
  have hst6 : st.length ≤ 6 := by omega
  unfold stepS
  by_cases he : endd st dn = 0
  · have hdue : dueS st dn = low st + 1 := by unfold dueS; rw [he]
    have hev : ∀ j, j < st.length → mj st j % 2 = 0 := fun j hj => by
      cases j with
      | zero => cases st with
        | nil => exact absurd hj (Nat.not_lt_zero _)
        | cons a st => exact he
      | succ j => exact (h3 (j + 1) hj).2 (by omega)
    have hdn : dn = 0 := by
      cases st with
      | nil => exact he
      | cons a st => exact h2 (fun z => by cases z)
    have hgo : f9_go N (nI x) q = f9_go_b48 N (nI x) 1 q := by
      unfold f9_go f9_go_b43
      rw [p9, hdn, if_pos (show nI 0 = 0 from rfl), p6]
      cases st with
      | nil => rw [if_pos (show nI ([] : List Nat).length = 0 from rfl)]
      | cons a st =>
        rw [List.length_cons] at *
        have e := p12 st.length (by omega)
        rw [show st.length + 1 - 1 - st.length = 0 by omega] at e
        have e : ar q 12 st.length = nI a := e
        have ha : a ≤ 3 := (h3 0 (by omega)).1
        have ha2 : a % 2 = 0 := he
        rw [if_neg (nz (show ¬ st.length + 1 = 0 by omega) (by omega)), nI_p, ck_nI (by omega) (by decide), ix_nI (by omega), e, ck_nI (by omega) (by decide)]
        rcases (show a = 0 ∨ a = 2 by omega) with rfl | rfl
        · rw [if_pos (show nI 0 = 0 from rfl)]
        · rw [if_neg (show ¬ nI 2 = 0 by decide), if_pos (show nI 2 = 2 from rfl)]
    rw [if_pos he, hgo]
    unfold f9_go_b48
    rw [if_neg (show ¬ (1 : Int32) = 0 by decide)]
    have hout : ∀ y : Nat, y ≤ 126 → ¬ (48 ≤ y ∧ y ≤ 53) → f9_in (nI y).toInt64 48 53 = some 0 := fun y hy hn => m_in_no (lo := 48) (hi := 53) (by decide) (by decide) (by rw [nI_toInt (by omega)]; omega)
    by_cases hx40 : x = 40
    · rw [if_pos hx40, hout x hx (by omega), bd_s, if_pos rfl, hx40]
      have hq1 : frG q (sf (sa (sf q 8 (nI (dueS st dn + 1))) 12 st.length 0) 6 (nI (st.length + 1))) := ((frG.rf.sf (by omega) _).sa _ _).sf (by omega) _
      have hrun : f9_go_b122 N (nI 40) 1 q = if nI (dT d) < nI (pc u + (dueS st dn + 1)) then some (0, sf (sa (sf q 8 (nI (dueS st dn + 1))) 12 st.length 0) 6 (nI (st.length + 1))) else some (1, sf (sa (sf q 8 (nI (dueS st dn + 1))) 12 st.length 0) 6 (nI (st.length + 1))) := by
        unfold f9_go_b122
        rw [if_neg (show ¬ (1 : Int32) = 0 by decide), if_pos (show nI 40 = 40 from rfl), p8, nI_s, bn_e, fi_sf, if_neg (show ¬ (6 : Nat) = 8 by decide), p6, ck_nI (by omega) (by decide), ix_nI (by omega), bn_e, fi_sa, fi_sf, if_neg (show ¬ (6 : Nat) = 8 by decide), p6, nI_s, bn_e, fi_sf, if_neg (show ¬ (7 : Nat) = 6 by decide), fi_sa, fi_sf, if_neg (show ¬ (7 : Nat) = 8 by decide), p7, m_bitsOf hN (by omega), bd_s, fi_sf, if_neg (show ¬ (0 : Nat) = 6 by decide), fi_sa, fi_sf, if_neg (show ¬ (0 : Nat) = 8 by decide), hM.1, fi_sf, if_neg (show ¬ (8 : Nat) = 6 by decide), fi_sa, fi_sf, if_pos rfl, nI_add]
      refine ⟨_, hq1, ?_⟩
      rw [hrun]
      by_cases hc : pc u + dueS st dn + 1 ≤ dT d
      · right
        rw [if_pos hc, if_neg (nI_nlt (by omega) (by omega))]
        refine ⟨0 :: st, u, dn, rfl, rfl, rfl, p7, ?_, p9, fun k hk => ?_⟩
        · show nI (dueS st dn + 1) = nI (dueS (0 :: st) dn)
          rw [hdue]
          rfl
        · rw [List.length_cons] at hk ⊢
          rw [ar_sf, ar_sa, if_pos rfl]
          by_cases hks : k = st.length
          · rw [if_pos hks, hks, show st.length + 1 - 1 - st.length = 0 by omega]
            rfl
          · rw [if_neg hks, ar_sf, p12 k (by omega)]
            obtain ⟨j, hj⟩ : ∃ j, st.length + 1 - 1 - k = j + 1 := ⟨st.length - 1 - k, by omega⟩
            rw [hj, show st.length - 1 - k = j by omega]
            rfl
      · left
        rw [if_neg hc, if_pos (nI_lt (by omega) (by omega))]
        exact ⟨rfl, rfl⟩
    · rw [if_neg hx40]
      by_cases hr : 48 ≤ x ∧ x ≤ 53
      · obtain ⟨y, hy⟩ : ∃ y, x = y + 48 := ⟨x - 48, by omega⟩
        have ey : nI x - 48 = nI y := by rw [hy, show (48 : Int32) = nI 48 from rfl, pk_sub (by omega), Nat.add_sub_cancel]
        have ein : f9_in (nI x).toInt64 48 53 = some 1 := m_in_ok (lo := 48) (hi := 53) hr.1 hr.2 (by decide)
        rw [ein, bd_s, if_neg (show ¬ (1 : Int32) = 0 by decide), ey, bn_e, show x - 48 = y by omega]
        by_cases hyT : y < dT d
        · have e1 := bit_nI (a := u) (b := y) (by omega) (by omega)
          have h2y : 2 ^ y < 64 := pow_lt6 (by omega)
          rw [m_isTable hw hM hyT, bd_s, if_neg (show ¬ (1 : Int32) = 0 by decide), p7, e1]
          cases hb : u.testBit y
          · obtain ⟨q', g1, g2, g3, g4, g5, g6, g7⟩ := m_endPlan (q := sf (sf q 7 (nI (u ||| 2 ^ y))) 8 (nI (low st))) (st := st) (dn := dn) hst6 p6 p9 p12
            refine ⟨q', ((frG.rf.sf (by omega) _).sf (by omega) _).tr g2, Or.inr ?_⟩
            rw [if_pos ⟨hr.1, hyT, rfl⟩]
            refine ⟨endS st, u ||| 2 ^ y, if st.length = 0 then 1 else dn, rfl, ?_, ?_, ?_, ?_, g6, ?_⟩
            · rw [if_neg (show ¬ nI (false).toNat = 1 by decide), shl1 (by omega), or_nI (by omega) (by omega), bn_e, fi_sf, if_neg (show ¬ (8 : Nat) = 7 by decide), p8, hdue, nI_p, bn_e, g1, bd_s]
            · rw [g3, endS_len]; exact p6
            · rw [g4]; rfl
            · rw [g5]
              show nI (low st) = _
              unfold dueS
              rw [endS_endd hev, low_endS hev]
              rfl
            · rw [endS_len]; exact g7
          · refine ⟨q, frG.rf, Or.inl ?_⟩
            rw [if_neg (fun z => by cases z.2.2), if_pos (show nI (true).toNat = 1 from rfl)]
            exact ⟨rfl, rfl⟩
        · refine ⟨q, frG.rf, Or.inl ?_⟩
          rw [if_neg (fun z => hyT z.2.1), m_isTable_f hw hM (Or.inr ⟨nI_nlt (b := 0) (Nat.zero_le _) (by omega), nI_le (by omega) (by omega)⟩), bd_s, if_pos rfl]
          exact ⟨rfl, rfl⟩
      · refine ⟨q, frG.rf, Or.inl ?_⟩
        rw [if_neg (fun z => by omega), hout x hx hr, bd_s, if_pos rfl]
        unfold f9_go_b122 f9_go_b187
        rw [if_neg (show ¬ (1 : Int32) = 0 by decide), if_neg (show ¬ nI x = 40 from fun e => hx40 ((nI_eq (b := 40) (by omega) (by decide)).mp e)), p9, hdn, if_pos (show nI 0 = 0 from rfl), if_neg (show ¬ (1 : Int32) = 0 by decide)]
        exact ⟨rfl, rfl⟩
  · rw [if_neg he]
    have hb47 : f9_go_b47 N (nI x) q = f9_go_b187 N (nI x) 0 q := by
      unfold f9_go_b47 f9_go_b48 f9_go_b122
      rw [if_pos rfl, if_pos rfl]
    cases st with
    | nil =>
      have hd1 : dn = 1 := by have : ¬ dn = 0 := he; omega
      refine ⟨q, frG.rf, Or.inl ⟨rfl, ?_⟩⟩
      unfold f9_go
      rw [p9, hd1, if_neg (show ¬ nI 1 = 0 by decide), hb47]
      unfold f9_go_b187
      rw [p9, hd1, if_neg (show ¬ nI 1 = 0 by decide)]
    | cons a st =>
      rw [List.length_cons] at *
      have ha3 : a ≤ 3 := (h3 0 (by omega)).1
      have ha1 : a % 2 = 1 := by
        have : ¬ a % 2 = 0 := he
        omega
      have hdn : dn = 0 := h2 (fun z => by cases z)
      have e := p12 st.length (by omega)
      rw [show st.length + 1 - 1 - st.length = 0 by omega] at e
      have e : ar q 12 st.length = nI a := e
      have hev : ∀ j, j < st.length → mj st j % 2 = 0 := fun j hj => (h3 (j + 1) (by omega)).2 (by omega)
      have hgo : f9_go N (nI x) q = f9_go_b187 N (nI x) 0 q := by
        unfold f9_go
        rw [p9, hdn, if_pos (show nI 0 = 0 from rfl), p6, if_neg (nz (show ¬ st.length + 1 = 0 by omega) (by omega)), nI_p, ck_nI (by omega) (by decide), ix_nI (by omega), e, if_neg (nz (show ¬ a = 0 by omega) (by omega)), ck_nI (by omega) (by decide), if_neg (show ¬ nI a = 2 from fun z => by have := (nI_eq (b := 2) (by omega) (by decide)).mp z; omega), hb47]
      rw [hgo]
      show ∃ q', frG q q' ∧ (((if 2 ≤ a then (if x = 41 then some (endS st, u, if st.length = 0 then 1 else 0) else none) else (if x = 108 ∨ x = 112 ∨ x = 115 then some (2 :: st, u, dn) else none)) = none ∧ _) ∨ ∃ st' u' dn', (if 2 ≤ a then (if x = 41 then some (endS st, u, if st.length = 0 then 1 else 0) else none) else (if x = 108 ∨ x = 112 ∨ x = 115 then some (2 :: st, u, dn) else none)) = some (st', u', dn') ∧ _)
      have hdue : dueS (a :: st) dn = low st + (if a < 2 then 1 else 0) := by
        show low st + (if a < 2 then 1 else 0) + (1 - a % 2) = _
        rw [ha1]
        rfl
      unfold f9_go_b187 f9_go_b245
      rw [p9, hdn, if_pos (show nI 0 = 0 from rfl), if_pos rfl, p6, nI_p, ck_nI (by omega) (by decide), ix_nI (by omega), e]
      rcases (show a = 1 ∨ a = 3 by omega) with rfl | rfl
      · rw [if_neg (show ¬ 2 ≤ 1 by decide), if_pos (show nI 1 = 1 from rfl), ck_nI (by omega) (by decide), bn_e]
        refine ⟨sa q 12 st.length 2, frG.rf.sa _ _, ?_⟩
        by_cases hx3 : x = 108 ∨ x = 112 ∨ x = 115
        · right
          rw [if_pos hx3]
          refine ⟨2 :: st, u, 0, rfl, ?_, p6, p7, ?_, by rw [← hdn]; exact p9, fun k hk => ?_⟩
          · rcases hx3 with rfl | rfl | rfl
            · rw [if_pos (show nI 108 = 108 from rfl)]
            · rw [if_neg (show ¬ nI 112 = 108 by decide), if_pos (show nI 112 = 112 from rfl)]
            · rw [if_neg (show ¬ nI 115 = 108 by decide), if_neg (show ¬ nI 115 = 112 by decide), if_pos (show nI 115 = 115 from rfl)]
          · show fi q 8 = _
            rw [p8, hdue]
            rfl
          · rw [List.length_cons] at hk ⊢
            rw [ar_sa, if_pos rfl]
            by_cases hks : k = st.length
            · rw [if_pos hks, hks, show st.length + 1 - 1 - st.length = 0 by omega]
              rfl
            · rw [if_neg hks, p12 k hk]
              obtain ⟨j, hj⟩ : ∃ j, st.length + 1 - 1 - k = j + 1 := ⟨st.length - 1 - k, by omega⟩
              rw [hj]
              rfl
        · left
          rw [if_neg hx3, if_neg (show ¬ nI x = 108 from fun e => hx3 (Or.inl ((nI_eq (b := 108) (by omega) (by decide)).mp e))), if_neg (show ¬ nI x = 112 from fun e => hx3 (Or.inr (Or.inl ((nI_eq (b := 112) (by omega) (by decide)).mp e)))), if_neg (show ¬ nI x = 115 from fun e => hx3 (Or.inr (Or.inr ((nI_eq (b := 115) (by omega) (by decide)).mp e))))]
          exact ⟨rfl, rfl⟩
      · rw [if_pos (show 2 ≤ 3 by decide), if_neg (show ¬ nI 3 = 1 by decide), bn_e]
        obtain ⟨q', g1, g2, g3, g4, g5, g6, g7⟩ := m_endPlan (q := sf q 6 (nI st.length)) (st := st) (dn := 0) (by omega) rfl (by rw [← hdn]; exact p9) (fun k hk => by
          rw [ar_sf, p12 k (by omega)]
          obtain ⟨j, hj⟩ : ∃ j, st.length + 1 - 1 - k = j + 1 := ⟨st.length - 1 - k, by omega⟩
          rw [hj, show st.length - 1 - k = j by omega]
          rfl)
        refine ⟨q', (frG.rf.sf (by omega) _).tr g2, ?_⟩
        rw [g1, bd_s]
        by_cases hx41 : x = 41
        · right
          rw [if_pos hx41, hx41, if_pos (show nI 41 = 41 from rfl)]
          refine ⟨endS st, u, if st.length = 0 then 1 else 0, rfl, rfl, ?_, ?_, ?_, g6, ?_⟩
          · rw [g3, endS_len]; rfl
          · rw [g4]; exact p7
          · rw [g5]
            show fi q 8 = _
            rw [p8, hdue]
            unfold dueS
            rw [endS_endd hev, low_endS hev]
            rfl
          · rw [endS_len]; exact g7
        · left
          rw [if_neg hx41, if_neg (show ¬ nI x = 41 from fun e => hx41 ((nI_eq (b := 41) (by omega) (by decide)).mp e))]
          exact ⟨rfl, rfl⟩
end MGo
