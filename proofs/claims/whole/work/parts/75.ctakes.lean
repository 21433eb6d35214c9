/-! the class's steps -/
section CTakes
variable {d : DB} {q : SS}
def frP (q q' : SS) : Prop := (∀ j, j < 5 ∨ 10 ≤ j → fi q' j = fi q j) ∧ (∀ k, ar q' k = ar q k) ∧ lo q' = lo q
theorem frP.rf {q : SS} : frP q q := ⟨fun _ _ => rfl, fun _ => rfl, rfl⟩
theorem frP.tr {a b c : SS} (h : frP a b) (g : frP b c) : frP a c := ⟨fun k hk => (g.1 k hk).trans (h.1 k hk), fun k => (g.2.1 k).trans (h.2.1 k), g.2.2.trans h.2.2⟩
theorem frP.sf {a b : SS} (h : frP a b) {k : Nat} (hk : 5 ≤ k ∧ k ≤ 9) (v : Int32) : frP a (sf b k v) := ⟨fun j hj => by rw [fi_sf, if_neg (by omega)]; exact h.1 j hj, fun k => h.2.1 k, h.2.2⟩
theorem frP.same {a b : SS} (h : frP a b) : sameC a b := ⟨fun k hk => h.1 k (by omega), fun k _ => h.2.1 k⟩
theorem sub48 {x : Nat} (h : x < 48) : nI x - 48 < 0 := by
  have key : ∀ x : Fin 48, nI x.1 - 48 < 0 := by decide
  exact key ⟨x, h⟩
theorem c_takes {T x u dn : Nat} {st : List Nat} (hT : T ≤ 6) (h : PO T st u dn) (hp : PC st u dn q) (hx : x ≤ 126) : (stepS T st u dn x = none ∧ f6_takes (nI x) (nI T) q = some (0, q)) ∨ ∃ st' u' dn' q', stepS T st u dn x = some (st', u', dn') ∧ f6_takes (nI x) (nI T) q = some (1, q') ∧ frP q q' ∧ PC st' u' dn' q' := by
  obtain ⟨p5, p6, p7, p8, p9⟩ := hp
  obtain ⟨h1, h2, h3, h4, h5, h6⟩ := h
  have hu64 : u < 64 := Nat.lt_of_lt_of_le h4 (Nat.pow_le_pow_right (n := 2) (by decide) hT)
  have hsd := sdn_lt st
  have hst6 : st.length ≤ 6 := by omega
  have hsd64 : 2 ^ st.length ≤ 64 := Nat.pow_le_pow_right (n := 2) (by decide) hst6
  unfold f6_takes stepS
  by_cases he : endd st dn = 0
  · have hdue : dueS st dn = low st + 1 := by unfold dueS; rw [he]
    have hev : ∀ j, j < st.length → mj st j % 2 = 0 := fun j hj => by
      cases j with
      | zero => cases st with
        | nil => exact absurd hj (Nat.not_lt_zero _)
        | cons a st => exact he
      | succ j => exact (h3 (j + 1) hj).2 (by omega)
    have hdn : dn = 0 := by
      cases st with
      | nil => exact he
      | cons a st => exact h2 (fun z => by cases z)
    rw [if_pos he, p9, he, if_pos (show nI 0 = 0 from rfl)]
    by_cases hx40 : x = 40
    · rw [if_pos hx40, hx40, if_pos (show nI 40 = 40 from rfl)]
      unfold f6_takesOpen
      rw [p5, bitCount_ok (by omega), bd_s, p6, nI_add, nI_s]
      by_cases hc : pc u + dueS st dn + 1 ≤ T
      · right
        rw [if_pos hc, if_pos (nI_le hc (by omega))]
        refine ⟨0 :: st, u, dn, sf (sf (sf q 6 (nI (dueS st dn + 1))) 7 (nI (st.length + 1))) 8 (nI (sdn st * 2)), rfl, ?_, ((frP.rf.sf (by omega) _).sf (by omega) _).sf (by omega) _, ?_⟩
        · rw [nI_s, bn_e, fi_sf, if_neg (show ¬ (7 : Nat) = 6 by decide), p7, nI_s, bn_e, fi_sf, if_neg (show ¬ (8 : Nat) = 7 by decide), fi_sf, if_neg (show ¬ (8 : Nat) = 6 by decide), p8, show jshl (nI (sdn st)) 1 = nI (sdn st * 2) from shl_nI (b := 1) (by decide) (by omega), bn_e, bd2_s]
          exact cz_1
        · refine ⟨p5, ?_, rfl, ?_, ?_⟩
          · show nI (dueS st dn + 1) = nI (dueS (0 :: st) dn)
            rw [hdue]
            rfl
          · show nI (sdn st * 2) = nI (2 * sdn st + 0)
            rw [Nat.mul_comm, Nat.add_zero]
          · show fi q 9 = nI (0 % 2)
            rw [p9, he]
      · left
        rw [if_neg hc, if_neg (nI_ge (by omega) (by omega)), bd2_s]
        exact ⟨rfl, cz_0⟩
    · rw [if_neg hx40, if_neg (show ¬ nI x = 40 from fun e => hx40 ((nI_eq (b := 40) (by omega) (by decide)).mp e))]
      unfold f6_takesTable
      by_cases hx48 : x < 48
      · left
        rw [if_neg (fun z => by omega), if_pos (sub48 hx48), bd2_s]
        exact ⟨rfl, cz_0⟩
      · obtain ⟨y, hy⟩ : ∃ y, x = y + 48 := ⟨x - 48, by omega⟩
        have ey : nI x - 48 = nI y := by rw [hy, show (48 : Int32) = nI 48 from rfl, pk_sub (by omega), Nat.add_sub_cancel]
        rw [ey, show x - 48 = y by omega, if_neg (show ¬ nI y < 0 from nI_nlt (b := 0) (Nat.zero_le _) (by omega))]
        by_cases hyT : y < T
        · have e1 := bit_nI (a := u) (b := y) (by omega) (by omega)
          have h2y : 2 ^ y < 64 := pow_lt6 (by omega)
          rw [if_neg (nI_ge hyT (by omega)), p5, e1]
          cases hb : u.testBit y
          · right
            rw [if_pos ⟨by omega, hyT, rfl⟩]
            refine ⟨endS st, u ||| 2 ^ y, if st.length = 0 then 1 else dn, sf (sf (sf q 5 (nI (u ||| 2 ^ y))) 6 (nI (low st))) 9 1, rfl, ?_, ((frP.rf.sf (by omega) _).sf (by omega) _).sf (by omega) _, ?_⟩
            · rw [if_neg (show ¬ nI (false).toNat = 1 by decide), shl1 (by omega), or_nI (by omega) (by omega), bn_e, fi_sf, if_neg (show ¬ (6 : Nat) = 5 by decide), p6, hdue, nI_p, bn_e, bn_e, bd2_s]
              exact cz_1
            · refine ⟨rfl, ?_, ?_, ?_, ?_⟩
              · show nI (low st) = _
                unfold dueS
                rw [endS_endd hev, low_endS hev]
                rfl
              · show fi q 7 = _
                rw [p7, endS_len]
              · show fi q 8 = _
                rw [p8]
                cases st with
                | nil => rfl
                | cons a st => exact congrArg nI (sdn_end a st (hev 0 (Nat.zero_lt_succ _))).symm
              · show (1 : Int32) = _
                rw [endS_endd hev]
                rfl
          · left
            rw [if_neg (fun z => by cases z.2.2), if_pos (show nI (true).toNat = 1 from rfl), bd2_s]
            exact ⟨rfl, cz_0⟩
        · left
          rw [if_neg (fun z => hyT z.2.1), if_pos (nI_le (by omega) (by omega)), bd2_s]
          exact ⟨rfl, cz_0⟩
  · rw [if_neg he, p9]
    have hend : ¬ nI (endd st dn) = 0 := nz he (by
      cases st with
      | nil => show dn < _; omega
      | cons a st => show a % 2 < _; omega)
    rw [if_neg hend, p7]
    cases st with
    | nil =>
      left
      rw [if_pos (show nI ([] : List Nat).length = 0 from rfl)]
      exact ⟨rfl, rfl⟩
    | cons a st =>
      have ha3 : a ≤ 3 := (h3 0 (Nat.zero_lt_succ _)).1
      have ha1 : a % 2 = 1 := by
        have : ¬ a % 2 = 0 := he
        omega
      have hev : ∀ j, j < st.length → mj st j % 2 = 0 := fun j hj => (h3 (j + 1) (Nat.succ_lt_succ hj)).2 (by omega)
      rw [List.length_cons] at hst6 hsd hsd64 p7 ⊢
      have hs8 : sdn (a :: st) = 2 * sdn st + (if 2 ≤ a then 1 else 0) := rfl
      have hdue : dueS (a :: st) dn = low st + (if a < 2 then 1 else 0) := by
        show low st + (if a < 2 then 1 else 0) + (1 - a % 2) = _
        rw [ha1]
        rfl
      rw [if_neg (nz (show ¬ st.length + 1 = 0 by omega) (by omega))]
      unfold f6_atRightSide
      rw [p8]
      show ((if 2 ≤ a then (if x = 41 then some (endS st, u, if st.length = 0 then 1 else 0) else none) else (if x = 108 ∨ x = 112 ∨ x = 115 then some (2 :: st, u, dn) else none)) = none ∧ _) ∨ ∃ st' u' dn' q', (if 2 ≤ a then (if x = 41 then some (endS st, u, if st.length = 0 then 1 else 0) else none) else (if x = 108 ∨ x = 112 ∨ x = 115 then some (2 :: st, u, dn) else none)) = some (st', u', dn') ∧ _
      have hand : ∀ y : Nat, y < 2 ^ 31 → nI y &&& 1 = nI (y % 2) := fun y hy => by
        rw [show (1 : Int32) = nI 1 from rfl, and_nI (by omega) (by decide), Nat.and_one_is_mod]
      rw [hand _ (by omega), hs8]
      by_cases h22 : 2 ≤ a
      · rw [if_pos h22, if_pos h22, show (2 * sdn st + 1) % 2 = 1 by omega, if_pos (show nI 1 = 1 from rfl), bd_s, if_neg (show ¬ (1 : Int32) = 0 by decide)]
        rw [if_neg (show ¬ a < 2 by omega)] at hdue
        unfold f6_takesClose
        by_cases hx41 : x = 41
        · right
          rw [if_pos hx41, hx41, if_pos (show nI 41 = 41 from rfl)]
          refine ⟨endS st, u, if st.length = 0 then 1 else 0, sf (sf q 7 (nI st.length)) 8 (nI (sdn st)), rfl, ?_, (frP.rf.sf (by omega) _).sf (by omega) _, ?_⟩
          · rw [p7, nI_p, bn_e, fi_sf, if_neg (show ¬ (8 : Nat) = 7 by decide), p8, hs8, if_pos h22, show jshr (nI (2 * sdn st + 1)) 1 = nI ((2 * sdn st + 1) / 2) from shr_nI (b := 1) (by omega) (by decide), show (2 * sdn st + 1) / 2 = sdn st by omega, bn_e, bd2_s]
            exact cz_1
          · refine ⟨p5, ?_, ?_, ?_, ?_⟩
            · show fi q 6 = _
              rw [p6, hdue]
              unfold dueS
              rw [endS_endd hev, low_endS hev]
            · show nI st.length = _
              rw [endS_len]
            · show nI (sdn st) = _
              cases st with
              | nil => rfl
              | cons b st => exact congrArg nI (sdn_end b st (hev 0 (Nat.zero_lt_succ _))).symm
            · show fi q 9 = _
              rw [p9, endS_endd hev]
              show nI (a % 2) = nI 1
              rw [ha1]
        · left
          rw [if_neg hx41, if_neg (show ¬ nI x = 41 from fun e => hx41 ((nI_eq (b := 41) (by omega) (by decide)).mp e)), bd2_s]
          exact ⟨rfl, cz_0⟩
      · rw [if_neg h22, if_neg h22, show (2 * sdn st + 0) % 2 = 0 by omega, if_neg (show ¬ nI 0 = 1 by decide), bd_s, if_pos rfl]
        rw [if_pos (show a < 2 by omega)] at hdue
        unfold f6_takesWay f6_takesWay_b20
        have hway : (bn (sf q 8 (fi q 8 ||| 1)) fun q_27 => bn (sf q_27 9 0) fun q_32 => some ((1 : Int32), q_32)) = some (1, sf (sf q 8 (nI (2 * sdn st + 1))) 9 0) := by
          rw [bn_e, bn_e, p8, hs8, if_neg h22, Nat.add_zero, show (1 : Int32) = nI 1 from rfl, or_nI (by omega) (by decide), show 2 * sdn st ||| 1 = 2 * sdn st + 1 from by have := Nat.two_pow_add_eq_or_of_lt (b := 1) (i := 1) (by decide) (sdn st); rw [Nat.pow_one] at this; exact this.symm]
        by_cases hx3 : x = 108 ∨ x = 112 ∨ x = 115
        · right
          rw [if_pos hx3]
          refine ⟨2 :: st, u, dn, sf (sf q 8 (nI (2 * sdn st + 1))) 9 0, rfl, ?_, (frP.rf.sf (by omega) _).sf (by omega) _, ?_⟩
          · rw [hway]
            rcases hx3 with rfl | rfl | rfl
            · rw [if_pos (show nI 108 = 108 from rfl), bd2_s]
              exact cz_1
            · rw [if_neg (show ¬ nI 112 = 108 by decide), if_pos (show nI 112 = 112 from rfl), bd2_s]
              exact cz_1
            · rw [if_neg (show ¬ nI 115 = 108 by decide), if_neg (show ¬ nI 115 = 112 by decide), if_pos (show nI 115 = 115 from rfl), bd2_s]
              exact cz_1
          · refine ⟨p5, ?_, ?_, rfl, rfl⟩
            · show fi q 6 = _
              rw [p6, hdue]
              rfl
            · show fi q 7 = _
              rw [p7]
              rfl
        · left
          rw [if_neg hx3, if_neg (show ¬ nI x = 108 from fun e => hx3 (Or.inl ((nI_eq (b := 108) (by omega) (by decide)).mp e))), if_neg (show ¬ nI x = 112 from fun e => hx3 (Or.inr (Or.inl ((nI_eq (b := 112) (by omega) (by decide)).mp e)))), if_neg (show ¬ nI x = 115 from fun e => hx3 (Or.inr (Or.inr ((nI_eq (b := 115) (by omega) (by decide)).mp e)))), bd2_s]
          exact ⟨rfl, cz_0⟩
end CTakes
