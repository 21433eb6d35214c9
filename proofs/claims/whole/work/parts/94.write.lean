/-! a key is written as a text -/
section Write
variable {N : Nat} {d : DB} {q : SS}
def WR (q : SS) (p : List Nat) : Prop := fi q 14 = nI p.length ∧ ∀ k, k < p.length → ar q 26 k = nI (mj p k)
def frZ (q q' : SS) : Prop := (∀ j, j ≠ 14 → fi q' j = fi q j) ∧ (∀ k, k ≠ 26 → ar q' k = ar q k) ∧ lo q' = lo q
theorem frZ.rf {q : SS} : frZ q q := ⟨fun _ _ => rfl, fun _ _ => rfl, rfl⟩
theorem frZ.tr {a b c : SS} (h : frZ a b) (g : frZ b c) : frZ a c := ⟨fun k hk => (g.1 k hk).trans (h.1 k hk), fun k hk => (g.2.1 k hk).trans (h.2.1 k hk), g.2.2.trans h.2.2⟩
theorem frZ.same {a b : SS} (h : frZ a b) : sameC a b := ⟨fun k hk => h.1 k (by omega), fun k hk => h.2.1 k (by omega)⟩
theorem c_putc {p : List Nat} {c : Nat} (h : WR q p) (hp : p.length < 21) : ∃ q', f0_put (nI c) q = some q' ∧ WR q' (p ++ [c]) ∧ frZ q q' := by
  refine ⟨sf (sa q 26 p.length (nI c)) 14 (nI (p.length + 1)), ?_, ⟨?_, fun k hk => ?_⟩, fun j hj => ?_, fun k hk => ?_, rfl⟩
  · unfold f0_put
    rw [h.1, if_neg (show ¬ nI p.length < 0 from nI_nlt (b := 0) (Nat.zero_le _) (by omega)), if_neg (show ¬ (21 : Int32) ≤ nI p.length from nI_ge (b := 21) hp (by decide)), ck_nI hp (by decide), ix_nI (by omega), bn_e, fi_sa, h.1, nI_s, bn_e]
  · rw [gf, List.length_append]
    rfl
  · rw [List.length_append] at hk
    have hk : k < p.length + 1 := hk
    rw [ar_sf]
    by_cases e : k = p.length
    · subst e
      rw [ga, mj_last]
    · rw [gi _ _ _ _ e, mj_left (by omega)]
      exact h.2 k (by omega)
  · rw [gg _ _ _ hj]
    rfl
  · rw [ar_sf, gk _ _ _ _ hk]
theorem c_signOf {c : Nat} (h : sgn c) (h1 : c ≠ 41) : f0_codeOf (nI (dig c)) = some (nI c) := by
  unfold f0_codeOf
  rcases dig_val h h1 with ⟨e1, e2⟩ | ⟨e1, e2, e3⟩ | ⟨e1, e2⟩ | ⟨e1, e2⟩ | ⟨e1, e2⟩
  · rw [e2, e1]; rfl
  · have hne : ∀ k : Nat, (k = 1 ∨ 8 ≤ k) → k < 100 → ¬ nI (c - 46) = nI k := fun k hk hk2 z => by
      have := (nI_eq (by omega) (by omega)).mp z
      omega
    rw [e3, if_neg (show ¬ nI (c - 46) = 1 from hne 1 (by omega) (by decide)), if_neg (show ¬ nI (c - 46) = 8 from hne 8 (by omega) (by decide)), if_neg (show ¬ nI (c - 46) = 9 from hne 9 (by omega) (by decide)), if_neg (show ¬ nI (c - 46) = 10 from hne 10 (by omega) (by decide)), li48, nI_add, li2, pk_sub (by omega), show 48 + (c - 46) - 2 = c by omega]
  · rw [e2, e1]; rfl
  · rw [e2, e1]; rfl
  · rw [e2, e1]; rfl
/-- the figure of a sign stands in the key -/
theorem key_dig {p r : List Nat} {c : Nat} (h1 : c ≠ 41) (hd : dig c < 16) (hr : keyF 0 r < 16 ^ ndg r) : keyF 0 (p ++ c :: r) / 2 ^ (4 * ndg r) % 16 = dig c := by
  rw [keyF_app]
  show keyF (kst (keyF 0 p) c) r / _ % 16 = _
  rw [keyF_lin, ← p16]
  unfold kst
  rw [if_neg h1, Nat.add_comm, Nat.add_mul_div_right _ _ (Nat.pow_pos (by decide)), Nat.div_eq_of_lt hr]
  omega
theorem c_fig {K k g : Nat} (hK : K < 2 ^ 63) (hk : k < 16) (h : K / 2 ^ (4 * k) % 16 = g) : Int64.toInt32 (jlushr (lN K) (4 * nI k) &&& 15) = nI g := by
  have hle : K / 2 ^ (4 * k) ≤ K := Nat.div_le_self _ _
  rw [li4, pk_mul, lushr_lN (by omega) (by omega), show (15 : Int64) = lN 15 from rfl, and_lN (by omega) (by decide), show (15 : Nat) = 2 ^ 4 - 1 from rfl, Nat.and_two_pow_sub_one_eq_mod, lN_i]
  show nI (K / 2 ^ (4 * k) % 16) = _
  rw [h]
theorem ndg_len : ∀ l : List Nat, ndg l ≤ l.length
  | [] => Nat.le_refl _
  | c :: l => by
    have := ndg_len l
    show (if c = 41 then 0 else 1) + ndg l ≤ l.length + 1
    split <;> omega
theorem c_write_run (hw : WF d) (hN : 1000 ≤ N) {s : Nat} {l : List Nat} (hK : keyF 0 l < 2 ^ 63) (hl21 : l.length ≤ 21) (hn16 : ndg l ≤ 16) : ∀ (r p : List Nat), l = p ++ r → ∀ (st : List Nat) (u dn : Nat), PO (dT d) st u dn → runL (dT d) r (st, u, dn) = some ([], s, 1) →
    (∀ (q : SS) (nO : Nat), WR q p → r.length < nO → (∀ c r', r = c :: r' → c ≠ 41) → ∃ q', f0_write_l26 N nO (lN (keyF 0 l)) (nI st.length) (nI (sdn st)) (nI (ndg r) - 1) q = some (nI l.length, q') ∧ WR q' l ∧ frZ q q') ∧
    (∀ (q : SS) (nO nJ : Nat), WR q p → r.length < nO → r.length < nJ → endd st dn ≠ 0 → ∃ q', f0_write_l87 N (f0_write_l26 N nO) nJ (lN (keyF 0 l)) (nI st.length) (nI (sdn st)) (nI (ndg r)) q = some (nI l.length, q') ∧ WR q' l ∧ frZ q q') := by
  have hT := hw.1
  intro r
  induction r with
  | nil =>
    intro p hp st u dn hO hr
    rw [List.append_nil] at hp
    subst hp
    have hr : (st, u, dn) = ([], s, 1) := Option.some.inj hr
    have hst : st = [] := congrArg Prod.fst hr
    subst hst
    have out : ∀ (q : SS) (nO : Nat), WR q l → 0 < nO → ∃ q', f0_write_l26 N nO (lN (keyF 0 l)) (nI 0) (nI 0) (nI 0 - 1) q = some (nI l.length, q') ∧ WR q' l ∧ frZ q q' := by
      intro q nO hW hn
      obtain ⟨nO, rfl⟩ : ∃ m, nO = m + 1 := ⟨nO - 1, by omega⟩
      refine ⟨q, ?_, hW, frZ.rf⟩
      show f0_write_l26_B N (f0_write_l26 N nO) _ _ _ _ _ = _
      unfold f0_write_l26_B
      rw [if_pos (show nI 0 - 1 < 0 by decide), hW.1]
    refine ⟨fun q nO hW hn _ => out q nO hW hn, fun q nO nJ hW hn hj _ => ?_⟩
    obtain ⟨nJ, rfl⟩ : ∃ m, nJ = m + 1 := ⟨nJ - 1, by omega⟩
    obtain ⟨q', g1, g2⟩ := out q nO hW hn
    refine ⟨q', ?_, g2⟩
    show f0_write_l87_B N (f0_write_l26 N nO) (f0_write_l87 N (f0_write_l26 N nO) nJ) _ _ _ _ _ = _
    unfold f0_write_l87_B f0_write_b118
    rw [if_pos (show nI ([] : List Nat).length ≤ 0 by decide), ← Int32.sub_eq_add_neg, bn_e]
    exact g1
  | cons c r ih =>
    intro p hp st u dn hO hr
    obtain ⟨⟨st', u', dn'⟩, hs, hr'⟩ := runL_step hr
    have hs : stepS (dT d) st u dn c = some (st', u', dn') := hs
    have hO' : PO (dT d) st' u' dn' := stepS_ok hT hO hs
    have hsg := stepS_sg hT hs
    have hp' : l = (p ++ [c]) ++ r := by rw [hp, List.append_assoc]; rfl
    obtain ⟨ihO, ihI⟩ := ih (p ++ [c]) hp' st' u' dn' hO' hr'
    have hlen : l.length = p.length + (r.length + 1) := by rw [hp, List.length_append, List.length_cons]
    have hnd : ndg l = ndg p + ndg (c :: r) := by rw [hp, ndg_app]
    have hlen6 := PO_len hT hO
    have hsd := sdn_lt st
    have hsd64 : 2 ^ st.length ≤ 64 := Nat.pow_le_pow_right (n := 2) (by decide) hlen6
    have hlen6' := PO_len hT hO'
    /- a sign that is no closing one -/
    have outer : ∀ (q : SS) (nO : Nat), WR q p → (c :: r).length < nO → c ≠ 41 → ∃ q', f0_write_l26 N nO (lN (keyF 0 l)) (nI st.length) (nI (sdn st)) (nI (ndg (c :: r)) - 1) q = some (nI l.length, q') ∧ WR q' l ∧ frZ q q' := by
      intro q nO hW hn hc
      rw [List.length_cons] at hn
      obtain ⟨nO, rfl⟩ : ∃ m, nO = m + 1 := ⟨nO - 1, by omega⟩
      have hn1 : ndg (c :: r) = ndg r + 1 := by
        show (if c = 41 then 0 else 1) + ndg r = _
        rw [if_neg hc]
        omega
      have hdl := dig_lt hsg hc
      have hkr := keyF_lt r (runL_sg hT r _ _ hr')
      have hfig := c_fig (g := dig c) hK (show ndg r < 16 by omega) (by rw [hp]; exact key_dig (p := p) hc hdl hkr)
      obtain ⟨q1, w1, w2, w3⟩ := c_putc (c := c) hW (by omega)
      have un : f0_write_l26 N (nO + 1) (lN (keyF 0 l)) (nI st.length) (nI (sdn st)) (nI (ndg (c :: r)) - 1) q = if nI (dig c) = 1 then f0_write_l26 N nO (lN (keyF 0 l)) (nI (st.length + 1)) (jshl (nI (sdn st)) 1) (nI (ndg r) - 1) q1 else if nI (dig c) < 8 then f0_write_l87 N (f0_write_l26 N nO) N (lN (keyF 0 l)) (nI st.length) (nI (sdn st)) (nI (ndg r)) q1 else f0_write_l26 N nO (lN (keyF 0 l)) (nI st.length) (nI (sdn st) ||| 1) (nI (ndg r) - 1) q1 := by
        show f0_write_l26_B N (f0_write_l26 N nO) _ _ _ _ _ = _
        unfold f0_write_l26_B f0_write_b118
        rw [hn1, nI_p, if_neg (show ¬ nI (ndg r) < 0 from nI_nlt (b := 0) (Nat.zero_le _) (by omega)), hfig, bn_e, c_signOf hsg hc, bd_s, w1, bd_s, nI_s, bn_e, bn_e, bn_e, bn_e, bn_e, ← Int32.sub_eq_add_neg]
      rw [un]
      /- what the sign does -/
      have hs2 := hs
      unfold stepS at hs2
      by_cases he : endd st dn = 0
      · rw [if_pos he] at hs2
        have hdn : dn = 0 := by
          cases st with
          | nil => exact he
          | cons a st => exact hO.2.1 (fun z => by cases z)
        by_cases c40 : c = 40
        · rw [if_pos c40] at hs2
          by_cases hroom : pc u + dueS st dn + 1 ≤ dT d
          · rw [if_pos hroom] at hs2
            have e1 : 0 :: st = st' := congrArg Prod.fst (Option.some.inj hs2)
            have hnc : ∀ c' r', r = c' :: r' → c' ≠ 41 := by
              intro c' r' hrr z
              subst hrr
              obtain ⟨p2, hs3, -⟩ := runL_step hr'
              rw [← e1, z] at hs3
              have hs3 : stepS (dT d) (0 :: st) u' dn' 41 = some p2 := hs3
              unfold stepS at hs3
              rw [if_pos (show endd (0 :: st) dn' = 0 from rfl), if_neg (by decide), if_neg (fun z => by omega)] at hs3
              cases hs3
            obtain ⟨q', g1, g2, g3⟩ := ihO q1 nO w2 (by omega) hnc
            refine ⟨q', ?_, g2, w3.tr g3⟩
            rw [if_pos (show nI (dig c) = 1 by rw [c40]; rfl), show jshl (nI (sdn st)) 1 = nI (sdn st * 2) from shl_nI (b := 1) (by decide) (by omega)]
            rw [← e1] at g1
            rw [show sdn st * 2 = sdn (0 :: st) from by show _ = 2 * sdn st + 0; omega]
            exact g1
          · rw [if_neg hroom] at hs2; cases hs2
        · rw [if_neg c40] at hs2
          by_cases ht : 48 ≤ c ∧ c - 48 < dT d ∧ u.testBit (c - 48) = false
          · rw [if_pos ht] at hs2
            have e1 : endS st = st' := congrArg Prod.fst (Option.some.inj hs2)
            have e3 : (if st.length = 0 then 1 else dn) = dn' := congrArg (fun p => p.2.2) (Option.some.inj hs2)
            have hev : ∀ j, j < st.length → mj st j % 2 = 0 := fun j hj => by
              cases j with
              | zero => cases st with
                | nil => exact absurd hj (Nat.not_lt_zero _)
                | cons a st => exact he
              | succ j => exact (hO.2.2.1 (j + 1) hj).2 (by omega)
            have hend : endd st' dn' ≠ 0 := by
              rw [← e1, ← e3, endS_endd hev]
              decide
            obtain ⟨q', g1, g2, g3⟩ := ihI q1 nO N w2 (by omega) (by omega) hend
            refine ⟨q', ?_, g2, w3.tr g3⟩
            have hdv : dig c = c - 46 := by
              rcases dig_val hsg hc with z | z | z | z | z
              · omega
              · exact z.2.2
              · omega
              · omega
              · omega
            rw [if_neg (show ¬ nI (dig c) = 1 from fun z => by
              have := (nI_eq (b := 1) (by omega) (by decide)).mp z
              omega), if_pos (show nI (dig c) < 8 from nI_lt (b := 8) (by omega) (by decide))]
            rw [← e1, endS_len] at g1
            have : sdn (endS st) = sdn st := by
              cases st with
              | nil => rfl
              | cons a st => exact sdn_end a st (hev 0 (Nat.zero_lt_succ _))
            rw [this] at g1
            exact g1
          · rw [if_neg ht] at hs2; cases hs2
      · rw [if_neg he] at hs2
        cases st with
        | nil => cases hs2
        | cons a st =>
          have hs2 : (if 2 ≤ a then (if c = 41 then some (endS st, u, if st.length = 0 then 1 else 0) else none) else (if c = 108 ∨ c = 112 ∨ c = 115 then some (2 :: st, u, dn) else none)) = some (st', u', dn') := hs2
          by_cases h22 : 2 ≤ a
          · rw [if_pos h22, if_neg hc] at hs2; cases hs2
          · rw [if_neg h22] at hs2
            by_cases hx : c = 108 ∨ c = 112 ∨ c = 115
            · rw [if_pos hx] at hs2
              have e1 : 2 :: st = st' := congrArg Prod.fst (Option.some.inj hs2)
              have hnc : ∀ c' r', r = c' :: r' → c' ≠ 41 := by
                intro c' r' hrr z
                subst hrr
                obtain ⟨p2, hs3, -⟩ := runL_step hr'
                rw [← e1, z] at hs3
                have hs3 : stepS (dT d) (2 :: st) u' dn' 41 = some p2 := hs3
                unfold stepS at hs3
                rw [if_pos (show endd (2 :: st) dn' = 0 from rfl), if_neg (by decide), if_neg (fun z => by omega)] at hs3
                cases hs3
              obtain ⟨q', g1, g2, g3⟩ := ihO q1 nO w2 (by omega) hnc
              refine ⟨q', ?_, g2, w3.tr g3⟩
              have hdv : 8 ≤ dig c := by
                rcases hx with rfl | rfl | rfl
                · decide
                · decide
                · decide
              have hs0 : sdn (a :: st) = 2 * sdn st := by
                show 2 * sdn st + (if 2 ≤ a then 1 else 0) = _
                rw [if_neg h22]
                rfl
              have hor : nI (sdn (a :: st)) ||| 1 = nI (sdn (2 :: st)) := by
                rw [hs0, li1, or_nI (by omega) (by decide)]
                congr 1
                show 2 * sdn st ||| 1 = 2 * sdn st + 1
                have := Nat.two_pow_add_eq_or_of_lt (i := 1) (b := 1) (by decide) (sdn st)
                exact this.symm
              rw [if_neg (show ¬ nI (dig c) = 1 from fun z => by
                have := (nI_eq (b := 1) (by omega) (by decide)).mp z
                omega), if_neg (show ¬ nI (dig c) < 8 from nI_nlt (b := 8) hdv (by omega)), hor]
              rw [← e1] at g1
              exact g1
            · rw [if_neg hx] at hs2; cases hs2
    refine ⟨fun q nO hW hn hc => outer q nO hW hn (hc c r rfl), fun q nO nJ hW hn hj hend => ?_⟩
    /- closing signs -/
    have hs2 := hs
    unfold stepS at hs2
    rw [if_neg hend] at hs2
    obtain ⟨nJ, rfl⟩ : ∃ m, nJ = m + 1 := ⟨nJ - 1, by omega⟩
    cases st with
    | nil => cases hs2
    | cons a st =>
      have hs2 : (if 2 ≤ a then (if c = 41 then some (endS st, u, if st.length = 0 then 1 else 0) else none) else (if c = 108 ∨ c = 112 ∨ c = 115 then some (2 :: st, u, dn) else none)) = some (st', u', dn') := hs2
      have hev : ∀ j, j < st.length → mj st j % 2 = 0 := fun j hj => (hO.2.2.1 (j + 1) (Nat.succ_lt_succ hj)).2 (by omega)
      have hbit : nI (sdn (a :: st)) &&& 1 = nI (if 2 ≤ a then 1 else 0) := by
        rw [li1, and_nI (by omega) (by decide), Nat.and_one_is_mod]
        congr 1
        show (2 * sdn st + (if 2 ≤ a then 1 else 0)) % 2 = _
        split <;> omega
      have h1 : ¬ nI (a :: st).length ≤ 0 := nI_ge (a := 0) (by rw [List.length_cons]; omega) (by omega)
      show ∃ q', f0_write_l87_B N (f0_write_l26 N nO) (f0_write_l87 N (f0_write_l26 N nO) nJ) (lN (keyF 0 l)) (nI (a :: st).length) (nI (sdn (a :: st))) (nI (ndg (c :: r))) q = some (nI l.length, q') ∧ WR q' l ∧ frZ q q'
      unfold f0_write_l87_B f0_write_b118
      rw [if_neg h1, hbit]
      by_cases h22 : 2 ≤ a
      · rw [if_pos h22] at hs2
        by_cases hx : c = 41
        · rw [if_pos hx] at hs2
          have e1 : endS st = st' := congrArg Prod.fst (Option.some.inj hs2)
          have e3 : (if st.length = 0 then 1 else 0) = dn' := congrArg (fun p => p.2.2) (Option.some.inj hs2)
          have hend' : endd st' dn' ≠ 0 := by
            rw [← e1, ← e3, endS_endd hev]
            decide
          obtain ⟨q1, w1, w2, w3⟩ := c_putc (c := 41) hW (by omega)
          rw [hx] at ihI hn hj
          rw [List.length_cons] at hn hj
          obtain ⟨q', g1, g2, g3⟩ := ihI q1 nO nJ w2 (by omega) (by omega) hend'
          refine ⟨q', ?_, g2, w3.tr g3⟩
          have hsd2 : sdn (a :: st) / 2 ^ 1 = sdn (endS st) := by
            have : sdn (endS st) = sdn st := by
              cases st with
              | nil => rfl
              | cons a' st => exact sdn_end a' st (hev 0 (Nat.zero_lt_succ _))
            rw [this]
            show (2 * sdn st + (if 2 ≤ a then 1 else 0)) / 2 ^ 1 = _
            split <;> omega
          have hnd2 : ndg (c :: r) = ndg r := by
            show (if c = 41 then 0 else 1) + ndg r = _
            rw [if_pos hx]
            omega
          rw [if_pos h22, if_pos (show nI 1 = 1 from rfl), show (41 : Int32) = nI 41 from rfl, w1, bd_s, List.length_cons, nI_dec, bn_e, show jshr (nI (sdn (a :: st))) 1 = nI (sdn (a :: st) / 2 ^ 1) from shr_nI (b := 1) (by omega) (by decide), bn_e, hsd2, hnd2]
          rw [← e1, endS_len] at g1
          exact g1
        · rw [if_neg hx] at hs2; cases hs2
      · rw [if_neg h22] at hs2
        by_cases hx : c = 108 ∨ c = 112 ∨ c = 115
        · obtain ⟨q', g1, g2⟩ := outer q nO hW hn (by omega)
          refine ⟨q', ?_, g2⟩
          rw [if_neg h22, if_neg (show ¬ nI 0 = 1 by decide), ← Int32.sub_eq_add_neg, bn_e]
          exact g1
        · rw [if_neg hx] at hs2; cases hs2
theorem c_write (hw : WF d) (hN : 1000 ≤ N) {s K : Nat} {x2 : Int32} {l : List Nat} (hs1 : 1 ≤ s) (hs : s < 2 ^ dT d) (hl : isPl (dT d) s l) (hK : K < 2 ^ 63) (hkey : keyF 0 l = K) (hkf : f0_keyFor q (nI s) x2 = some (lN K)) : ∃ q', f0_write N (nI s) x2 q = some (nI l.length, q') ∧ WR q' l ∧ frZ q q' := by
  have hT := hw.1
  have hs6 := s_lt hw hs
  have p6 := (pc6 hs6).1
  have p1 := pc_pos hs1 hs6
  have hlen := hl.1
  have hnd := hl.2.1
  subst hkey
  have hT1 : 1 ≤ dT d := by
    rcases Nat.eq_zero_or_pos (dT d) with z | z
    · rw [z] at hs
      have : s < 1 := hs
      omega
    · exact z
  have hne : ∀ c r', l = c :: r' → c ≠ 41 := by
    intro c r' e z
    have := hl.run hT hs
    rw [e] at this
    obtain ⟨p2, hs3, -⟩ := runL_step this
    rw [z] at hs3
    have hs3 : stepS (dT d) [] 0 0 41 = some p2 := hs3
    unfold stepS at hs3
    rw [if_pos (show endd [] 0 = 0 from rfl), if_neg (by decide), if_neg (fun z => by omega)] at hs3
    cases hs3
  obtain ⟨hO, -⟩ := c_write_run (N := N) hw hN hK (by omega) (by omega) l [] rfl [] 0 0 (PO_0 hT1) (hl.run hT hs)
  obtain ⟨q', g1, g2, g3⟩ := hO (sf q 14 0) N ⟨rfl, fun k hk => absurd hk (Nat.not_lt_zero _)⟩ (by omega) hne
  refine ⟨q', ?_, g2, fun j hj => by rw [g3.1 j hj, gg _ _ _ hj], fun k hk => g3.2.1 k hk, g3.2.2⟩
  unfold f0_write
  rw [hkf, bd_s, bn_e, c_keySigns hs6 p1, bd_s, bn_e, show nk s = ndg l from hnd.symm]
  exact g1
end Write
