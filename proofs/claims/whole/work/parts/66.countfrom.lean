/-! the class's count -/
section CountFrom
variable {N : Nat} {d : DB} {q : SS} {A : Nat → Nat} {s : Nat}
def fitP (d : DB) (pre : List (Nat × Nat)) (t i : Nat) : Bool := pre.all (fun p => fitL (dL d) (dV d) p.1 p.2 t i)
/-- joined rows out of the rows that are allowed -/
def enumA (d : DB) (A : Nat → Nat) : List Nat → List (Nat × Nat) → List (List Nat)
  | [], _ => [[]]
  | t :: ts, pre => (List.range (dR d t)).flatMap (fun i => if (A t).testBit i = true ∧ fitP d pre t i = true then (enumA d A ts (pre ++ [(t, i)])).map (fun z => i :: z) else [])
theorem enumA_congr : ∀ (ts : List Nat) (pre pre' : List (Nat × Nat)), (∀ t i, t ∈ ts → fitP d pre t i = fitP d pre' t i) → enumA d A ts pre = enumA d A ts pre'
  | [], _, _, _ => rfl
  | t :: ts, pre, pre', h => by
    show List.flatMap _ _ = List.flatMap _ _
    congr 1
    funext i
    rw [h t i (List.mem_cons_self ..), enumA_congr ts (pre ++ [(t, i)]) (pre' ++ [(t, i)]) (fun t' i' ht' => by
      have := h t' i' (List.mem_cons_of_mem _ ht')
      unfold fitP at this ⊢
      rw [List.all_append, List.all_append, this])]
theorem len_flat (f : Nat → List (List Nat)) : ∀ n, ((List.range n).flatMap f).length = bsum (fun i => (f i).length) n
  | 0 => rfl
  | n + 1 => by
    rw [List.range_succ, List.flatMap_append, List.length_append, len_flat f n]
    show _ + (f n ++ []).length = _
    rw [List.append_nil]
    rfl
theorem enumA_len (t : Nat) (ts : List Nat) (pre : List (Nat × Nat)) : (enumA d A (t :: ts) pre).length = bsum (fun i => if (A t).testBit i = true ∧ fitP d pre t i = true then (enumA d A ts (pre ++ [(t, i)])).length else 0) (dR d t) := by
  show (List.flatMap _ _).length = _
  rw [len_flat]
  exact bsum_congr (fun i _ => by
    split
    · rw [List.length_map]
    · rfl)
theorem bsum_cut {f : Nat → Nat} {n m : Nat} (hnm : n ≤ m) : bsum (fun i => if i < n then f i else 0) m = bsum f n := by
  have h1 := bsum_0 (f := fun i => if i < n then f i else 0) (n := n) (m - n) (fun u hu => if_neg (by omega))
  rw [show n + (m - n) = m by omega] at h1
  rw [h1]
  exact bsum_congr (fun i hi => if_pos hi)
def memFrom (s u : Nat) : List Nat := (List.range' u (6 - u)).filter (fun t => s.testBit t)
theorem memFrom_6 : memFrom s 6 = [] := rfl
theorem memFrom_s {u : Nat} (hu : u < 6) : memFrom s u = if s.testBit u then u :: memFrom s (u + 1) else memFrom s (u + 1) := by
  unfold memFrom
  rw [show 6 - u = (6 - (u + 1)) + 1 by omega, List.range'_succ, List.filter_cons]
theorem memFrom_0 : memFrom s 0 = mem s := by
  unfold memFrom mem
  rw [List.range_eq_range']
theorem memFrom_in {u t : Nat} (h : t ∈ memFrom s u) : u ≤ t ∧ s.testBit t = true := by
  unfold memFrom at h
  rw [List.mem_filter, List.mem_range'_1] at h
  exact ⟨h.1.1, h.2⟩
def Con (d : DB) (s : Nat) (pre : List (Nat × Nat)) (g : Nat → Nat) (u : Nat) : Prop := (∀ x, x ∈ pre → ∀ l, l < 8 → (dL d x.1).testBit l = true → dV d x.1 x.2 l = g l) ∧ (∀ l, l < 8 → (lset d s u).testBit l = true → ∃ x, x ∈ pre ∧ (dL d x.1).testBit l = true) ∧ (∀ l, (lset d s u).testBit l = false → g l = 0) ∧ (∀ x, x ∈ pre → ∀ l, (dL d x.1).testBit l = true → (lset d s u).testBit l = true) ∧ ∀ l, g l < 16
theorem lset_s (d : DB) (s u : Nat) : lset d s (u + 1) = lset d s u ||| (if s.testBit u then dL d u else 0) := rfl
theorem fitP_code (hw : WF d) {pre : List (Nat × Nat)} {g : Nat → Nat} {u : Nat} (hc : Con d s pre g u) (i : Nat) : (((cd d u i ^^^ nib g 8) &&& mk (dL d u &&& lset d s u)) = 0) ↔ fitP d pre u i = true := by
  unfold cd fitP
  rw [mk_agree (cdf_lt hw u i) hc.2.2.2.2, List.all_eq_true]
  constructor
  · intro h x hx
    rw [fitL_iff]
    intro l hl h1 h2
    have := h l hl (by rw [Nat.testBit_and, h2, hc.2.2.2.1 x hx l h1]; rfl)
    unfold cdf at this
    rw [if_pos h2] at this
    rw [hc.1 x hx l hl h1, this]
  · intro h l hl h1
    rw [Nat.testBit_and, Bool.and_eq_true] at h1
    obtain ⟨x, hx, h2⟩ := hc.2.1 l hl h1.2
    have h3 := fitL_iff.mp (h x hx) l hl h2 h1.1
    unfold cdf
    rw [if_pos h1.1, ← h3, hc.1 x hx l hl h2]
def gup (d : DB) (g : Nat → Nat) (u i l : Nat) : Nat := if (dL d u).testBit l then dV d u i l else g l
theorem Con_s (hw : WF d) {pre : List (Nat × Nat)} {g : Nat → Nat} {u i : Nat} (hb : s.testBit u = true) (hc : Con d s pre g u) (hf : fitP d pre u i = true) : Con d s (pre ++ [(u, i)]) (gup d g u i) (u + 1) ∧ nib g 8 ||| cd d u i = nib (gup d g u i) 8 := by
  have hls : ∀ l, (lset d s (u + 1)).testBit l = ((lset d s u).testBit l || (dL d u).testBit l) := fun l => by rw [lset_s, if_pos hb, Nat.testBit_or]
  unfold fitP at hf
  rw [List.all_eq_true] at hf
  refine ⟨⟨fun x hx l hl h1 => ?_, fun l hl h1 => ?_, fun l h1 => ?_, fun x hx l h1 => ?_, fun l => ?_⟩, ?_⟩
  · unfold gup
    rcases List.mem_append.mp hx with hx | hx
    · by_cases h2 : (dL d u).testBit l = true
      · rw [if_pos h2]; exact fitL_iff.mp (hf x hx) l hl h1 h2
      · rw [if_neg h2]; exact hc.1 x hx l hl h1
    · rw [List.mem_singleton] at hx
      subst hx
      rw [if_pos h1]
  · rw [hls, Bool.or_eq_true] at h1
    rcases h1 with h1 | h1
    · obtain ⟨x, hx, h2⟩ := hc.2.1 l hl h1
      exact ⟨x, List.mem_append_left _ hx, h2⟩
    · exact ⟨(u, i), List.mem_append_right _ (List.mem_singleton.mpr rfl), h1⟩
  · rw [hls, Bool.or_eq_false_iff] at h1
    unfold gup
    rw [h1.2, if_neg Bool.false_ne_true]
    exact hc.2.2.1 l h1.1
  · rw [hls, Bool.or_eq_true]
    rcases List.mem_append.mp hx with hx | hx
    · exact Or.inl (hc.2.2.2.1 x hx l h1)
    · rw [List.mem_singleton] at hx
      subst hx
      exact Or.inr h1
  · unfold gup
    have := hw.2.2.2.1 u i l
    split
    · omega
    · exact hc.2.2.2.2 l
  · unfold cd
    rw [nib_or hc.2.2.2.2 (cdf_lt hw u i)]
    apply nib_ext
    intro l hl
    unfold gup cdf
    cases h2 : (dL d u).testBit l
    · rw [if_neg Bool.false_ne_true, if_neg Bool.false_ne_true, Nat.or_zero]
    · rw [if_pos rfl, if_pos rfl]
      cases h3 : (lset d s u).testBit l
      · rw [hc.2.2.1 l h3, Nat.zero_or]
      · obtain ⟨x, hx, h4⟩ := hc.2.1 l hl h3
        rw [← hc.1 x hx l hl h4, fitL_iff.mp (hf x hx) l hl h4 h2, Nat.or_self]
/-- what counted lays before it counts -/
def WLd (d : DB) (A : Nat → Nat) (s u : Nat) (q : SS) : Prop := ∀ v, v < u → s.testBit v = true → ar q 14 v = nI (mk (dL d v &&& lset d s v)) ∧ ∃ w, (∀ i, i < 8 → ar q 13 (8 * v + i) = nI (w i)) ∧ Wok d s v (A v) 8 w
theorem c_countFrom (hw : WF d) (h : RC d q) (hN : 1000 ≤ N) (hs : s < 2 ^ dT d) (hA : ∀ u, A u < 256) (hWL : WLd d A s 6 q) : ∀ (k u n : Nat) (pre : List (Nat × Nat)) (g : Nat → Nat), u + k = 6 → k < n → Con d s pre g u → f3_countFrom N q n (nI s) (nI u) (nI (nib g 8)) = some (nI (enumA d A (memFrom s u) pre).length) := by
  have hT := hw.1
  have hs6 := s_lt hw hs
  intro k
  induction k with
  | zero =>
    intro u n pre g hu hn hc
    have hu : u = 6 := by omega
    subst hu
    obtain ⟨n, rfl⟩ : ∃ m, n = m + 1 := ⟨n - 1, by omega⟩
    show f3_countFrom_B N (f3_countFrom N q n) q _ _ _ = _
    unfold f3_countFrom_B
    rw [if_neg (show ¬ nI 6 < 0 by decide), if_neg (show ¬ nI 6 < 6 by decide), memFrom_6]
    rfl
  | succ k ih =>
    intro u n pre g hu hn hc
    obtain ⟨nf, rfl⟩ : ∃ m, n = m + 1 := ⟨n - 1, by omega⟩
    have e1 := bit_nI (a := s) (b := u) (by omega) (by omega)
    show f3_countFrom_B N (f3_countFrom N q nf) q _ _ _ = _
    unfold f3_countFrom_B
    rw [if_neg (show ¬ nI u < 0 from nI_nlt (b := 0) (Nat.zero_le _) (by omega)), if_pos (show nI u < 6 from nI_lt (b := 6) (by omega) (by decide)), e1, memFrom_s (show u < 6 by omega)]
    cases hbit : s.testBit u
    · rw [if_pos (show nI (false).toNat = 0 from rfl), if_neg Bool.false_ne_true, nI_s, ih (u + 1) nf pre g (by omega) (by omega) ?_, bd_s]
      have : lset d s (u + 1) = lset d s u := by rw [lset_s, hbit, if_neg Bool.false_ne_true, Nat.or_zero]
      unfold Con
      rw [this]
      exact hc
    · have huT : u < dT d := bit_lt hs hbit
      have hR := R8 hw u
      obtain ⟨e14, w, e13, hW1, hW2⟩ := hWL u (by omega) hbit
      have hcd := cd_lt hw u
      have hg := nib_lt hc.2.2.2.2 8
      have hmk := mk_lt (dL d u &&& lset d s u)
      have hLs := (hw.2.1 u huT).2.1
      have hls8 := lset_lt hw s u (by omega)
      rw [if_neg (show ¬ nI (true).toNat = 0 by decide), if_pos rfl, enumA_len]
      have hF : ∀ i j, like d s u i j → (if fitP d pre u i = true then (enumA d A (memFrom s (u + 1)) (pre ++ [(u, i)])).length else 0) = (if fitP d pre u j = true then (enumA d A (memFrom s (u + 1)) (pre ++ [(u, j)])).length else 0) := fun i j hl => by
        have hfp : fitP d pre u i = fitP d pre u j := by
          rw [Bool.eq_iff_iff, ← fitP_code hw hc i, ← fitP_code hw hc j]
          unfold cd
          rw [mk_agree (cdf_lt hw u i) hc.2.2.2.2, mk_agree (cdf_lt hw u j) hc.2.2.2.2]
          have hco : ∀ l, l < 8 → (dL d u &&& lset d s u).testBit l = true → cdf d u i l = cdf d u j l := fun l hl8 hb => by
            rw [Nat.testBit_and, Bool.and_eq_true] at hb
            unfold cdf
            rw [if_pos hb.1, if_pos hb.1]
            apply hl l hl8
            unfold oth
            rw [Nat.testBit_and, hb.1, Bool.true_and, lS_bit]
            obtain ⟨t, t1, t2, t3⟩ := (lset_bit s l u).mp hb.2
            refine ⟨t, by omega, ?_, t3⟩
            rw [andn_bit, t2, Nat.testBit_two_pow, decide_eq_false (by omega)]
            rfl
          exact ⟨fun z l h1 h2 => by rw [← hco l h1 h2]; exact z l h1 h2, fun z l h1 h2 => by rw [hco l h1 h2]; exact z l h1 h2⟩
        rw [hfp, enumA_congr (memFrom s (u + 1)) (pre ++ [(u, i)]) (pre ++ [(u, j)]) (fun t r ht => ?_)]
        obtain ⟨t1, t2⟩ := memFrom_in ht
        have htT : t < dT d := bit_lt hs t2
        unfold fitP
        rw [List.all_append, List.all_append]
        congr 1
        rw [List.all_cons, List.all_cons, List.all_nil, Bool.and_true, Bool.and_true, Bool.eq_iff_iff, fitL_iff, fitL_iff]
        have hco : ∀ l, l < 8 → (dL d u).testBit l = true → (dL d t).testBit l = true → dV d u i l = dV d u j l := fun l hl8 h1 h2 => by
          apply hl l hl8
          unfold oth
          rw [Nat.testBit_and, h1, Bool.true_and, lS_bit]
          refine ⟨t, htT, ?_, h2⟩
          rw [andn_bit, t2, Nat.testBit_two_pow, decide_eq_false (by omega)]
          rfl
        exact ⟨fun z l a b c => by rw [← hco l a b c]; exact z l a b c, fun z l a b c => by rw [hco l a b c]; exact z l a b c⟩
      have hsum := hW2 (fun i => if fitP d pre u i = true then (enumA d A (memFrom s (u + 1)) (pre ++ [(u, i)])).length else 0) hF
      have hsum2 : bsum (fun i => if (A u).testBit i = true ∧ fitP d pre u i = true then (enumA d A (memFrom s (u + 1)) (pre ++ [(u, i)])).length else 0) (dR d u) = bsum (fun i => w i * (if fitP d pre u i = true then (enumA d A (memFrom s (u + 1)) (pre ++ [(u, i)])).length else 0)) 8 := by
        rw [hsum, ← bsum_cut hR]
        exact bsum_congr (fun i _ => by
          by_cases h1 : i < dR d u
          · rw [if_pos h1]
            by_cases h2 : (A u).testBit i = true
            · by_cases h3 : fitP d pre u i = true
              · rw [if_pos ⟨h2, h3⟩, if_pos ⟨h1, h2⟩, if_pos h3]
              · rw [if_neg (fun z => h3 z.2), if_pos ⟨h1, h2⟩, if_neg h3]
            · rw [if_neg (fun z => h2 z.1), if_neg (fun z => h2 z.2)]
          · rw [if_neg h1, if_neg (fun z => h1 z.1)])
      rw [hsum2]
      refine loop_run (fun n (p : Int32 × Int32 × Int32 × Int32 × Int32) => f3_countFrom_l36 N (f3_countFrom N q nf) q n p.1 p.2.1 p.2.2.1 p.2.2.2.1 p.2.2.2.2) (fun k p => f3_countFrom_l36_B N (f3_countFrom N q nf) q (fun x1 x2 x3 x4 x5 => k (x1, x2, x3, x4, x5)) p.1 p.2.1 p.2.2.1 p.2.2.2.1 p.2.2.2.2) (fun n p => rfl) (fun i => (nI s, nI u, nI (nib g 8), nI (bsum (fun i => w i * (if fitP d pre u i = true then (enumA d A (memFrom s (u + 1)) (pre ++ [(u, i)])).length else 0)) i), nI i)) 8 _ (c := 0) ?_ ?_ N 0 (Nat.le_refl _) (Nat.zero_le _) (by omega)
      · intro i _ hi kk
        obtain ⟨w8, wR⟩ := hW1 i hi
        have hbs : bsum (fun i => w i * (if fitP d pre u i = true then (enumA d A (memFrom s (u + 1)) (pre ++ [(u, i)])).length else 0)) (i + 1) = bsum (fun i => w i * (if fitP d pre u i = true then (enumA d A (memFrom s (u + 1)) (pre ++ [(u, i)])).length else 0)) i + w i * (if fitP d pre u i = true then (enumA d A (memFrom s (u + 1)) (pre ++ [(u, i)])).length else 0) := rfl
        dsimp only
        rw [hbs]
        unfold f3_countFrom_l36_B f3_countFrom_b108
        rw [if_neg (show ¬ (8 : Int32) ≤ nI i from nI_ge (b := 8) hi (by decide)), show nI u * (8 : Int32) + nI i = nI (8 * u + i) from by rw [li8, pk_mul, nI_add, Nat.mul_comm], ck_nI (by omega) (by decide), ix_nI (by omega), e13 i hi, bn_e]
        by_cases hw0 : w i = 0
        · obtain ⟨c, hcc⟩ : ∃ c, f7_codeAt q (nI u) (nI i) = some c := by
            by_cases hiR : i < dR d u
            · exact ⟨_, c_codeAt hw h huT hiR⟩
            · exact ⟨_, c_codeAt_f hw h huT (by omega) (by omega)⟩
          rw [hcc, bd_s, hw0, if_pos (show nI 0 ≤ 0 by decide), Nat.zero_mul, nI_s, bn_e]
          rfl
        · have hiR : i < dR d u := by
            rcases Nat.lt_or_ge i (dR d u) with z | z
            · exact z
            · exact absurd (wR z) hw0
          rw [c_codeAt hw h huT hiR, bd_s, if_neg (show ¬ nI (w i) ≤ 0 from nI_ge (a := 0) (by omega) (by omega)), ck_nI (by omega) (by decide), ix_nI (by omega), e14, xor_nI (hcd i) hg]
          by_cases hfp : fitP d pre u i = true
          · obtain ⟨hc', hor⟩ := Con_s hw hbit hc hfp
            rw [if_pos ((xz (Nat.xor_lt_two_pow (hcd i) hg) hmk).mpr ((fitP_code hw hc i).mpr hfp)), or_nI hg (hcd i), hor, nI_s, ih (u + 1) nf _ _ (by omega) (by omega) hc', bd_s, pk_mul, nI_add, bn_e, nI_s, bn_e, if_pos hfp]
          · rw [if_neg (fun z => hfp ((fitP_code hw hc i).mp ((xz (Nat.xor_lt_two_pow (hcd i) hg) hmk).mp z))), nI_s, bn_e, if_neg hfp, Nat.mul_zero]
            rfl
      · intro kk
        dsimp only
        unfold f3_countFrom_l36_B
        rw [if_pos (show (8 : Int32) ≤ nI 8 by decide)]
def fr1314 (q q' : SS) : Prop := (∀ j, fi q' j = fi q j) ∧ (∀ k, k ≠ 13 → k ≠ 14 → ar q' k = ar q k) ∧ lo q' = lo q
theorem fr1314.tr {a b c : SS} (h : fr1314 a b) (g : fr1314 b c) : fr1314 a c := ⟨fun k => (g.1 k).trans (h.1 k), fun k h1 h2 => (g.2.1 k h1 h2).trans (h.2.1 k h1 h2), g.2.2.trans h.2.2⟩
theorem fr1314.same {a b : SS} (h : fr1314 a b) : sameC a b := ⟨fun k _ => h.1 k, fun k hk => h.2.1 k (by omega) (by omega)⟩
theorem c_counted (hw : WF d) (h : RC d q) (hN : 1000 ≤ N) (hs : s < 2 ^ dT d) (hA : ∀ u, A u < 256) (h12 : ∀ u, u < dT d → s.testBit u = true → ar q 12 u = nI (A u)) : ∃ q', f3_counted N (nI s) q = some (nI (enumA d A (mem s) []).length, q') ∧ fr1314 q q' := by
  have hT := hw.1
  have hs6 := s_lt hw hs
  obtain ⟨q', ⟨g1, g2⟩, hrun⟩ := loop_st (fun n (p : Int32 × Int32 × Int32 × SS) => f3_counted_l4 N n p.1 p.2.1 p.2.2.1 p.2.2.2) (fun k p => f3_counted_l4_B N (fun x1 x2 x3 x4 => k (x1, x2, x3, x4)) p.1 p.2.1 p.2.2.1 p.2.2.2) (fun n p => rfl) (fun u q => (nI s, nI (lset d s u), nI u, q)) (fun u q' => fr1314 q q' ∧ WLd d A s u q') 0 6 (fun q' => some (nI (enumA d A (mem s) []).length, q')) (by
    rintro u q1 - hu ⟨g1, g2⟩
    have e1 := bit_nI (a := s) (b := u) (by omega) (by omega)
    cases hbit : s.testBit u
    · refine ⟨q1, ⟨g1, fun v hv hb => ?_⟩, fun kk => ?_⟩
      · by_cases hvu : v = u
        · rw [hvu, hbit] at hb; cases hb
        · exact g2 v (by omega) hb
      · dsimp only
        unfold f3_counted_l4_B f3_counted_b72
        rw [if_neg (show ¬ (6 : Int32) ≤ nI u from nI_ge (b := 6) hu (by decide)), e1, hbit, if_neg (show ¬ nI (false).toNat = 1 by decide), nI_s, bn_e, lset_s, hbit, if_neg Bool.false_ne_true, Nat.or_zero]
    · have huT : u < dT d := bit_lt hs hbit
      have hLs := (hw.2.1 u huT).2.1
      have hls8 := lset_lt hw s u (by omega)
      have hle := andn_le s (2 ^ u)
      have h64 : 2 ^ u < 64 := pow_lt6 hu
      have hlS := lS_lt hw (andn s (2 ^ u))
      have hq2 : fr1314 q (sa q1 14 u (nI (mk (dL d u &&& lset d s u)))) := ⟨fun j => g1.1 j, fun k h1 h2 => by funext m; rw [ar_sa, if_neg h2, g1.2.1 k h1 h2], g1.2.2⟩
      have hRC := h.same g1.same
      have hRC2 := h.same hq2.same
      obtain ⟨q3, w, r1, r2, r3, r4, r5⟩ := c_weigh (N := N) (s := s) hw hRC2 hN huT (hA u) (by rw [hq2.2.1 12 (by decide) (by decide)]; exact h12 u huT hbit)
      refine ⟨q3, ⟨⟨fun j => (r2.1 j).trans (hq2.1 j), fun k a b => (r2.2.1 k a).trans (hq2.2.1 k a b), r2.2.2.trans hq2.2.2⟩, fun v hv hb => ?_⟩, fun kk => ?_⟩
      · rw [r2.2.1 14 (by decide), ar_sa, if_pos rfl]
        by_cases hvu : v = u
        · subst hvu
          rw [if_pos rfl]
          exact ⟨rfl, w, r4, r5⟩
        · rw [if_neg hvu]
          obtain ⟨a1, w', a2, a3⟩ := g2 v (by omega) hb
          refine ⟨a1, w', fun i hi => ?_, a3⟩
          rw [r3 _ (by omega), ar_sa, if_neg (by decide)]
          exact a2 i hi
      · have hr1 : f3_weigh N (nI u) (nI (mk (dL d u &&& lS d (andn s (2 ^ u))))) (sa q1 14 u (nI (mk (dL d u &&& lset d s u)))) = some q3 := r1
        dsimp only
        unfold f3_counted_l4_B f3_counted_b72
        rw [if_neg (show ¬ (6 : Int32) ≤ nI u from nI_ge (b := 6) hu (by decide)), e1, hbit, if_pos (show nI (true).toNat = 1 from rfl), c_lettersOf hw hRC huT, bd_s, and_nI (by omega) (by omega), c_maskOf hN (Nat.lt_of_le_of_lt Nat.and_le_left hLs), bd_s, ck_nI hu (by decide), ix_nI (by omega), bn_e, or_nI (by omega) (by omega), bn_e, shl1 (by omega), andn_nI (by omega) (by omega), c_lettersOfSet hw hRC2 hN (by omega), bd_s, and_nI (by omega) (by omega), c_maskOf hN (Nat.lt_of_le_of_lt Nat.and_le_left hLs), bd_s, hr1, bd_s, nI_s, bn_e, lset_s, hbit, if_pos rfl]) (by
    rintro q1 ⟨g1, g2⟩ kk
    have hc := c_countFrom (N := N) hw (h.same g1.same) hN hs hA g2 6 0 8 [] (fun _ => 0) (by omega) (by omega) ⟨fun x hx => (by cases hx), fun l _ hb => (by rw [show lset d s 0 = 0 from rfl, Nat.zero_testBit] at hb; cases hb), fun _ _ => rfl, fun x hx => (by cases hx), fun _ => (show 0 < 16 by decide)⟩
    rw [memFrom_0, show nib (fun _ => 0) 8 = 0 from rfl] at hc
    have hc2 : f3_countFrom N q1 8 (nI s) 0 0 = some (nI (enumA d A (mem s) []).length) := hc
    dsimp only
    unfold f3_counted_l4_B
    rw [if_pos (show (6 : Int32) ≤ nI 6 by decide), hc2, bd_s]) N 0 q (by omega) (by omega) (by omega) ⟨⟨fun _ => rfl, fun _ _ _ => rfl, rfl⟩, fun v hv => by omega⟩
  exact ⟨q', hrun, g1⟩
theorem flatMap_cg {α β : Type} {f g : α → List β} : ∀ (l : List α), (∀ x, x ∈ l → f x = g x) → l.flatMap f = l.flatMap g
  | [], _ => rfl
  | x :: l, h => by rw [List.flatMap_cons, List.flatMap_cons, h x (List.mem_cons_self ..), flatMap_cg l (fun y hy => h y (List.mem_cons_of_mem _ hy))]
/-- with every row allowed, all joined rows -/
theorem enumA_all (hw : WF d) (hA : ∀ t i, i < dR d t → (A t).testBit i = true) : ∀ (ts : List Nat) (pre : List (Nat × Nat)), enumA d A ts pre = enumF (dL d) (dR d) (dV d) ts pre
  | [], _ => rfl
  | t :: ts, pre => by
    show List.flatMap _ _ = List.flatMap _ _
    apply flatMap_cg
    intro i hi
    rw [enumA_all hw hA ts]
    by_cases hf : fitP d pre t i = true
    · rw [if_pos ⟨hA t i (List.mem_range.mp hi), hf⟩]
      exact (if_pos hf).symm
    · rw [if_neg (fun z => hf z.2)]
      exact (if_neg hf).symm
end CountFrom
