/-! the class's search for one joined row -/
section Find
variable {N : Nat} {d : DB} {q : SS} {s : Nat} {A : Nat → Nat}
def accT (s : Nat) (E : Nat → Nat) (u : Nat) : List (Nat × Nat) := (memTo s u).map (fun v => (v, E v))
theorem accT_s (E : Nat → Nat) (u : Nat) : accT s E (u + 1) = accT s E u ++ (if s.testBit u then [(u, E u)] else []) := by
  unfold accT
  rw [memTo_s, List.map_append]
  congr 1
  cases s.testBit u <;> rfl
theorem memTo_in {u v : Nat} (h : v ∈ memTo s u) : v < u ∧ s.testBit v = true := by
  unfold memTo at h
  rw [List.mem_filter, List.mem_range] at h
  exact h
theorem accT_congr {E E' : Nat → Nat} {u : Nat} (h : ∀ v, v < u → s.testBit v = true → E v = E' v) : accT s E u = accT s E' u := List.map_congr_left (fun v hv => by rw [h v (memTo_in hv).1 (memTo_in hv).2])
def Lu (d : DB) (s : Nat) (E : Nat → Nat) (u : Nat) : List (List Nat) := enumF (dL d) (dR d) (dV d) (memFrom s u) (accT s E u)
theorem enumA_all2 : ∀ (ts : List Nat) (pre : List (Nat × Nat)), (∀ t i, t ∈ ts → i < dR d t → (A t).testBit i = true) → enumA d A ts pre = enumF (dL d) (dR d) (dV d) ts pre
  | [], _, _ => rfl
  | t :: ts, pre, hA => by
    show List.flatMap _ _ = List.flatMap _ _
    apply flatMap_cg
    intro i hi
    rw [enumA_all2 ts _ (fun t' i' h1 h2 => hA t' i' (List.mem_cons_of_mem _ h1) h2)]
    by_cases hf : fitP d pre t i = true
    · rw [if_pos ⟨hA t i (List.mem_cons_self ..) (List.mem_range.mp hi), hf⟩]
      exact (if_pos hf).symm
    · rw [if_neg (fun z => hf z.2)]
      exact (if_neg hf).symm
theorem enumA_one {t c : Nat} (ts : List Nat) (pre : List (Nat × Nat)) (hc : c < dR d t) (hA : ∀ i, i < dR d t → ((A t).testBit i = true ↔ i = c)) : (enumA d A (t :: ts) pre).length = if fitP d pre t c = true then (enumA d A ts (pre ++ [(t, c)])).length else 0 := by
  rw [enumA_len]
  have h1 := bsum_upd (f := fun _ => 0) (g := fun i => if (A t).testBit i = true ∧ fitP d pre t i = true then (enumA d A ts (pre ++ [(t, i)])).length else 0) (a := c) (x := if fitP d pre t c = true then (enumA d A ts (pre ++ [(t, c)])).length else 0) (n := dR d t) hc (fun i hi => by
    by_cases hic : i = c
    · subst hic
      rw [if_pos rfl, Nat.zero_add]
      by_cases hf : fitP d pre t i = true
      · rw [if_pos ⟨(hA i hi).mpr rfl, hf⟩, if_pos hf]
      · rw [if_neg (fun z => hf z.2), if_neg hf]
    · rw [if_neg hic, if_neg (fun z => hic ((hA i hi).mp z.1))])
  rw [h1, bsum_const, Nat.zero_mul, Nat.zero_add]
/-- the rows E are fixed below u and fit -/
def FixE (d : DB) (s : Nat) (E : Nat → Nat) (u : Nat) : Prop := ∀ v, v < u → s.testBit v = true → E v < dR d v ∧ fitP d (accT s E v) v (E v) = true
theorem count_fix {E : Nat → Nat} {u i : Nat} (hu : u < 6) (hb : s.testBit u = true) (hE : FixE d s E u) (hi : i < dR d u) (hA1 : ∀ v, v < u → s.testBit v = true → ∀ r, r < dR d v → ((A v).testBit r = true ↔ r = E v)) (hA2 : ∀ r, r < dR d u → ((A u).testBit r = true ↔ r = i)) (hA3 : ∀ v, u < v → ∀ r, r < dR d v → (A v).testBit r = true) : (enumA d A (mem s) []).length = if fitP d (accT s E u) u i = true then (enumF (dL d) (dR d) (dV d) (memFrom s (u + 1)) (accT s E u ++ [(u, i)])).length else 0 := by
  have key : ∀ v, v ≤ u → (enumA d A (mem s) []).length = (enumA d A (memFrom s v) (accT s E v)).length := by
    intro v
    induction v with
    | zero => intro _; rw [memFrom_0]; rfl
    | succ v ih =>
      intro hv
      rw [ih (by omega), memFrom_s (show v < 6 by omega), accT_s]
      cases hbv : s.testBit v
      · rw [if_neg Bool.false_ne_true, if_neg Bool.false_ne_true, List.append_nil]
      · obtain ⟨h1, h2⟩ := hE v (by omega) hbv
        rw [if_pos rfl, if_pos rfl, enumA_one _ _ h1 (hA1 v (by omega) hbv), if_pos h2]
  rw [key u (Nat.le_refl _), memFrom_s hu, if_pos hb, enumA_one _ _ hi hA2, enumA_all2 _ _ (fun t r ht hr => hA3 t (by have := (memFrom_in ht).1; omega) r hr)]
/-- rows of table u from the i-th on -/
def blkT (d : DB) (s : Nat) (E : Nat → Nat) (u i : Nat) : List (List Nat) := (List.range' i (dR d u - i)).flatMap (fun i => if fitP d (accT s E u) u i then (enumF (dL d) (dR d) (dV d) (memFrom s (u + 1)) (accT s E u ++ [(u, i)])).map (fun z => i :: z) else [])
theorem blkT_0 {E : Nat → Nat} {u : Nat} (hu : u < 6) (hb : s.testBit u = true) : Lu d s E u = blkT d s E u 0 := by
  unfold Lu blkT
  rw [memFrom_s hu, if_pos hb, Nat.sub_zero, ← List.range_eq_range']
  rfl
theorem blkT_s {E : Nat → Nat} {u i : Nat} (hi : i < dR d u) : blkT d s E u i = (if fitP d (accT s E u) u i then (enumF (dL d) (dR d) (dV d) (memFrom s (u + 1)) (accT s E u ++ [(u, i)])).map (fun z => i :: z) else []) ++ blkT d s E u (i + 1) := by
  unfold blkT
  rw [show dR d u - i = (dR d u - (i + 1)) + 1 by omega, List.range'_succ, List.flatMap_cons]
theorem blkT_e {E : Nat → Nat} {u i : Nat} (hi : dR d u ≤ i) : blkT d s E u i = [] := by
  unfold blkT
  rw [show dR d u - i = 0 by omega]
  rfl
theorem blkT_len (hw : WF d) {E : Nat → Nat} {u i : Nat} : (blkT d s E u i).length ≤ 2 ^ 30 := by
  have h1 := flatMap_len (fun i => if fitP d (accT s E u) u i then (enumF (dL d) (dR d) (dV d) (memFrom s (u + 1)) (accT s E u ++ [(u, i)])).map (fun z => i :: z) else []) (8 ^ 6) (List.range' i (dR d u - i)) (fun i _ => by
    split
    · rw [List.length_map]
      refine Nat.le_trans (enum_len hw _ _) (Nat.pow_le_pow_right (by decide) ?_)
      unfold memFrom
      refine Nat.le_trans (List.length_filter_le _ _) ?_
      rw [List.length_range']
      omega
    · exact Nat.zero_le _)
  rw [List.length_range'] at h1
  have h2 := R8 hw u
  have h3 : (dR d u - i) * 8 ^ 6 ≤ 8 * 8 ^ 6 := Nat.mul_le_mul_right _ (by omega)
  show (List.flatMap _ _).length ≤ _
  omega
theorem pow_bit {c r : Nat} : (2 ^ c).testBit r = true ↔ r = c := by
  rw [Nat.testBit_two_pow, decide_eq_true_iff]
  exact ⟨fun h => h.symm, fun h => h.symm⟩
theorem c_fix_loop (hw : WF d) (hN : 1000 ≤ N) (hs : s < 2 ^ dT d) {E : Nat → Nat} {u : Nat} (hb : s.testBit u = true) (hE : FixE d s E u) : ∀ (n i k : Nat) (z : List Nat) (q : SS) (f : Nat), i + n = dR d u → n < f → RC d q → (∀ v, v < u → s.testBit v = true → ar q 12 v = nI (2 ^ E v)) → (∀ v, u < v → v < 6 → ar q 12 v = nI 255) → (blkT d s E u i)[k]? = some z →
    ∃ i0 k0 z' q', i0 < dR d u ∧ fitP d (accT s E u) u i0 = true ∧ (enumF (dL d) (dR d) (dV d) (memFrom s (u + 1)) (accT s E u ++ [(u, i0)]))[k0]? = some z' ∧ z = i0 :: z' ∧ f3_fixRow_l6 N f (nI s) (nI u) (nI k) (nI i) q = some (nI k0, q') ∧ frS q q' ∧ (∀ v, ar q' 12 v = if v = u then nI (2 ^ i0) else ar q 12 v) ∧ (∀ v, ar q' 15 v = if v = u then nI i0 else ar q 15 v) := by
  have hT := hw.1
  have huT : u < dT d := bit_lt hs hb
  have hR := R8 hw u
  intro n
  induction n with
  | zero =>
    intro i k z q f hi _ _ _ _ hz
    rw [blkT_e (by omega)] at hz
    cases hz
  | succ n ih =>
    intro i k z q f hi hf hC h1 h2 hz
    obtain ⟨f, rfl⟩ : ∃ f', f = f' + 1 := ⟨f - 1, by omega⟩
    have hiR : i < dR d u := by omega
    have hlen : k < (blkT d s E u i).length := by
      rcases Nat.lt_or_ge k (blkT d s E u i).length with a | a
      · exact a
      · rw [List.getElem?_eq_none a] at hz; cases hz
    have hk30 : k < 2 ^ 30 := Nat.lt_of_lt_of_le hlen (blkT_len hw)
    have hq1 : frS q (sa (sa q 12 u (nI (2 ^ i))) 15 u (nI i)) := ⟨fun _ => rfl, fun k a _ _ b => by funext m; rw [ar_sa, if_neg b, ar_sa, if_neg a], rfl⟩
    have hC1 := hC.same hq1.same
    have hi256 : 2 ^ i < 256 := Nat.pow_lt_pow_right (n := 8) (by decide) (by omega)
    have hEv : ∀ v, v < u → s.testBit v = true → 2 ^ E v % 256 = 2 ^ E v := fun v hv hbv => by
      have := (hE v hv hbv).1
      have h8 := R8 hw v
      exact Nat.mod_eq_of_lt (Nat.pow_lt_pow_right (n := 8) (by decide) (by omega))
    obtain ⟨A, hA0⟩ : ∃ A : Nat → Nat, A = fun v => if v < u then 2 ^ E v % 256 else if v = u then 2 ^ i else 255 := ⟨_, rfl⟩
    have a1 : ∀ v, v < u → A v = 2 ^ E v % 256 := fun v hv => by rw [hA0]; exact if_pos hv
    have a2 : A u = 2 ^ i := by
      rw [hA0]
      show (if u < u then _ else if u = u then 2 ^ i else 255) = _
      rw [if_neg (Nat.lt_irrefl _), if_pos rfl]
    have a3 : ∀ v, u < v → A v = 255 := fun v hv => by
      rw [hA0]
      show (if v < u then _ else if v = u then 2 ^ i else 255) = _
      rw [if_neg (by omega), if_neg (by omega)]
    obtain ⟨q2, r2, f2⟩ := c_counted (A := A) (N := N) hw hC1 hN hs (fun v => by
      rcases Nat.lt_trichotomy v u with z | z | z
      · rw [a1 v z]; exact Nat.mod_lt _ (by decide)
      · rw [z, a2]; exact hi256
      · rw [a3 v z]; decide) (fun v hv hbv => by
      rw [ar_sa, if_neg (by decide), ar_sa, if_pos rfl]
      rcases Nat.lt_trichotomy v u with z | z | z
      · rw [if_neg (by omega), a1 v z, hEv v z hbv]; exact h1 v z hbv
      · rw [if_pos z, z, a2]
      · rw [if_neg (by omega), a3 v z]; exact h2 v z (by omega))
    rw [count_fix (by omega) hb hE hiR (fun v hv hbv r _ => by rw [a1 v hv, hEv v hv hbv]; exact pow_bit) (fun r _ => by rw [a2]; exact pow_bit) (fun v hv r hr => by rw [a3 v hv]; exact bit255 (Nat.lt_of_lt_of_le hr (R8 hw v)))] at r2
    have f12 := hq1.tr f2.S
    have c12 : ∀ v, ar q2 12 v = if v = u then nI (2 ^ i) else ar q 12 v := fun v => by
      rw [f2.2.1 12 (by decide) (by decide), ar_sa, if_neg (by decide), ar_sa, if_pos rfl]
    have c15 : ∀ v, ar q2 15 v = if v = u then nI i else ar q 15 v := fun v => by
      rw [f2.2.1 15 (by decide) (by decide), ar_sa, if_pos rfl, ar_sa, if_neg (show ¬ (15 : Nat) = 12 by decide)]
    have hXlen : (if fitP d (accT s E u) u i then (enumF (dL d) (dR d) (dV d) (memFrom s (u + 1)) (accT s E u ++ [(u, i)])).map (fun z => i :: z) else []).length = if fitP d (accT s E u) u i = true then (enumF (dL d) (dR d) (dV d) (memFrom s (u + 1)) (accT s E u ++ [(u, i)])).length else 0 := by
      split
      · rw [List.length_map]
      · rfl
    have hc30 : (if fitP d (accT s E u) u i = true then (enumF (dL d) (dR d) (dV d) (memFrom s (u + 1)) (accT s E u ++ [(u, i)])).length else 0) ≤ 2 ^ 30 := by
      have := blkT_len (s := s) hw (E := E) (u := u) (i := i)
      rw [blkT_s hiR, List.length_append, hXlen] at this
      omega
    have hstep : f3_fixRow_l6 N (f + 1) (nI s) (nI u) (nI k) (nI i) q = if nI (if fitP d (accT s E u) u i = true then (enumF (dL d) (dR d) (dV d) (memFrom s (u + 1)) (accT s E u ++ [(u, i)])).length else 0) ≤ nI k then f3_fixRow_l6 N f (nI s) (nI u) (nI k - nI (if fitP d (accT s E u) u i = true then (enumF (dL d) (dR d) (dV d) (memFrom s (u + 1)) (accT s E u ++ [(u, i)])).length else 0)) (nI (i + 1)) q2 else some (nI k, q2) := by
      show f3_fixRow_l6_B N (f3_fixRow_l6 N f) _ _ _ _ _ = _
      unfold f3_fixRow_l6_B
      rw [c_rowsOf hw hC (by omega), bd_s, if_neg (nI_ge hiR (by omega)), ck_nI (by omega) (by decide), ix_nI (by omega), shl1 (by omega), bn_e, ck_nI (by omega) (by decide), bn_e, r2, bd2_s, nI_s, bn_e, bn_e]
    rw [blkT_s hiR, List.getElem?_append, hXlen] at hz
    rw [hstep]
    generalize hcc : (if fitP d (accT s E u) u i = true then (enumF (dL d) (dR d) (dV d) (memFrom s (u + 1)) (accT s E u ++ [(u, i)])).length else 0) = c at *
    by_cases hkc : k < c
    · have hfit : fitP d (accT s E u) u i = true := by
        by_cases hff : fitP d (accT s E u) u i = true
        · exact hff
        · rw [if_neg hff] at hcc; omega
      rw [if_pos hkc, if_pos hfit, List.getElem?_map] at hz
      rw [if_neg (nI_ge hkc (by omega))]
      cases hg : (enumF (dL d) (dR d) (dV d) (memFrom s (u + 1)) (accT s E u ++ [(u, i)]))[k]? with
      | none => rw [hg] at hz; cases hz
      | some z' =>
        rw [hg] at hz
        have hz : i :: z' = z := Option.some.inj hz
        exact ⟨i, k, z', q2, hiR, hfit, hg, hz.symm, rfl, f12, c12, c15⟩
    · rw [if_neg hkc] at hz
      rw [if_pos (nI_le (by omega) (by omega)), pk_sub (by omega)]
      obtain ⟨i0, k0, z', q', b1, b2, b3, b4, b5, b6, b7, b8⟩ := ih (i + 1) (k - c) z q2 f (by omega) (by omega) (hC.same f12.same) (fun v hv hbv => by rw [c12, if_neg (by omega)]; exact h1 v hv hbv) (fun v hv hv6 => by rw [c12, if_neg (by omega)]; exact h2 v hv hv6) hz
      refine ⟨i0, k0, z', q', b1, b2, b3, b4, b5, f12.tr b6, fun v => ?_, fun v => ?_⟩
      · rw [b7]
        by_cases hvu : v = u
        · rw [if_pos hvu, if_pos hvu]
        · rw [if_neg hvu, if_neg hvu, c12, if_neg hvu]
      · rw [b8]
        by_cases hvu : v = u
        · rw [if_pos hvu, if_pos hvu]
        · rw [if_neg hvu, if_neg hvu, c15, if_neg hvu]
theorem c_find (hw : WF d) (h : RC d q) (hN : 1000 ≤ N) (hs : s < 2 ^ dT d) {K : Nat} (hK : K < 2 ^ 31) : ∃ q', frS q q' ∧ ((tsz d s ≤ K ∧ f3_find N (nI s) (nI K) q = some (0, q')) ∨ (∃ E, f3_find N (nI s) (nI K) q = some (1, q') ∧ FixE d s E 6 ∧ (jr d s)[K]? = some ((mem s).map E) ∧ ∀ v, v < 6 → s.testBit v = true → ar q' 15 v = nI (E v))) := by
  have hT := hw.1
  have hs6 := s_lt hw hs
  have htz := tsz_le hw s
  obtain ⟨q1, r1, f1, al⟩ := c_allow (N := N) (q := q) hN
  obtain ⟨q2, r2, f2⟩ := c_counted (A := fun _ => 255) (N := N) hw (h.same f1.S.same) hN hs (fun _ => by decide) (fun u hu _ => al u (by omega))
  have r2' : f3_counted N (nI s) q1 = some (nI (tsz d s), q2) := by
    rw [r2, enumA_all hw (fun t i hi => bit255 (Nat.lt_of_lt_of_le hi (R8 hw t)))]
    rfl
  have hstart : f3_find N (nI s) (nI K) q = if nI K < nI (tsz d s) then f3_find_l24 N N (nI s) (nI K) 0 q2 else some (0, q2) := by
    unfold f3_find
    rw [r1, bd_s, if_neg (show ¬ nI K < 0 from nI_nlt (b := 0) (Nat.zero_le _) hK), r2', bd2_s]
  by_cases hlt : K < tsz d s
  · obtain ⟨x, hx⟩ : ∃ x, (jr d s)[K]? = some x := ⟨_, List.getElem?_eq_getElem (show K < (jr d s).length from hlt)⟩
    obtain ⟨m, p, ⟨q3, E, k', z, hp, g1, g2, g3, g4, g5, g6⟩, hrun⟩ := loop_inv (fun n (p : Int32 × Int32 × Int32 × SS) => f3_find_l24 N n p.1 p.2.1 p.2.2.1 p.2.2.2) (fun k p => f3_find_l24_B N (fun x1 x2 x3 x4 => k (x1, x2, x3, x4)) p.1 p.2.1 p.2.2.1 p.2.2.2) (fun n p => rfl) (fun u p => ∃ q3 E k' z, p = (nI s, nI k', nI u, q3) ∧ frS q q3 ∧ FixE d s E u ∧ (Lu d s E u)[k']? = some z ∧ x = (memTo s u).map E ++ z ∧ (∀ v, v < u → s.testBit v = true → ar q3 12 v = nI (2 ^ E v) ∧ ar q3 15 v = nI (E v)) ∧ (∀ v, u ≤ v → v < 6 → ar q3 12 v = nI 255)) 6 (by
      rintro u p hu ⟨q3, E, k', z, rfl, g1, g2, g3, g4, g5, g6⟩
      have e1 := bit_nI (a := s) (b := u) (by omega) (by omega)
      cases hb : s.testBit u
      · refine ⟨(nI s, nI k', nI (u + 1), q3), ⟨q3, E, k', z, rfl, g1, fun v hv hbv => ?_, ?_, ?_, fun v hv hbv => ?_, fun v hv hv6 => g6 v (by omega) hv6⟩, fun k => ?_⟩
        · have hvu : v ≠ u := fun e => by rw [e, hb] at hbv; cases hbv
          exact g2 v (by omega) hbv
        · unfold Lu at g3 ⊢
          rw [memFrom_s hu, hb, if_neg Bool.false_ne_true] at g3
          rw [accT_s, hb, if_neg Bool.false_ne_true, List.append_nil]
          exact g3
        · rw [memTo_s, hb, if_neg Bool.false_ne_true, List.append_nil]
          exact g4
        · have hvu : v ≠ u := fun e => by rw [e, hb] at hbv; cases hbv
          exact g5 v (by omega) hbv
        · dsimp only
          unfold f3_find_l24_B f3_find_b50
          rw [if_neg (show ¬ (6 : Int32) ≤ nI u from nI_ge (b := 6) hu (by decide)), e1, hb, if_neg (show ¬ nI (false).toNat = 1 by decide), nI_s, bn_e]
      · have hR := R8 hw u
        rw [blkT_0 hu hb] at g3
        obtain ⟨i0, k0, z', q4, b1, b2, b3, b4, b5, b6, b7, b8⟩ := c_fix_loop (N := N) hw hN hs hb g2 (dR d u) 0 k' z q3 N (by omega) (by omega) (h.same g1.same) (fun v hv hbv => (g5 v hv hbv).1) (fun v hv hv6 => g6 v (by omega) hv6) g3
        have hEv : ∀ v, v < u → uE E u i0 v = E v := fun v hv => uE_ne (by omega)
        have hacc : ∀ v, v ≤ u → accT s (uE E u i0) v = accT s E v := fun v hv => accT_congr (fun w hw _ => hEv w (by omega))
        refine ⟨(nI s, nI k0, nI (u + 1), q4), ⟨q4, uE E u i0, k0, z', rfl, g1.tr b6, fun v hv hbv => ?_, ?_, ?_, fun v hv hbv => ?_, fun v hv hv6 => ?_⟩, fun k => ?_⟩
        · rw [hacc v (by omega)]
          by_cases hvu : v = u
          · subst hvu
            rw [uE_self]
            exact ⟨b1, b2⟩
          · rw [hEv v (by omega)]
            exact g2 v (by omega) hbv
        · unfold Lu
          rw [accT_s, hb, if_pos rfl, hacc u (Nat.le_refl _), uE_self]
          exact b3
        · rw [memTo_s, hb, if_pos rfl, List.map_append, List.append_assoc, g4, b4]
          congr 1
          · exact List.map_congr_left (fun v hv => (hEv v (memTo_in hv).1).symm)
          · rw [List.map_cons, List.map_nil, uE_self]
            rfl
        · rw [b7, b8]
          by_cases hvu : v = u
          · rw [if_pos hvu, if_pos hvu, hvu, uE_self]
            exact ⟨rfl, rfl⟩
          · rw [if_neg hvu, if_neg hvu, hEv v (by omega)]
            exact g5 v (by omega) hbv
        · rw [b7, if_neg (by omega)]
          exact g6 v (by omega) hv6
        · have b5' : f3_fixRow N (nI s) (nI u) (nI k') q3 = some (nI k0, q4) := b5
          dsimp only
          unfold f3_find_l24_B f3_find_b50
          rw [if_neg (show ¬ (6 : Int32) ≤ nI u from nI_ge (b := 6) hu (by decide)), e1, hb, if_pos (show nI (true).toNat = 1 from rfl), b5', bd2_s, nI_s, bn_e]) N 0 (nI s, nI K, nI 0, q2) (by omega) (by omega) ⟨q2, fun _ => 0, K, x, rfl, f1.S.tr f2.S, fun v hv => by omega, by unfold Lu; rw [memFrom_0]; exact hx, rfl, fun v hv => by omega, fun v _ hv6 => by rw [f2.2.1 12 (by decide) (by decide)]; exact al v hv6⟩
    subst hp
    have hz : z = [] := by
      unfold Lu at g3
      rw [memFrom_6] at g3
      have g3 : ([[]] : List (List Nat))[k']? = some z := g3
      cases k' with
      | zero => exact (Option.some.inj g3).symm
      | succ k' => cases g3
    subst hz
    rw [List.append_nil] at g4
    refine ⟨q3, g1, Or.inr ⟨E, ?_, g2, by rw [hx, g4]; rfl, fun v hv hbv => (g5 v hv hbv).2⟩⟩
    rw [hstart, if_pos (nI_lt hlt (by omega))]
    refine Eq.trans hrun ?_
    unfold f3_find_l24_B
    rw [if_pos (show (6 : Int32) ≤ nI 6 by decide)]
  · refine ⟨q2, f1.S.tr f2.S, Or.inl ⟨by omega, ?_⟩⟩
    rw [hstart, if_neg (nI_nlt (by omega) (by omega))]
end Find
