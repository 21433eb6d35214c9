/-! the class's weights -/
section Weigh
variable {N : Nat} {d : DB} {q : SS}
def oth (d : DB) (s u : Nat) : Nat := dL d u &&& lS d (andn s (2 ^ u))
def like (d : DB) (s u i j : Nat) : Prop := ∀ l, l < 8 → (oth d s u).testBit l = true → dV d u i l = dV d u j l
/-- numbers that stand for all rows of their likes -/
def Wok (d : DB) (s u a n : Nat) (w : Nat → Nat) : Prop := (∀ i, i < n → w i ≤ n ∧ (dR d u ≤ i → w i = 0)) ∧ ∀ F : Nat → Nat, (∀ i j, like d s u i j → F i = F j) → bsum (fun i => w i * F i) n = bsum (fun i => if i < dR d u ∧ a.testBit i = true then F i else 0) n
theorem code_like (hw : WF d) (s u i j : Nat) : (((cd d u i ^^^ cd d u j) &&& mk (oth d s u)) = 0) ↔ like d s u i j := by
  unfold cd
  rw [mk_agree (cdf_lt hw u i) (cdf_lt hw u j)]
  have hb : ∀ l, (oth d s u).testBit l = true → (dL d u).testBit l = true := fun l h => by
    unfold oth at h
    rw [Nat.testBit_and, Bool.and_eq_true] at h
    exact h.1
  constructor
  · intro h l hl h1
    have := h l hl h1
    unfold cdf at this
    rw [if_pos (hb l h1), if_pos (hb l h1)] at this
    exact this
  · intro h l hl h1
    unfold cdf
    rw [if_pos (hb l h1), if_pos (hb l h1)]
    exact h l hl h1
def fr13 (q q' : SS) : Prop := (∀ j, fi q' j = fi q j) ∧ (∀ k, k ≠ 13 → ar q' k = ar q k) ∧ lo q' = lo q
theorem xz {a m : Nat} (ha : a < 2 ^ 32) (hm : m < 2 ^ 32) : (nI a &&& nI m = 0) ↔ a &&& m = 0 := by
  rw [and_nI ha hm]
  have hl := Nat.and_lt_two_pow a hm
  constructor
  · intro e
    have h1 := congrArg (fun x : Int32 => x.toBitVec.toNat) e
    rw [tn_nI hl] at h1
    exact h1
  · intro e
    rw [e]
    rfl
theorem c_firstLike (hw : WF d) (h : RC d q) {s u n : Nat} {w : Nat → Nat} (hN : 1000 ≤ N) (hu : u < dT d) (hn : n < dR d u) (hw13 : ∀ i, i < n → ar q 13 (8 * u + i) = nI (w i)) (hw8 : ∀ i, i < n → w i ≤ n) : ∃ f, f ≤ n ∧ f3_firstLike N q (nI u) (nI n) (nI (mk (oth d s u))) = some (nI f) ∧ like d s u f n := by
  have hT := hw.1
  have hR := R8 hw u
  have hcd := cd_lt hw
  have hmk := mk_lt (oth d s u)
  let p : Nat → Bool := fun j => decide (0 < w j ∧ (cd d u n ^^^ cd d u j) &&& mk (oth d s u) = 0)
  obtain ⟨f1, f2, f3, f4⟩ := ff_spec p n 0
  refine ⟨ff p 0 n, by omega, ?_, ?_⟩
  · unfold f3_firstLike
    rw [c_codeAt hw h hu hn, bd_s]
    refine loop_find (fun n (p : Int32 × Int32 × Int32 × Int32 × Int32) => f3_firstLike_l14 N q n p.1 p.2.1 p.2.2.1 p.2.2.2.1 p.2.2.2.2) (fun k p => f3_firstLike_l14_B N q (fun x1 x2 x3 x4 x5 => k (x1, x2, x3, x4, x5)) p.1 p.2.1 p.2.2.1 p.2.2.2.1 p.2.2.2.2) (fun n p => rfl) (fun j => (nI u, nI n, nI (mk (oth d s u)), nI (cd d u n), nI j)) p n (fun k => some (nI k)) (c := 0) ?_ ?_ n N 0 (by omega) (by omega) (by omega)
    · intro j _ hj k
      have hj8 := hw8 j hj
      dsimp only
      unfold f3_firstLike_l14_B f3_firstLike_b56
      rw [if_neg (nI_ge hj (by omega)), show nI u * (8 : Int32) + nI j = nI (8 * u + j) from by rw [li8, pk_mul, nI_add, Nat.mul_comm], ck_nI (by omega) (by decide), ix_nI (by omega), hw13 j hj, c_codeAt hw h hu (by omega), bd_s, nI_s, bn_e, xor_nI (hcd u n) (hcd u j)]
      show _ = if decide (0 < w j ∧ (cd d u n ^^^ cd d u j) &&& mk (oth d s u) = 0) = true then _ else _
      by_cases hw0 : 0 < w j
      · rw [if_neg (show ¬ nI (w j) ≤ 0 from nI_ge (a := 0) hw0 (by omega))]
        by_cases hz : (cd d u n ^^^ cd d u j) &&& mk (oth d s u) = 0
        · rw [if_pos ((xz (Nat.xor_lt_two_pow (hcd u n) (hcd u j)) hmk).mpr hz), decide_eq_true ⟨hw0, hz⟩, if_pos rfl]
        · rw [if_neg (fun z => hz ((xz (Nat.xor_lt_two_pow (hcd u n) (hcd u j)) hmk).mp z)), decide_eq_false (fun z => hz z.2), if_neg Bool.false_ne_true]
      · rw [if_pos (show nI (w j) ≤ 0 from nI_le (b := 0) (by omega) (by decide)), decide_eq_false (fun z => hw0 z.1), if_neg Bool.false_ne_true]
    · intro k
      dsimp only
      unfold f3_firstLike_l14_B
      rw [if_pos (nI_le (Nat.le_refl _) (by omega))]
  · by_cases hlt : ff p 0 n < n
    · have h1 := of_decide_eq_true (f4 (by omega))
      have h2 := (code_like hw s u n (ff p 0 n)).mp h1.2
      exact fun l hl hb => (h2 l hl hb).symm
    · rw [show ff p 0 n = n by omega]
      exact fun _ _ _ => rfl
theorem c_weigh (hw : WF d) (h : RC d q) {s u a : Nat} (hN : 1000 ≤ N) (hu : u < dT d) (ha : a < 256) (h12 : ar q 12 u = nI a) : ∃ q' w, f3_weigh N (nI u) (nI (mk (oth d s u))) q = some q' ∧ fr13 q q' ∧ (∀ m, (m < 8 * u ∨ 8 * u + 8 ≤ m) → ar q' 13 m = ar q 13 m) ∧ (∀ i, i < 8 → ar q' 13 (8 * u + i) = nI (w i)) ∧ Wok d s u a 8 w := by
  have hT := hw.1
  have hR := R8 hw u
  obtain ⟨q', ⟨g1, g2, w, g3, g4⟩, hrun⟩ := loop_st (fun n (p : Int32 × Int32 × Int32 × Int32 × SS) => f3_weigh_l8 N n p.1 p.2.1 p.2.2.1 p.2.2.2.1 p.2.2.2.2) (fun k p => f3_weigh_l8_B N (fun x1 x2 x3 x4 x5 => k (x1, x2, x3, x4, x5)) p.1 p.2.1 p.2.2.1 p.2.2.2.1 p.2.2.2.2) (fun n p => rfl) (fun n q => (nI u, nI (mk (oth d s u)), nI (8 * u), nI n, q)) (fun n q' => fr13 q q' ∧ (∀ m, (m < 8 * u ∨ 8 * u + 8 ≤ m) → ar q' 13 m = ar q 13 m) ∧ ∃ w, (∀ i, i < n → ar q' 13 (8 * u + i) = nI (w i)) ∧ Wok d s u a n w) 0 8 (fun q' => some q') (by
    rintro n q1 - hn ⟨g1, g2, w, g3, g4⟩
    have hq2 : fr13 q (sa q1 13 (8 * u + n) 0) := ⟨fun j => g1.1 j, fun k hk => by funext m; rw [ar_sa, if_neg hk, g1.2.1 k hk], g1.2.2⟩
    have hs2 : sameC q (sa q1 13 (8 * u + n) 0) := ⟨fun k _ => hq2.1 k, fun k hk => hq2.2.1 k (by omega)⟩
    have hRC := h.same hs2
    have e12 : ar (sa q1 13 (8 * u + n) 0) 12 u = nI a := by rw [hq2.2.1 12 (by decide)]; exact h12
    have e1 := bit_nI (a := a) (b := n) (by omega) (by omega)
    have hg3 : ∀ i, i < n → ar (sa q1 13 (8 * u + n) 0) 13 (8 * u + i) = nI (w i) := fun i hi => by rw [ar_sa, if_pos rfl, if_neg (by omega)]; exact g3 i hi
    have hstart : ∀ kk, f3_weigh_l8_B N kk (nI u) (nI (mk (oth d s u))) (nI (8 * u)) (nI n) q1 = if dR d u ≤ n then f3_weigh_b72 N kk (nI u) (nI (mk (oth d s u))) (nI (8 * u)) (nI n) (sa q1 13 (8 * u + n) 0) else if a.testBit n = true then bd (f3_firstLike N (sa q1 13 (8 * u + n) 0) (nI u) (nI n) (nI (mk (oth d s u)))) fun r_63 => ck (nI (8 * u) + r_63) 48 (ck (nI (8 * u) + r_63) 48 (bn (sa (sa q1 13 (8 * u + n) 0) 13 (ix (nI (8 * u) + r_63)) ((ar (sa q1 13 (8 * u + n) 0) 13 (ix (nI (8 * u) + r_63))) + 1)) fun q_71 => f3_weigh_b72 N kk (nI u) (nI (mk (oth d s u))) (nI (8 * u)) (nI n) q_71)) else f3_weigh_b72 N kk (nI u) (nI (mk (oth d s u))) (nI (8 * u)) (nI n) (sa q1 13 (8 * u + n) 0) := fun kk => by
      unfold f3_weigh_l8_B
      rw [if_neg (show ¬ (8 : Int32) ≤ nI n from nI_ge (b := 8) hn (by decide)), nI_add, ck_nI (by omega) (by decide), ix_nI (by omega), bn_e, c_rowsOf hw hRC (by omega), bd_s]
      by_cases hRn : dR d u ≤ n
      · rw [if_pos (nI_le hRn (by omega)), if_pos hRn]
      · rw [if_neg (nI_ge (by omega) (by omega)), if_neg hRn, ck_nI (by omega) (by decide), ix_nI (by omega), e12, e1]
        cases a.testBit n
        · rw [if_neg (show ¬ nI (false).toNat = 1 by decide), if_neg Bool.false_ne_true]
        · rw [if_pos (show nI (true).toNat = 1 from rfl), if_pos rfl]
    have hb72 : ∀ kk q, f3_weigh_b72 N kk (nI u) (nI (mk (oth d s u))) (nI (8 * u)) (nI n) q = kk (nI u) (nI (mk (oth d s u))) (nI (8 * u)) (nI (n + 1)) q := fun kk q => by
      unfold f3_weigh_b72
      rw [nI_s, bn_e]
    by_cases hal : n < dR d u ∧ a.testBit n = true
    · obtain ⟨f, hf, ef, hlk⟩ := c_firstLike (s := s) (N := N) hw hRC hN hu hal.1 hg3 (fun i hi => (g4.1 i hi).1)
      obtain ⟨w0, hw0d⟩ : ∃ w0, w0 = uE w n 0 := ⟨_, rfl⟩
      have w0n : w0 n = 0 := by rw [hw0d, uE_self]
      have w0i : ∀ i, i ≠ n → w0 i = w i := fun i hi => by rw [hw0d, uE_ne hi]
      have hw0 : ∀ i, i < n + 1 → ar (sa q1 13 (8 * u + n) 0) 13 (8 * u + i) = nI (w0 i) := fun i hi => by
        rw [ar_sa, if_pos rfl]
        by_cases hin : i = n
        · rw [if_pos (by omega), hin, w0n]; rfl
        · rw [if_neg (by omega), w0i i hin]; exact g3 i (by omega)
      have hwf : ∀ i, i < n + 1 → w0 i ≤ n ∧ (dR d u ≤ i → w0 i = 0) := fun i hi => by
        by_cases hin : i = n
        · rw [hin, w0n]; exact ⟨Nat.zero_le _, fun _ => rfl⟩
        · rw [w0i i hin]; exact ⟨(g4.1 i (by omega)).1, (g4.1 i (by omega)).2⟩
      refine ⟨sa (sa q1 13 (8 * u + n) 0) 13 (8 * u + f) (nI (w0 f + 1)), ⟨⟨fun j => hq2.1 j, fun k hk => by funext m; rw [ar_sa, if_neg hk, hq2.2.1 k hk], hq2.2.2⟩, fun m hm => ?_, uE w0 f (w0 f + 1), fun i hi => ?_, fun i hi => ?_, fun F hF => ?_⟩, fun kk => ?_⟩
      · rw [ar_sa, if_pos rfl, if_neg (by omega), ar_sa, if_pos rfl, if_neg (by omega)]; exact g2 m hm
      · rw [ar_sa, if_pos rfl]
        by_cases hif : i = f
        · rw [if_pos (by omega), hif, uE_self]
        · rw [if_neg (by omega), uE_ne hif]; exact hw0 i hi
      · have := hwf i hi
        by_cases hif : i = f
        · rw [hif, uE_self]
          rw [hif] at this
          exact ⟨by omega, fun z => by omega⟩
        · rw [uE_ne hif]
          exact ⟨by omega, this.2⟩
      · have h0 : bsum (fun i => w0 i * F i) (n + 1) = bsum (fun i => w i * F i) n := by
          show bsum (fun i => w0 i * F i) n + w0 n * F n = _
          rw [w0n, Nat.zero_mul, Nat.add_zero]
          exact bsum_congr (fun i hi => by rw [w0i i (by omega)])
        have h1 := bsum_upd (f := fun i => w0 i * F i) (g := fun i => uE w0 f (w0 f + 1) i * F i) (a := f) (x := F f) (n := n + 1) (by omega) (fun i hi => by
          by_cases hif : i = f
          · rw [if_pos hif, hif, uE_self, Nat.succ_mul]
          · rw [if_neg hif, uE_ne hif])
        rw [h1, h0, g4.2 F hF, hF f n hlk]
        show _ = bsum _ n + (if n < dR d u ∧ a.testBit n = true then F n else 0)
        rw [if_pos hal]
      · have hb := hwf f (by omega)
        refine (hstart _).trans ?_
        rw [if_neg (show ¬ dR d u ≤ n by omega), if_pos hal.2, ef, bd_s, nI_add, ck_nI (by omega) (by decide), ck_nI (by omega) (by decide), ix_nI (by omega), hw0 f (by omega), nI_s, bn_e, hb72]
    · refine ⟨sa q1 13 (8 * u + n) 0, ⟨hq2, fun m hm => ?_, uE w n 0, fun i hi => ?_, fun i hi => ?_, fun F hF => ?_⟩, fun kk => ?_⟩
      · rw [ar_sa, if_pos rfl, if_neg (by omega)]; exact g2 m hm
      · rw [ar_sa, if_pos rfl]
        by_cases hin : i = n
        · rw [if_pos (by omega), hin, uE_self]; rfl
        · rw [if_neg (by omega), uE_ne hin]; exact g3 i (by omega)
      · by_cases hin : i = n
        · rw [hin, uE_self]; exact ⟨Nat.zero_le _, fun _ => rfl⟩
        · have := g4.1 i (by omega)
          rw [uE_ne hin]; exact ⟨by omega, this.2⟩
      · show bsum (fun i => uE w n 0 i * F i) n + uE w n 0 n * F n = bsum _ n + (if n < dR d u ∧ a.testBit n = true then F n else 0)
        rw [uE_self, Nat.zero_mul, if_neg hal, ← g4.2 F hF]
        congr 1
        exact bsum_congr (fun i hi => by rw [uE_ne (by omega)])
      · refine (hstart _).trans ?_
        by_cases hRn : dR d u ≤ n
        · rw [if_pos hRn, hb72]
        · rw [if_neg hRn, if_neg (fun z => hal ⟨by omega, z⟩), hb72]) (by
    rintro q1 - kk
    dsimp only
    unfold f3_weigh_l8_B
    rw [if_pos (show (8 : Int32) ≤ nI 8 by decide)]) N 0 q (by omega) (by omega) (by omega) ⟨⟨fun _ => rfl, fun _ _ => rfl, rfl⟩, fun _ _ => rfl, fun _ => 0, fun i hi => by omega, fun i hi => by omega, fun F hF => rfl⟩
  refine ⟨q', w, ?_, g1, g2, g3, g4⟩
  unfold f3_weigh
  rw [li8, pk_mul, Nat.mul_comm, bn_e]
  exact hrun
end Weigh
