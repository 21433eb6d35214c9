/-! foretold sizes -/
def bprod (f : Nat → Nat) : Nat → Nat
  | 0 => 1
  | n + 1 => bprod f n * f n
theorem bprod_congr {f g : Nat → Nat} : ∀ {n : Nat}, (∀ i, i < n → f i = g i) → bprod f n = bprod g n
  | 0, _ => rfl
  | n + 1, h => by
    show bprod f n * f n = bprod g n * g n
    rw [bprod_congr (fun i hi => h i (by omega)), h n (by omega)]
theorem bprod_le {f c : Nat → Nat} (h : ∀ i, f i ≤ 8 ^ c i) : ∀ n, bprod f n ≤ 8 ^ bsum c n
  | 0 => Nat.le_refl _
  | n + 1 => by
    show bprod f n * f n ≤ 8 ^ (bsum c n + c n)
    rw [Nat.pow_add]
    exact Nat.mul_le_mul (bprod_le h n) (h n)
theorem bprod_pos {f : Nat → Nat} : ∀ {n : Nat}, (∀ i, i < n → 1 ≤ f i) → 1 ≤ bprod f n
  | 0, _ => Nat.le_refl _
  | n + 1, h => Nat.mul_pos (bprod_pos (fun i hi => h i (by omega))) (h n (by omega))
theorem bprod_one {f : Nat → Nat} {n : Nat} : ∀ m, (∀ u, n ≤ u → f u = 1) → bprod f (n + m) = bprod f n
  | 0, _ => rfl
  | m + 1, h => by
    show bprod f (n + m) * f (n + m) = _
    rw [bprod_one m h, h (n + m) (by omega), Nat.mul_one]
theorem bsum_add (f g : Nat → Nat) : ∀ n, bsum (fun i => f i + g i) n = bsum f n + bsum g n
  | 0 => rfl
  | n + 1 => by
    show bsum (fun i => f i + g i) n + (f n + g n) = bsum f n + f n + (bsum g n + g n)
    rw [bsum_add f g n]
    omega
theorem bsum_swap (f : Nat → Nat → Nat) (m : Nat) : ∀ n, bsum (fun i => bsum (f i) m) n = bsum (fun j => bsum (fun i => f i j) n) m
  | 0 => by
    show 0 = bsum (fun j => 0) m
    rw [bsum_const, Nat.zero_mul]
  | n + 1 => by
    show bsum (fun i => bsum (f i) m) n + bsum (f n) m = bsum (fun j => bsum (fun i => f i j) n + f n j) m
    rw [bsum_swap f m n, bsum_add]
section Foretold
variable {N : Nat} {d : DB} {q : SS} {s : Nat}
/-- table u of the set has letter l -/
def inL (d : DB) (s l u : Nat) : Bool := s.testBit u && (dL d u).testBit l
def Pl (d : DB) (s l : Nat) : Nat → Nat := bprod (fun u => if inL d s l u then uq d u l else 1)
def ml (d : DB) (s l : Nat) : Nat → Nat
  | 0 => 0
  | u + 1 => if inL d s l u then (if ml d s l u = 0 then uq d u l else min (ml d s l u) (uq d u l)) else ml d s l u
def Dl (d : DB) (s l : Nat) : Nat := if ml d s l 6 = 0 then 1 else Pl d s l 6 / ml d s l 6
def Rp (d : DB) (s : Nat) : Nat → Nat := bprod (fun u => if s.testBit u then dR d u else 1)
def fz (d : DB) (s : Nat) : Nat := if Rp d s 6 = 0 then 0 else Rp d s 6 / bprod (Dl d s) 8
theorem uq8 (hw : WF d) (u l : Nat) : uq d u l ≤ 8 := Nat.le_trans (uqf_le _ _) (R8 hw u)
theorem ml_le (hw : WF d) (l : Nat) : ∀ u, ml d s l u ≤ 8
  | 0 => Nat.zero_le _
  | u + 1 => by
    have h1 := ml_le hw l u
    have h2 := uq8 hw u l
    unfold ml
    split
    · split
      · exact h2
      · omega
    · exact h1
def cl (d : DB) (s l : Nat) : Nat := bsum (fun u => if inL d s l u then 1 else 0) 6
theorem Pl_le (hw : WF d) (l : Nat) : Pl d s l 6 ≤ 8 ^ cl d s l := bprod_le (fun u => by
  split
  · exact uq8 hw u l
  · exact Nat.le_refl _) 6
theorem cl_6 (l : Nat) : cl d s l ≤ 6 := by
  have := bsum_le (f := fun u => if inL d s l u then 1 else 0) (g := fun _ => 1) (n := 6) (fun i _ => by split <;> omega)
  rw [bsum_const] at this
  exact this
theorem Pl_6 (hw : WF d) (l : Nat) : Pl d s l 6 ≤ 262144 := by
  have h1 := Pl_le (s := s) hw l
  have h2 : 8 ^ cl d s l ≤ 8 ^ 6 := Nat.pow_le_pow_right (by decide) (cl_6 l)
  omega
theorem Dl_le (hw : WF d) (l : Nat) : Dl d s l ≤ 8 ^ cl d s l := by
  have h1 := Pl_le (s := s) hw l
  unfold Dl
  split
  · exact Nat.one_le_pow _ _ (by decide)
  · exact Nat.le_trans (Nat.div_le_self _ _) h1
theorem cl_sum (hw : WF d) (hs : s < 2 ^ dT d) : bsum (cl d s) 8 ≤ 18 := by
  have h1 : bsum (cl d s) 8 = bsum (fun u => bsum (fun l => if inL d s l u then 1 else 0) 8) 6 := bsum_swap (fun l u => if inL d s l u then 1 else 0) 6 8
  rw [h1]
  have h2 := bsum_le (f := fun u => bsum (fun l => if inL d s l u then 1 else 0) 8) (g := fun _ => 3) (n := 6) (fun u _ => by
    by_cases hb : s.testBit u = true
    · have hu : u < dT d := bit_lt hs hb
      have h3 := (hw.2.1 u hu).2.2.1
      rw [← bsum8 (hw.2.1 u hu).2.1] at h3
      refine Nat.le_trans (Nat.le_of_eq (bsum_congr (fun l _ => ?_))) h3
      unfold inL
      rw [hb, Bool.true_and]
      cases (dL d u).testBit l <;> rfl
    · have h4 := bsum_const 0 8
      refine Nat.le_trans (Nat.le_of_eq (bsum_congr (g := fun _ => 0) (fun l _ => ?_))) (by rw [h4]; omega)
      unfold inL
      rw [Bool.eq_false_iff.mpr hb, Bool.false_and]
      rfl)
  rw [bsum_const] at h2
  exact h2
theorem bsum_mono (f : Nat → Nat) {a : Nat} : ∀ {b : Nat}, a ≤ b → bsum f a ≤ bsum f b := by
  intro b h
  induction b with
  | zero => rw [show a = 0 by omega]; exact Nat.le_refl _
  | succ b ih =>
    by_cases hab : a = b + 1
    · rw [hab]; exact Nat.le_refl _
    · have := ih (by omega)
      show _ ≤ bsum f b + f b
      omega
theorem D_le (hw : WF d) (hs : s < 2 ^ dT d) {k : Nat} (hk : k < 8) : bprod (Dl d s) k * Pl d s k 6 ≤ 8 ^ 18 := by
  have h1 := bprod_le (Dl_le (s := s) hw) k
  have h2 := Pl_le (s := s) hw k
  have h3 := cl_sum hw hs
  have h4 := bsum_mono (cl d s) (show k + 1 ≤ 8 by omega)
  have h5 : bsum (cl d s) (k + 1) = bsum (cl d s) k + cl d s k := rfl
  refine Nat.le_trans (Nat.mul_le_mul h1 h2) ?_
  rw [← Nat.pow_add]
  exact Nat.pow_le_pow_right (by decide) (by omega)
theorem D8_le (hw : WF d) (hs : s < 2 ^ dT d) : bprod (Dl d s) 8 ≤ 8 ^ 18 :=
  Nat.le_trans (bprod_le (Dl_le (s := s) hw) 8) (Nat.pow_le_pow_right (by decide) (cl_sum hw hs))
theorem Rp_6 (hw : WF d) : Rp d s 6 ≤ 262144 := by
  have h1 := bprod_le (f := fun u => if s.testBit u then dR d u else 1) (c := fun _ => 1) (fun u => by
    have := R8 hw u
    split
    · exact this
    · decide) 6
  rw [bsum_const] at h1
  exact h1
theorem uqf_pos (v : Nat → Nat) : ∀ {n : Nat}, 1 ≤ n → 1 ≤ uqf v n
  | 1, _ => by
    have key : ∀ i, i = 0 → (if ∀ j, j < i → v j ≠ v i then 1 else 0) = 1 := fun i hi => if_pos (fun j hj => by omega)
    exact Nat.le_of_eq ((Nat.zero_add _).trans (key 0 rfl)).symm
  | n + 2, _ => Nat.le_trans (uqf_pos v (n := n + 1) (by omega)) (Nat.le_add_right _ _)
theorem uq_pos {u l : Nat} (h : 1 ≤ dR d u) : 1 ≤ uq d u l := uqf_pos _ h
theorem Rp_pos (h : Rp d s 6 ≠ 0) {u : Nat} (hu : u < 6) (hb : s.testBit u = true) : 1 ≤ dR d u := by
  rcases Nat.eq_zero_or_pos (dR d u) with h0 | h0
  · exfalso
    apply h
    have key : ∀ n, u < n → Rp d s n = 0 := by
      intro n
      induction n with
      | zero => intro z; omega
      | succ n ih =>
        intro hn
        show Rp d s n * (if s.testBit n then dR d n else 1) = 0
        by_cases hun : u = n
        · rw [← hun, if_pos hb, h0, Nat.mul_zero]
        · rw [ih (by omega), Nat.zero_mul]
    exact key 6 hu
  · exact h0
theorem ml_pos (h : Rp d s 6 ≠ 0) (l : Nat) : ∀ u, u ≤ 6 → (∃ v, v < u ∧ inL d s l v = true) → 1 ≤ ml d s l u
  | 0, _, ⟨v, hv, _⟩ => by omega
  | u + 1, hu, ⟨v, hv, hi⟩ => by
    unfold ml
    by_cases hin : inL d s l u = true
    · have hb : s.testBit u = true := by unfold inL at hin; rw [Bool.and_eq_true] at hin; exact hin.1
      have hq := uq_pos (d := d) (l := l) (Rp_pos h (show u < 6 by omega) hb)
      rw [if_pos hin]
      split
      · exact hq
      · omega
    · rw [if_neg hin]
      exact ml_pos h l u (by omega) ⟨v, by
        rcases Nat.lt_or_ge v u with z | z
        · exact z
        · rw [show v = u by omega] at hi; exact absurd hi hin, hi⟩
theorem ml_0 (h : Rp d s 6 ≠ 0) (l : Nat) {u : Nat} (hu : u ≤ 6) (hz : ml d s l u = 0) {v : Nat} (hv : v < u) : inL d s l v = false := by
  rw [Bool.eq_false_iff]
  intro hi
  have := ml_pos h l u hu ⟨v, hv, hi⟩
  omega
theorem ml_dvd (h : Rp d s 6 ≠ 0) (l : Nat) : ∀ u, u ≤ 6 → ml d s l u ≠ 0 → ml d s l u ∣ Pl d s l u
  | 0, _, hz => absurd rfl hz
  | u + 1, hu, hz => by
    have hP : Pl d s l (u + 1) = Pl d s l u * (if inL d s l u then uq d u l else 1) := rfl
    rw [hP]
    have hm : ml d s l (u + 1) = if inL d s l u then (if ml d s l u = 0 then uq d u l else min (ml d s l u) (uq d u l)) else ml d s l u := rfl
    rw [hm] at hz ⊢
    by_cases hin : inL d s l u = true
    · rw [if_pos hin, if_pos hin]
      by_cases h0 : ml d s l u = 0
      · rw [if_pos h0]; exact Nat.dvd_mul_left _ _
      · rw [if_neg h0]
        have ih := ml_dvd h l u (by omega) h0
        rcases Nat.le_total (ml d s l u) (uq d u l) with z | z
        · rw [Nat.min_eq_left z]; exact Nat.dvd_trans ih (Nat.dvd_mul_right _ _)
        · rw [Nat.min_eq_right z]; exact Nat.dvd_mul_left _ _
    · rw [if_neg hin] at hz ⊢
      rw [if_neg hin, Nat.mul_one]
      exact ml_dvd h l u (by omega) hz
theorem Dl_pos (h : Rp d s 6 ≠ 0) (l : Nat) : 1 ≤ Dl d s l := by
  unfold Dl
  by_cases h0 : ml d s l 6 = 0
  · rw [if_pos h0]; exact Nat.le_refl _
  · rw [if_neg h0]
    obtain ⟨c, hc⟩ := ml_dvd h l 6 (Nat.le_refl _) h0
    rw [hc, Nat.mul_div_cancel_left _ (by omega)]
    rcases Nat.eq_zero_or_pos c with z | z
    · rw [z, Nat.mul_zero] at hc
      have hp : 1 ≤ Pl d s l 6 := bprod_pos (fun u hu => by
        by_cases hin : inL d s l u = true
        · have hb : s.testBit u = true := by unfold inL at hin; rw [Bool.and_eq_true] at hin; exact hin.1
          rw [if_pos hin]
          exact uq_pos (Rp_pos h hu hb)
        · rw [if_neg hin]; exact Nat.le_refl _)
      omega
    · exact z
theorem lN_big {n : Nat} (h : n < 2 ^ 63) : (lN n).toInt = n := Int64.toInt_ofNat_of_lt h
theorem lL1 : (1 : Int64) = lN 1 := nrf (fun _ _ => rfl)
theorem dzl_pos {α : Type} {n : Nat} {k : Option α} (h1 : 1 ≤ n) (h2 : n < 2 ^ 63) : dzl (lN n) k = k := by
  unfold dzl
  rw [if_neg]
  intro e
  have h3 := congrArg Int64.toInt e
  rw [lN_big h2, lit0L] at h3
  omega
theorem jmin_nI {a b : Nat} (ha : a < 2 ^ 31) (hb : b < 2 ^ 31) : jmin (nI a) (nI b) = nI (min a b) := by
  unfold jmin
  by_cases h : b < a
  · rw [if_pos (nI_lt h ha), Nat.min_eq_right (by omega)]
  · rw [if_neg (nI_nlt (by omega) hb), Nat.min_eq_left (by omega)]
theorem c_ubl (hw : WF d) (h : RC d q) {l : Nat} (hN : 1000 ≤ N) (hs : s < 2 ^ dT d) (hl : l < 8) : f3_unlikeButLeast N q (nI s) (nI l) = some (lN (Dl d s l)) := by
  have hT := hw.1
  have hs6 := s_lt hw hs
  refine loop_run (fun n (p : Int32 × Int32 × Int64 × Int32 × Int32) => f3_unlikeButLeast_l8 N q n p.1 p.2.1 p.2.2.1 p.2.2.2.1 p.2.2.2.2) (fun k p => f3_unlikeButLeast_l8_B N q (fun x1 x2 x3 x4 x5 => k (x1, x2, x3, x4, x5)) p.1 p.2.1 p.2.2.1 p.2.2.2.1 p.2.2.2.2) (fun n p => rfl) (fun u => (nI s, nI l, lN (Pl d s l u), nI (ml d s l u), nI u)) 6 _ (c := 0) ?_ ?_ N 0 (Nat.le_refl _) (Nat.zero_le _) (by omega)
  · intro u _ hu k
    have e1 := bit_nI (a := s) (b := u) (by omega) (by omega)
    have hP : Pl d s l (u + 1) = Pl d s l u * (if inL d s l u then uq d u l else 1) := rfl
    have hm : ml d s l (u + 1) = if inL d s l u then (if ml d s l u = 0 then uq d u l else min (ml d s l u) (uq d u l)) else ml d s l u := rfl
    have hm8 := ml_le (s := s) hw l u
    have hu8 := uq8 hw u l
    dsimp only
    rw [hP, hm]
    unfold f3_unlikeButLeast_l8_B f3_unlikeButLeast_b73 f3_unlikeButLeast_b75 inL
    rw [if_neg (show ¬ (6 : Int32) ≤ nI u from nI_ge (b := 6) hu (by decide)), e1, nI_s]
    cases hb : s.testBit u
    · rw [if_neg (show ¬ nI (false).toNat = 1 by decide), Bool.false_and, if_neg Bool.false_ne_true, if_neg Bool.false_ne_true, Nat.mul_one, bn_e]
    · have huT : u < dT d := bit_lt hs hb
      have e2 := c_has hw h huT hl
      rw [if_pos (show nI (true).toNat = 1 from rfl), Bool.true_and, e2, bd_s]
      cases hb2 : (dL d u).testBit l
      · rw [if_pos (show nI (false).toNat = 0 from rfl), if_neg Bool.false_ne_true, if_neg Bool.false_ne_true, Nat.mul_one, bn_e]
      · rw [if_neg (show ¬ nI (true).toNat = 0 by decide), if_pos rfl, if_pos rfl, c_unlike hw h hN huT hl hb2, bd_s, nI_l (by omega), lN_mul, bn_e, bn_e, bn_e]
        by_cases h0 : ml d s l u = 0
        · rw [h0, if_pos (show nI 0 = 0 from rfl), if_pos rfl]
        · rw [if_neg (nz h0 (by omega)), if_neg h0, jmin_nI (by omega) (by omega)]
  · intro k
    have hm8 := ml_le (s := s) hw l 6
    have hP6 := Pl_6 (s := s) hw l
    dsimp only
    unfold f3_unlikeButLeast_l8_B Dl
    rw [if_pos (show (6 : Int32) ≤ nI 6 by decide)]
    by_cases h0 : ml d s l 6 = 0
    · rw [h0, if_neg (show ¬ (1 : Int32) ≤ nI 0 by decide), if_pos rfl]
      rfl
    · rw [if_pos (show (1 : Int32) ≤ nI (ml d s l 6) from nI_le (a := 1) (by omega) (by omega)), if_neg h0, dzl_ok (by omega) (by omega), nI_l (by omega), pk_lDiv (by omega) (by omega) (by omega)]
theorem c_foretold (hw : WF d) (h : RC d q) (hN : 1000 ≤ N) (hs : s < 2 ^ dT d) : f3_foretold N q (nI s) = some (nI (fz d s)) := by
  have hT := hw.1
  have hs6 := s_lt hw hs
  have hR6 := Rp_6 (s := s) hw
  have hD8 := D8_le hw hs
  have letters : f3_foretold_l47 N q N (nI s) (lN (Rp d s 6)) 1 0 = some (nI (fz d s)) := by
    refine loop_run (fun n (p : Int32 × Int64 × Int64 × Int32) => f3_foretold_l47 N q n p.1 p.2.1 p.2.2.1 p.2.2.2) (fun k p => f3_foretold_l47_B N q (fun x1 x2 x3 x4 => k (x1, x2, x3, x4)) p.1 p.2.1 p.2.2.1 p.2.2.2) (fun n p => rfl) (fun l => (nI s, lN (Rp d s 6), lN (bprod (Dl d s) l), nI l)) 8 _ (c := 0) ?_ ?_ N 0 (Nat.le_refl _) (Nat.zero_le _) (by omega)
    · intro l _ hl k
      have hp : bprod (Dl d s) (l + 1) = bprod (Dl d s) l * Dl d s l := rfl
      dsimp only
      rw [hp]
      unfold f3_foretold_l47_B
      rw [if_neg (show ¬ (8 : Int32) ≤ nI l from nI_ge (b := 8) hl (by decide)), c_ubl hw h hN hs hl, bd_s, lN_mul, bn_e, nI_s, bn_e]
    · intro k
      dsimp only
      unfold f3_foretold_l47_B f3_foretold_b85 fz
      rw [if_pos (show (8 : Int32) ≤ nI 8 by decide), lL1]
      by_cases h0 : Rp d s 6 = 0
      · rw [h0, if_pos (show lN 0 < lN 1 by decide), if_pos rfl]
        rfl
      · have hpos : 1 ≤ bprod (Dl d s) 8 := bprod_pos (fun l _ => Dl_pos h0 l)
        have hx : ¬ lN (Rp d s 6) < lN 1 := by
          rw [Int64.lt_iff_toInt_lt, lN_toInt (by omega), lN_toInt (by omega)]
          omega
        have hy : lN 1 ≤ lN (bprod (Dl d s) 8) := by
          rw [Int64.le_iff_toInt_le, lN_big (by omega), lN_big (by omega)]
          omega
        rw [if_neg hx, if_pos hy, dzl_pos hpos (by omega), if_neg h0, pk_lDiv (by omega) (by omega) (by omega), lN_i]
  refine loop_run (fun n (p : Int32 × Int64 × Int32) => f3_foretold_l5 N q n p.1 p.2.1 p.2.2) (fun k p => f3_foretold_l5_B N q (fun x1 x2 x3 => k (x1, x2, x3)) p.1 p.2.1 p.2.2) (fun n p => rfl) (fun u => (nI s, lN (Rp d s u), nI u)) 6 _ (c := 0) ?_ ?_ N 0 (Nat.le_refl _) (Nat.zero_le _) (by omega)
  · intro u _ hu k
    have e1 := bit_nI (a := s) (b := u) (by omega) (by omega)
    have hp : Rp d s (u + 1) = Rp d s u * (if s.testBit u then dR d u else 1) := rfl
    have hR := R8 hw u
    dsimp only
    rw [hp]
    unfold f3_foretold_l5_B f3_foretold_b35
    rw [if_neg (show ¬ (6 : Int32) ≤ nI u from nI_ge (b := 6) hu (by decide)), e1, nI_s]
    cases hb : s.testBit u
    · rw [if_neg (show ¬ nI (false).toNat = 1 by decide), if_neg Bool.false_ne_true, Nat.mul_one, bn_e]
    · rw [if_pos (show nI (true).toNat = 1 from rfl), if_pos rfl, c_rowsOf hw h (by omega), bd_s, nI_l (by omega), lN_mul, bn_e, bn_e]
  · intro k
    dsimp only
    unfold f3_foretold_l5_B
    rw [if_pos (show (6 : Int32) ≤ nI 6 by decide)]
    exact letters
def nl (d : DB) (s l : Nat) (u : Nat) : Nat := bsum (fun v => if inL d s l v then 1 else 0) u
theorem m_foretold (hw : WF d) (h : RMk d q) (hN : 1000 ≤ N) (hs : s < 2 ^ dT d) : f9_foretoldSize N q (nI s) = some (nI (fz d s)) := by
  have hT := hw.1
  have hs6 := s_lt hw hs
  have hR6 := Rp_6 (s := s) hw
  have hD8 := D8_le hw hs
  have hout : ∀ l u, dT d ≤ u → inL d s l u = false := fun l u hu => by
    unfold inL
    rw [Nat.testBit_lt_two_pow (Nat.lt_of_lt_of_le hs (Nat.pow_le_pow_right (by decide) hu))]
    rfl
  have hRT : Rp d s (dT d) = Rp d s 6 := by
    have := bprod_one (f := fun u => if s.testBit u then dR d u else 1) (n := dT d) (6 - dT d) (fun u hu => by
      rw [Nat.testBit_lt_two_pow (Nat.lt_of_lt_of_le hs (Nat.pow_le_pow_right (by decide) hu)), if_neg Bool.false_ne_true])
    rw [show dT d + (6 - dT d) = 6 by omega] at this
    exact this.symm
  have hPT : ∀ l, Pl d s l (dT d) = Pl d s l 6 := fun l => by
    have := bprod_one (f := fun u => if inL d s l u then uq d u l else 1) (n := dT d) (6 - dT d) (fun u hu => by rw [hout l u hu, if_neg Bool.false_ne_true])
    rw [show dT d + (6 - dT d) = 6 by omega] at this
    exact this.symm
  have hmT : ∀ l m, ml d s l (dT d + m) = ml d s l (dT d) := fun l m => by
    induction m with
    | zero => rfl
    | succ m ih =>
      show (if inL d s l (dT d + m) then _ else ml d s l (dT d + m)) = _
      rw [hout l _ (by omega), if_neg Bool.false_ne_true, ih]
  have hmT6 : ∀ l, ml d s l (dT d) = ml d s l 6 := fun l => by
    have := hmT l (6 - dT d)
    rw [show dT d + (6 - dT d) = 6 by omega] at this
    exact this.symm
  have letters : Rp d s 6 ≠ 0 → f9_foretoldSize_l59 N q N (nI s) (lN (Rp d s 6)) 1 0 = some (nI (fz d s)) := fun h0 => by
    refine loop_run (fun n (p : Int32 × Int64 × Int64 × Int32) => f9_foretoldSize_l59 N q n p.1 p.2.1 p.2.2.1 p.2.2.2) (fun k p => f9_foretoldSize_l59_B N q (fun x1 x2 x3 x4 => k (x1, x2, x3, x4)) p.1 p.2.1 p.2.2.1 p.2.2.2) (fun n p => rfl) (fun l => (nI s, lN (Rp d s 6), lN (bprod (Dl d s) l), nI l)) 8 _ (c := 0) ?_ ?_ N 0 (Nat.le_refl _) (Nat.zero_le _) (by omega)
    · intro l _ hl kl
      have hp : bprod (Dl d s) (l + 1) = bprod (Dl d s) l * Dl d s l := rfl
      have hDP := D_le hw hs hl
      have hm8 := ml_le (s := s) hw l 6
      have hnl : ∀ u, nl d s l u ≤ u := fun u => by
        have := bsum_le (f := fun v => if inL d s l v then 1 else 0) (g := fun _ => 1) (n := u) (fun i _ => by split <;> omega)
        rw [bsum_const] at this
        show bsum _ u ≤ u
        omega
      have hnz : ∀ u, u ≤ 6 → (nl d s l u = 0 ↔ ml d s l u = 0) := fun u hu => by
        constructor
        · intro hz
          have hall : ∀ v, v < u → inL d s l v = false := fun v hv => by
            rw [Bool.eq_false_iff]
            intro hi
            have h1 := bsum_mono (fun v => if inL d s l v then 1 else 0) (show v + 1 ≤ u by omega)
            have h2 : bsum (fun v => if inL d s l v then 1 else 0) (v + 1) = bsum (fun v => if inL d s l v then 1 else 0) v + (if inL d s l v then 1 else 0) := rfl
            rw [if_pos hi] at h2
            have h3 : bsum (fun v => if inL d s l v then 1 else 0) u = 0 := hz
            omega
          have key : ∀ u', u' ≤ u → ml d s l u' = 0 := by
            intro u'
            induction u' with
            | zero => exact fun _ => rfl
            | succ u' ih =>
              intro hu'
              show (if inL d s l u' then _ else ml d s l u') = 0
              rw [hall u' (by omega), if_neg Bool.false_ne_true]
              exact ih (by omega)
          exact key u (Nat.le_refl _)
        · intro hz
          have hb : bsum (fun v => if inL d s l v then 1 else 0) u = bsum (fun _ => 0) u := bsum_congr (fun v hv => by rw [ml_0 h0 l hu hz hv, if_neg Bool.false_ne_true])
          show bsum _ u = 0
          rw [hb, bsum_const, Nat.zero_mul]
      dsimp only
      rw [hp]
      unfold f9_foretoldSize_l59_B
      rw [if_neg (show ¬ (8 : Int32) ≤ nI l from nI_ge (b := 8) hl (by decide))]
      have e0 : f9_foretoldSize_l75 N q (fun x1 x2 x3 x4 => kl (x1, x2, x3, x4)) N (nI s) (lN (Rp d s 6)) (lN (bprod (Dl d s) l)) (nI l) 0 0 0 = f9_foretoldSize_l75 N q (fun x1 x2 x3 x4 => kl (x1, x2, x3, x4)) N (nI s) (lN (Rp d s 6)) (lN (bprod (Dl d s) l * Pl d s l 0)) (nI l) (nI (nl d s l 0)) (nI (ml d s l 0)) (nI 0) := by
        rw [show Pl d s l 0 = 1 from rfl, Nat.mul_one]
        rfl
      rw [e0]
      refine loop_run (fun n (p : Int32 × Int64 × Int64 × Int32 × Int32 × Int32 × Int32) => f9_foretoldSize_l75 N q (fun x1 x2 x3 x4 => kl (x1, x2, x3, x4)) n p.1 p.2.1 p.2.2.1 p.2.2.2.1 p.2.2.2.2.1 p.2.2.2.2.2.1 p.2.2.2.2.2.2) (fun k p => f9_foretoldSize_l75_B N q (fun x1 x2 x3 x4 => kl (x1, x2, x3, x4)) (fun x1 x2 x3 x4 x5 x6 x7 => k (x1, x2, x3, x4, x5, x6, x7)) p.1 p.2.1 p.2.2.1 p.2.2.2.1 p.2.2.2.2.1 p.2.2.2.2.2.1 p.2.2.2.2.2.2) (fun n p => rfl) (fun u => (nI s, lN (Rp d s 6), lN (bprod (Dl d s) l * Pl d s l u), nI l, nI (nl d s l u), nI (ml d s l u), nI u)) (dT d) _ (c := 0) ?_ ?_ N 0 (Nat.le_refl _) (Nat.zero_le _) (by omega)
      · intro u _ hu kk
        have e1 := bit_nI (a := s) (b := u) (by omega) (by omega)
        have e2 := m_has hw h hu (l := l) (by omega)
        have hP : Pl d s l (u + 1) = Pl d s l u * (if inL d s l u then uq d u l else 1) := rfl
        have hm : ml d s l (u + 1) = if inL d s l u then (if ml d s l u = 0 then uq d u l else min (ml d s l u) (uq d u l)) else ml d s l u := rfl
        have hn : nl d s l (u + 1) = nl d s l u + (if inL d s l u then 1 else 0) := rfl
        have hm8 := ml_le (s := s) hw l u
        have hu8 := uq8 hw u l
        have hnu := hnl u
        have hz := hnz u (by omega)
        dsimp only
        rw [hP, hm, hn]
        unfold f9_foretoldSize_l75_B f9_foretoldSize_b127 f9_foretoldSize_b134 f9_foretoldSize_b147 inL
        rw [h.1, if_neg (nI_ge hu (by omega)), e1, nI_s]
        cases hb : s.testBit u
        · rw [if_neg (show ¬ nI (false).toNat = 1 by decide), Bool.false_and, if_neg Bool.false_ne_true, if_neg Bool.false_ne_true, if_neg Bool.false_ne_true, Nat.mul_one, bn_e]
          rfl
        · rw [if_pos (show nI (true).toNat = 1 from rfl), Bool.true_and, e2, bd_s]
          cases hb2 : (dL d u).testBit l
          · rw [if_pos (show nI (false).toNat = 0 from rfl), if_neg Bool.false_ne_true, if_neg Bool.false_ne_true, if_neg Bool.false_ne_true, Nat.mul_one, bn_e]
            rfl
          · rw [if_neg (show ¬ nI (true).toNat = 0 by decide), if_pos rfl, if_pos rfl, if_pos rfl, m_unlike hw h hN hu hl hb2, bd_s, nI_l (by omega), lN_mul, bn_e, bn_e, bn_e, nI_s, bn_e, bn_e, bn_e, Nat.mul_assoc]
            by_cases h00 : ml d s l u = 0
            · rw [if_pos h00, hz.mpr h00, if_pos (show nI 0 = 0 from rfl)]
            · rw [if_neg h00, if_neg (nz (fun z => h00 (hz.mp z)) (by omega))]
              by_cases hle : ml d s l u ≤ uq d u l
              · rw [if_pos (nI_le hle (by omega)), Nat.min_eq_left hle]
              · rw [if_neg (nI_ge (by omega) (by omega)), Nat.min_eq_right (by omega)]
      · intro kk
        have hz := hnz (dT d) hT
        have hnu := hnl (dT d)
        dsimp only
        unfold f9_foretoldSize_l75_B f9_foretoldSize_b167
        rw [show Dl d s l = (if ml d s l 6 = 0 then 1 else Pl d s l 6 / ml d s l 6) from rfl, h.1, if_pos (nI_le (Nat.le_refl _) (by omega)), hPT, nI_s]
        by_cases h00 : ml d s l 6 = 0
        · have hP1 : Pl d s l 6 = 1 := by
            have : Pl d s l 6 = bprod (fun _ => 1) 6 := bprod_congr (fun v hv => by rw [ml_0 h0 l (Nat.le_refl _) h00 hv, if_neg Bool.false_ne_true])
            rw [this]
            rfl
          rw [hz.mpr (by rw [hmT6]; exact h00), if_pos (show nI 0 ≤ 0 by decide), if_pos h00, lL1, dzl_pos (by omega) (by omega), pk_lDiv (by omega) (by omega) (by omega), Nat.div_one, hP1, bn_e, bn_e]
        · have hn0 : nl d s l (dT d) ≠ 0 := fun z => h00 (by rw [← hmT6]; exact hz.mp z)
          rw [if_neg (show ¬ nI (nl d s l (dT d)) ≤ 0 from nI_ge (a := 0) (by omega) (by omega)), if_neg h00, hmT6, nI_l (by omega), dzl_pos (by omega) (by omega), pk_lDiv (by omega) (by omega) (by omega), bn_e, bn_e, Nat.mul_div_assoc _ (ml_dvd h0 l 6 (Nat.le_refl _) h00)]
    · intro k
      have hpos : 1 ≤ bprod (Dl d s) 8 := bprod_pos (fun l _ => Dl_pos h0 l)
      dsimp only
      unfold f9_foretoldSize_l59_B fz
      rw [if_pos (show (8 : Int32) ≤ nI 8 by decide), dzl_pos hpos (by omega), if_neg h0, pk_lDiv (by omega) (by omega) (by omega), lN_i]
  refine loop_run (fun n (p : Int32 × Int64 × Int32) => f9_foretoldSize_l5 N q n p.1 p.2.1 p.2.2) (fun k p => f9_foretoldSize_l5_B N q (fun x1 x2 x3 => k (x1, x2, x3)) p.1 p.2.1 p.2.2) (fun n p => rfl) (fun u => (nI s, lN (Rp d s u), nI u)) (dT d) _ (c := 0) ?_ ?_ N 0 (Nat.le_refl _) (Nat.zero_le _) (by omega)
  · intro u _ hu k
    have e1 := bit_nI (a := s) (b := u) (by omega) (by omega)
    have hp : Rp d s (u + 1) = Rp d s u * (if s.testBit u then dR d u else 1) := rfl
    have hR := R8 hw u
    have e3 := h.2.2.2.2.2.2.1 u (by omega)
    dsimp only
    rw [hp]
    unfold f9_foretoldSize_l5_B f9_foretoldSize_b37
    rw [h.1, if_neg (nI_ge hu (by omega)), e1, nI_s]
    cases hb : s.testBit u
    · rw [if_neg (show ¬ nI (false).toNat = 1 by decide), if_neg Bool.false_ne_true, lL1, lN_mul, bn_e, bn_e]
    · rw [if_pos (show nI (true).toNat = 1 from rfl), if_pos rfl, ck_nI (by omega) (by decide), ix_nI (by omega), e3, nI_l (by omega), lN_mul, bn_e, bn_e]
  · intro k
    dsimp only
    unfold f9_foretoldSize_l5_B
    rw [h.1, if_pos (nI_le (Nat.le_refl _) (by omega)), hRT]
    by_cases h0 : Rp d s 6 = 0
    · rw [h0, if_pos (show lN 0 = 0 from rfl)]
      unfold fz
      rw [if_pos h0]
      rfl
    · rw [if_neg (show ¬ lN (Rp d s 6) = 0 from fun z => h0 ((lN_eq (b := 0) (by omega) (by decide)).mp z))]
      exact letters h0
end Foretold
