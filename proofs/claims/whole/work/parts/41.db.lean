/-! the pure state that both sides hold -/
theorem li0 : (0 : Int32) = nI 0 := nrf (fun _ _ => rfl)
theorem li1 : (1 : Int32) = nI 1 := nrf (fun _ _ => rfl)
theorem li2 : (2 : Int32) = nI 2 := nrf (fun _ _ => rfl)
theorem li3 : (3 : Int32) = nI 3 := nrf (fun _ _ => rfl)
theorem li4 : (4 : Int32) = nI 4 := nrf (fun _ _ => rfl)
theorem li5 : (5 : Int32) = nI 5 := nrf (fun _ _ => rfl)
theorem li6 : (6 : Int32) = nI 6 := nrf (fun _ _ => rfl)
theorem li7 : (7 : Int32) = nI 7 := nrf (fun _ _ => rfl)
theorem li8 : (8 : Int32) = nI 8 := nrf (fun _ _ => rfl)
theorem li9 : (9 : Int32) = nI 9 := nrf (fun _ _ => rfl)
theorem li10 : (10 : Int32) = nI 10 := nrf (fun _ _ => rfl)
theorem li12 : (12 : Int32) = nI 12 := nrf (fun _ _ => rfl)
theorem li15 : (15 : Int32) = nI 15 := nrf (fun _ _ => rfl)
theorem li16 : (16 : Int32) = nI 16 := nrf (fun _ _ => rfl)
theorem li20 : (20 : Int32) = nI 20 := nrf (fun _ _ => rfl)
theorem li21 : (21 : Int32) = nI 21 := nrf (fun _ _ => rfl)
theorem li24 : (24 : Int32) = nI 24 := nrf (fun _ _ => rfl)
theorem li31 : (31 : Int32) = nI 31 := nrf (fun _ _ => rfl)
theorem li32 : (32 : Int32) = nI 32 := nrf (fun _ _ => rfl)
theorem li40 : (40 : Int32) = nI 40 := nrf (fun _ _ => rfl)
theorem li41 : (41 : Int32) = nI 41 := nrf (fun _ _ => rfl)
theorem li48 : (48 : Int32) = nI 48 := nrf (fun _ _ => rfl)
theorem li53 : (53 : Int32) = nI 53 := nrf (fun _ _ => rfl)
theorem li55 : (55 : Int32) = nI 55 := nrf (fun _ _ => rfl)
theorem li56 : (56 : Int32) = nI 56 := nrf (fun _ _ => rfl)
theorem li57 : (57 : Int32) = nI 57 := nrf (fun _ _ => rfl)
theorem li63 : (63 : Int32) = nI 63 := nrf (fun _ _ => rfl)
theorem li64 : (64 : Int32) = nI 64 := nrf (fun _ _ => rfl)
theorem li100 : (100 : Int32) = nI 100 := nrf (fun _ _ => rfl)
theorem li108 : (108 : Int32) = nI 108 := nrf (fun _ _ => rfl)
theorem li112 : (112 : Int32) = nI 112 := nrf (fun _ _ => rfl)
theorem li115 : (115 : Int32) = nI 115 := nrf (fun _ _ => rfl)
theorem li126 : (126 : Int32) = nI 126 := nrf (fun _ _ => rfl)
theorem li127 : (127 : Int32) = nI 127 := nrf (fun _ _ => rfl)
theorem li255 : (255 : Int32) = nI 255 := nrf (fun _ _ => rfl)
theorem li256 : (256 : Int32) = nI 256 := nrf (fun _ _ => rfl)
theorem li576 : (576 : Int32) = nI 576 := nrf (fun _ _ => rfl)
theorem li384 : (384 : Int32) = nI 384 := nrf (fun _ _ => rfl)
/-- tables, letters, per, rows, numbers, wide, memory, the page's length and codes, how often a best plan was sought -/
abbrev DB : Type := Nat × (Nat → Nat) × (Nat → Nat) × (Nat → Nat) × (Nat → Nat → Nat → Nat) × Nat × Nat × Nat × (Nat → Nat) × Nat
def dT (d : DB) : Nat := d.1
def dL (d : DB) (t : Nat) : Nat := d.2.1 t
def dP (d : DB) (t : Nat) : Nat := d.2.2.1 t
def dR (d : DB) (t : Nat) : Nat := d.2.2.2.1 t
def dV (d : DB) (t i l : Nat) : Nat := d.2.2.2.2.1 t i l
def dW (d : DB) : Nat := d.2.2.2.2.2.1
def dM (d : DB) : Nat := d.2.2.2.2.2.2.1
def dG (d : DB) : Nat := d.2.2.2.2.2.2.2.1
def dg (d : DB) (k : Nat) : Nat := d.2.2.2.2.2.2.2.2.1 k
def dD (d : DB) : Nat := d.2.2.2.2.2.2.2.2.2
/-! sums, bits, four figures a letter -/
def bsum (f : Nat → Nat) : Nat → Nat
  | 0 => 0
  | n + 1 => bsum f n + f n
def pc (s : Nat) : Nat := bsum (fun k => (s.testBit k).toNat) 16
def tz (s : Nat) : Nat := ((List.range 8).find? (fun k => s.testBit k)).getD 0
def nib (f : Nat → Nat) : Nat → Nat
  | 0 => 0
  | n + 1 => 2 ^ (4 * n) * f n + nib f n
def cdf (d : DB) (t i l : Nat) : Nat := if (dL d t).testBit l then dV d t i l else 0
def cd (d : DB) (t i : Nat) : Nat := nib (cdf d t i) 8
def mk (s : Nat) : Nat := nib (fun l => if s.testBit l then 15 else 0) 8
theorem bitCount_ok {s : Nat} (h : s < 1024) : fJ6_bitCount (nI s) = some (nI (pc s)) := by
  have key : ∀ s : Fin 1024, fJ6_bitCount (nI s.1) = some (nI (pc s.1)) := by decide +kernel
  exact key ⟨s, h⟩
theorem ntz_ok {s : Nat} (h0 : 0 < s) (h : s < 256) : fJ6_numberOfTrailingZeros (nI s) = some (nI (tz s)) := by
  have key : ∀ s : Fin 256, 0 < s.1 → fJ6_numberOfTrailingZeros (nI s.1) = some (nI (tz s.1)) := by decide +kernel
  exact key ⟨s, h⟩ h0
theorem pc_le {s : Nat} : pc s ≤ 16 := by
  have : ∀ n, bsum (fun k => (s.testBit k).toNat) n ≤ n := by
    intro n
    induction n with
    | zero => exact Nat.le_refl 0
    | succ n ih =>
      show bsum _ n + (s.testBit n).toNat ≤ n + 1
      have := Bool.toNat_le (s.testBit n)
      omega
  exact this 16
theorem nib_lt {f : Nat → Nat} (hf : ∀ l, f l < 16) : ∀ n, nib f n < 2 ^ (4 * n)
  | 0 => by show 0 < 2 ^ (4 * 0); decide
  | n + 1 => by
    have h1 := nib_lt hf n
    have h2 := hf n
    show 2 ^ (4 * n) * f n + nib f n < 2 ^ (4 * (n + 1))
    rw [show 4 * (n + 1) = 4 * n + 4 by omega, Nat.pow_add]
    have : 2 ^ (4 * n) * f n + 2 ^ (4 * n) ≤ 2 ^ (4 * n) * 16 := by
      rw [← Nat.mul_succ]
      exact Nat.mul_le_mul_left _ h2
    omega
theorem nib_bit {f : Nat → Nat} (hf : ∀ l, f l < 16) (l : Nat) {j : Nat} (hj : j < 4) : ∀ n, (nib f n).testBit (4 * l + j) = if l < n then (f l).testBit j else false
  | 0 => by simp [nib]
  | n + 1 => by
    show (2 ^ (4 * n) * f n + nib f n).testBit (4 * l + j) = _
    rw [Nat.testBit_two_pow_mul_add _ (nib_lt hf n), nib_bit hf l hj n]
    by_cases h1 : l < n
    · rw [if_pos (by omega), if_pos h1, if_pos (by omega)]
    · rw [if_neg (by omega)]
      by_cases h2 : l = n
      · subst h2
        rw [if_pos (by omega), show 4 * l + j - 4 * l = j by omega]
      · rw [if_neg (by omega)]
        have h3 := hf n
        exact Nat.testBit_lt_two_pow (Nat.lt_of_lt_of_le h3 (Nat.le_trans (by decide : 16 ≤ 2 ^ 4) (Nat.pow_le_pow_right (by decide) (by omega))))
theorem bits4 {a b : Nat} (ha : a < 16) (hb : b < 16) (h : ∀ j, j < 4 → a.testBit j = b.testBit j) : a = b := by
  apply Nat.eq_of_testBit_eq
  intro j
  by_cases hj : j < 4
  · exact h j hj
  · have e : ∀ {x : Nat}, x < 16 → x.testBit j = false := fun {x} hx => Nat.testBit_lt_two_pow (Nat.lt_of_lt_of_le hx (Nat.le_trans (by decide : 16 ≤ 2 ^ 4) (Nat.pow_le_pow_right (by decide) (by omega))))
    rw [e ha, e hb]
theorem nib_get {f : Nat → Nat} (hf : ∀ l, f l < 16) {l n : Nat} (hl : l < n) : nib f n / 2 ^ (4 * l) &&& 15 = f l := by
  apply bits4 (Nat.lt_of_le_of_lt Nat.and_le_right (by decide)) (hf l)
  intro j hj
  rw [Nat.testBit_and, Nat.testBit_div_two_pow, show j + 4 * l = 4 * l + j by omega, nib_bit hf l hj n, if_pos hl]
  have h15 : (15 : Nat).testBit j = true := by
    have : ∀ j : Fin 4, (15 : Nat).testBit j.1 = true := by decide
    exact this ⟨j, hj⟩
  rw [h15, Bool.and_true]
theorem nib_ext {f g : Nat → Nat} {n : Nat} (h : ∀ l, l < n → f l = g l) : nib f n = nib g n := by
  induction n with
  | zero => rfl
  | succ n ih => show _ * f n + nib f n = _ * g n + nib g n; rw [h n (by omega), ih (fun l hl => h l (by omega))]
theorem eq_of_nib {a : Nat} {f : Nat → Nat} {n : Nat} (hf : ∀ l, f l < 16) (ha : a < 2 ^ (4 * n)) (h : ∀ l, l < n → ∀ j, j < 4 → a.testBit (4 * l + j) = (f l).testBit j) : a = nib f n := by
  apply Nat.eq_of_testBit_eq
  intro i
  by_cases hi : i < 4 * n
  · have h1 := h (i / 4) (by omega) (i % 4) (by omega)
    rw [show 4 * (i / 4) + i % 4 = i by omega] at h1
    have h2 := nib_bit hf (i / 4) (j := i % 4) (by omega) n
    rw [show 4 * (i / 4) + i % 4 = i by omega, if_pos (by omega)] at h2
    rw [h1, h2]
  · rw [Nat.testBit_lt_two_pow (Nat.lt_of_lt_of_le ha (Nat.pow_le_pow_right (by decide) (by omega))), Nat.testBit_lt_two_pow (Nat.lt_of_lt_of_le (nib_lt hf n) (Nat.pow_le_pow_right (by decide) (by omega)))]
theorem nib_or {f g : Nat → Nat} (hf : ∀ l, f l < 16) (hg : ∀ l, g l < 16) (n : Nat) : nib f n ||| nib g n = nib (fun l => f l ||| g l) n := by
  have hfg : ∀ l, f l ||| g l < 16 := fun l => Nat.or_lt_two_pow (n := 4) (hf l) (hg l)
  apply eq_of_nib hfg (Nat.or_lt_two_pow (nib_lt hf n) (nib_lt hg n))
  intro l hl j hj
  rw [Nat.testBit_or, nib_bit hf l hj, nib_bit hg l hj, if_pos hl, if_pos hl, Nat.testBit_or]
theorem mk_f (s l : Nat) : (if s.testBit l then 15 else 0) < 16 := by split <;> decide
theorem mk_lt (s : Nat) : mk s < 2 ^ 32 := nib_lt (mk_f s) 8
/-- two codes agree by a mask's letters -/
theorem mk_agree {f g : Nat → Nat} (hf : ∀ l, f l < 16) (hg : ∀ l, g l < 16) (s : Nat) : ((nib f 8 ^^^ nib g 8) &&& mk s = 0) ↔ ∀ l, l < 8 → s.testBit l = true → f l = g l := by
  constructor
  · intro h l hl hs
    apply bits4 (hf l) (hg l)
    intro j hj
    have h1 : ((nib f 8 ^^^ nib g 8) &&& mk s).testBit (4 * l + j) = false := by rw [h]; exact Nat.zero_testBit _
    rw [Nat.testBit_and, Nat.testBit_xor, nib_bit hf l hj, nib_bit hg l hj, show (mk s).testBit (4 * l + j) = _ from nib_bit (mk_f s) l hj 8, if_pos hl, if_pos hl, if_pos hl, if_pos hs] at h1
    have h15 : (15 : Nat).testBit j = true := by
      have : ∀ j : Fin 4, (15 : Nat).testBit j.1 = true := by decide
      exact this ⟨j, hj⟩
    rw [h15, Bool.and_true] at h1
    cases ha : (f l).testBit j <;> cases hb : (g l).testBit j <;> rw [ha, hb] at h1 <;> first | rfl | cases h1
  · intro h
    apply Nat.eq_of_testBit_eq
    intro i
    rw [Nat.zero_testBit, Nat.testBit_and]
    by_cases hi : i < 32
    · have e : i = 4 * (i / 4) + i % 4 := by omega
      have hl : i / 4 < 8 := by omega
      have hj : i % 4 < 4 := by omega
      rw [e, Nat.testBit_xor, nib_bit hf _ hj, nib_bit hg _ hj, show (mk s).testBit (4 * (i / 4) + i % 4) = _ from nib_bit (mk_f s) _ hj 8, if_pos hl, if_pos hl, if_pos hl]
      cases hs : s.testBit (i / 4) with
      | true => rw [h _ hl hs]; simp
      | false => simp
    · rw [Nat.testBit_lt_two_pow (Nat.lt_of_lt_of_le (mk_lt s) (Nat.pow_le_pow_right (by decide) (by omega))), Bool.and_false]
/-! the two readings of the pure state -/
def WF (d : DB) : Prop := dT d ≤ 6 ∧ (∀ t, t < dT d → 1 ≤ dL d t ∧ dL d t < 256 ∧ pc (dL d t) ≤ 3 ∧ 1 ≤ dP d t ∧ dP d t ≤ 4 ∧ dR d t ≤ 8) ∧ (∀ t, dT d ≤ t → dR d t = 0) ∧ (∀ t i l, dV d t i l ≤ 9) ∧ 1 ≤ dW d ∧ dW d ≤ 8 ∧ 3 ≤ dM d ∧ dM d ≤ 9 ∧ dG d ≤ 40 ∧ (∀ k, dg d k ≤ 126) ∧ dD d ≤ 60
def RC (d : DB) (q : SS) : Prop := fi q 0 = nI (dD d) ∧ fi q 1 = nI (dT d) ∧ fi q 2 = nI (dW d) ∧ fi q 3 = nI (dM d) ∧ fi q 4 = nI (dG d) ∧ (∀ t, t < dT d → ar q 7 t = nI (dL d t) ∧ ar q 8 t = nI (dP d t)) ∧ (∀ t, t < 6 → ar q 9 t = nI (dR d t)) ∧ (∀ t i, t < dT d → i < dR d t → ar q 10 (8 * t + i) = nI (cd d t i)) ∧ (∀ k, k < dG d → ar q 16 k = nI (dg d k))
/-- what the class's scratch does not touch -/
def sameC (q q' : SS) : Prop := (∀ k, k < 5 → fi q' k = fi q k) ∧ ∀ k, (7 ≤ k ∧ k ≤ 10) ∨ k = 16 → ar q' k = ar q k
theorem sameC.rf {q : SS} : sameC q q := ⟨fun _ _ => rfl, fun _ _ => rfl⟩
theorem sameC.tr {a b c : SS} (h : sameC a b) (g : sameC b c) : sameC a c := ⟨fun k hk => (g.1 k hk).trans (h.1 k hk), fun k hk => (g.2 k hk).trans (h.2 k hk)⟩
theorem sameC.sf {q q' : SS} (h : sameC q q') {k : Nat} (hk : 5 ≤ k) (v : Int32) : sameC q (sf q' k v) := ⟨fun j hj => by rw [fi_sf, if_neg (by omega)]; exact h.1 j hj, fun j hj => h.2 j hj⟩
theorem sameC.sa {q q' : SS} (h : sameC q q') {k : Nat} (hk : ¬ ((7 ≤ k ∧ k ≤ 10) ∨ k = 16)) (i : Nat) (v : Int32) : sameC q (sa q' k i v) := ⟨fun j hj => h.1 j hj, fun j hj => by
  funext m
  rw [ar_sa, if_neg (show ¬ j = k by omega), h.2 j hj]⟩
theorem sameC.sl {q q' : SS} (h : sameC q q') (i : Nat) (v : Int64) : sameC q (sl q' i v) := ⟨fun j hj => h.1 j hj, fun j hj => h.2 j hj⟩
theorem RC.same {d : DB} {q q' : SS} (h : RC d q) (s : sameC q q') : RC d q' := by
  obtain ⟨h0, h1, h2, h3, h4, h5, h6, h7, h8⟩ := h
  exact ⟨by rw [s.1 0 (by decide)]; exact h0, by rw [s.1 1 (by decide)]; exact h1, by rw [s.1 2 (by decide)]; exact h2, by rw [s.1 3 (by decide)]; exact h3, by rw [s.1 4 (by decide)]; exact h4,
    fun t ht => by rw [s.2 7 (by omega), s.2 8 (by omega)]; exact h5 t ht, fun t ht => by rw [s.2 9 (by omega)]; exact h6 t ht, fun t i ht hi => by rw [s.2 10 (by omega)]; exact h7 t i ht hi, fun k hk => by rw [s.2 16 (by omega)]; exact h8 k hk⟩
theorem tcase (x : Int32) {n : Nat} (hn : n < 2 ^ 31) : (∃ t, t < n ∧ x = nI t) ∨ (x < 0 ∨ (¬ x < 0 ∧ nI n ≤ x)) := by
  rcases pk_ix x hn with h | h | h
  · exact Or.inr (Or.inl h)
  · by_cases h0 : x < 0
    · exact Or.inr (Or.inl h0)
    · exact Or.inr (Or.inr ⟨h0, h⟩)
  · exact Or.inl h
