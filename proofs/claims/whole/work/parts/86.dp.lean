/-! the least of what is offered: the class's and the reference's offers come to the same -/
section Least
/-- a cost and a key in one number -/
def INF : Nat := 1267650600228229401496703205376
def cmb (w n1 n2 v1 v2 : Nat) : Nat := (v1 / 18446744073709551616 + v2 / 18446744073709551616) * 18446744073709551616 + (((16 ^ n1 + v1 % 18446744073709551616) * 16 + w) * 16 ^ n2 + v2 % 18446744073709551616)
def isMin (P : Nat → Prop) (v : Nat) : Prop := (v = INF ∨ P v) ∧ ∀ x, P x → v ≤ x
theorem isMin_ext {P P' : Nat → Prop} {v : Nat} (h : isMin P v) (e : ∀ x, P x ↔ P' x) : isMin P' v := ⟨h.1.imp_right (e v).mp, fun x hx => h.2 x ((e x).mpr hx)⟩
theorem isMin_no {P : Nat → Prop} (h : ∀ x, ¬ P x) : isMin P INF := ⟨Or.inl rfl, fun x hx => absurd hx (h x)⟩
theorem isMin_add {P P' : Nat → Prop} {v x : Nat} (h : isMin P v) (hx : x < INF) (e : ∀ y, P' y ↔ (P y ∨ y = x)) : isMin P' (min v x) := by
  refine ⟨Or.inr ?_, fun y hy => ?_⟩
  · rw [e]
    rcases Nat.lt_or_ge v x with z | z
    · rw [Nat.min_eq_left (by omega)]
      exact Or.inl (h.1.resolve_left (by omega))
    · rw [Nat.min_eq_right z]
      exact Or.inr rfl
  · rcases (e y).mp hy with z | z
    · have := h.2 y z
      omega
    · omega
theorem isMin_le {P P' : Nat → Prop} {v v' : Nat} (h : isMin P v) (h' : isMin P' v') (hf : ∀ x, P' x → x < INF) (dom : ∀ x, P x → ∃ y, P' y ∧ y ≤ x) : v' ≤ v := by
  rcases h.1 with z | z
  · rcases h'.1 with z' | z'
    · omega
    · have := hf v' z'
      omega
  · obtain ⟨y, y1, y2⟩ := dom v z
    have := h'.2 y y1
    omega
theorem isMin_eq {P : Nat → Prop} {v v' : Nat} (h : isMin P v) (h' : isMin P v') (hf : ∀ x, P x → x < INF) : v = v' := by
  have h1 := isMin_le h h' hf (fun x hx => ⟨x, hx, Nat.le_refl _⟩)
  have h2 := isMin_le h' h hf (fun x hx => ⟨x, hx, Nat.le_refl _⟩)
  omega
def nk (s : Nat) : Nat := 3 * pc s - 2
/-- a value of the set s, of a cost of at most c -/
def GV (s c v : Nat) : Prop := v % 18446744073709551616 < 8 * 16 ^ (nk s - 1) ∧ v / 18446744073709551616 ≤ c
def CB (s : Nat) : Nat := 22020096 * (2 * pc s - 1)
theorem pow16 {n : Nat} (h : n ≤ 15) : 16 ^ n ≤ 1152921504606846976 := Nat.le_trans (Nat.pow_le_pow_right (by decide) h) (by decide)
theorem cmb_key {w n1 n2 a b k1 k2 : Nat} (hn : n1 + n2 ≤ 14) (h1 : k1 < 16 ^ n1) (h2 : k2 < 16 ^ n2) (hw : w < 16) (e : k1 = a % 18446744073709551616) (e2 : k2 = b % 18446744073709551616) : ((16 ^ n1 + k1) * 16 + w) * 16 ^ n2 + k2 < 2 * 16 ^ (n1 + n2 + 1) ∧ 2 * 16 ^ (n1 + n2 + 1) < 9223372036854775808 := by
  have h3 : ((16 ^ n1 + k1) * 16 + w + 1) * 16 ^ n2 ≤ (2 * (16 ^ n1 * 16)) * 16 ^ n2 := Nat.mul_le_mul_right _ (by omega)
  rw [Nat.add_mul _ 1, Nat.one_mul] at h3
  have h4 : 16 ^ (n1 + n2 + 1) = 16 ^ n1 * 16 * 16 ^ n2 := by
    rw [show n1 + n2 + 1 = n1 + 1 + n2 by omega, Nat.pow_add, Nat.pow_add, Nat.pow_one]
  have h5 := pow16 (n := n1 + n2 + 1) (by omega)
  rw [Nat.mul_assoc, ← h4] at h3
  omega
theorem GV_key {s c v : Nat} (hp : 1 ≤ pc s) (h : GV s c v) : v % 18446744073709551616 < 16 ^ nk s := by
  have h1 := h.1
  have h2 : 16 ^ nk s = 16 ^ (nk s - 1) * 16 := by
    rw [← Nat.pow_succ]
    congr 1
    unfold nk
    omega
  omega
theorem GV_lt {s c v : Nat} (hp : 1 ≤ pc s) (hp6 : pc s ≤ 6) (h : GV s c v) : v % 18446744073709551616 < 9223372036854775808 := by
  have h1 := h.1
  have h2 := pow16 (n := nk s - 1) (by unfold nk; omega)
  omega
theorem GV_INF {s c v : Nat} (hc : c ≤ 2147483647) (h : GV s c v) : v < INF := by
  have h2 := h.2
  unfold INF
  omega
theorem cmb_div {w A B c1 c2 v1 v2 : Nat} (hA : 1 ≤ pc A) (hB : 1 ≤ pc B) (hp : pc A + pc B ≤ 6) (hw : w < 16) (h1 : GV A c1 v1) (h2 : GV B c2 v2) : cmb w (nk A) (nk B) v1 v2 / 18446744073709551616 = v1 / 18446744073709551616 + v2 / 18446744073709551616 ∧ cmb w (nk A) (nk B) v1 v2 % 18446744073709551616 = ((16 ^ nk A + v1 % 18446744073709551616) * 16 + w) * 16 ^ nk B + v2 % 18446744073709551616 ∧ ((16 ^ nk A + v1 % 18446744073709551616) * 16 + w) * 16 ^ nk B + v2 % 18446744073709551616 < 2 * 16 ^ (nk A + nk B + 1) := by
  have hk := cmb_key (a := v1) (b := v2) (n1 := nk A) (n2 := nk B) (by unfold nk; omega) (GV_key hA h1) (GV_key hB h2) hw rfl rfl
  unfold cmb
  generalize ((16 ^ nk A + v1 % 18446744073709551616) * 16 + w) * 16 ^ nk B + v2 % 18446744073709551616 = k at *
  generalize v1 / 18446744073709551616 = x at *
  generalize v2 / 18446744073709551616 = y at *
  omega
theorem cmb_GV {w A B s c1 c2 v1 v2 : Nat} (hA : 1 ≤ pc A) (hB : 1 ≤ pc B) (hs : pc A + pc B = pc s) (hp : pc s ≤ 6) (hw : w < 16) (h1 : GV A c1 v1) (h2 : GV B c2 v2) : GV s (c1 + c2) (cmb w (nk A) (nk B) v1 v2) := by
  obtain ⟨e1, e2, e3⟩ := cmb_div hA hB (by omega) hw h1 h2
  refine ⟨?_, ?_⟩
  · rw [e2, show nk s - 1 = nk A + nk B + 1 by unfold nk; omega]
    omega
  · rw [e1]
    have := h1.2
    have := h2.2
    omega
theorem add_Q (v m : Nat) : (v + m * 18446744073709551616) / 18446744073709551616 = v / 18446744073709551616 + m ∧ (v + m * 18446744073709551616) % 18446744073709551616 = v % 18446744073709551616 := by omega
theorem GV_add {s c v m : Nat} (h : GV s c v) : GV s (c + m) (v + m * 18446744073709551616) := by
  have h1 := h.1
  have h2 := h.2
  obtain ⟨e1, e2⟩ := add_Q v m
  exact ⟨by rw [e2]; exact h1, by rw [e1]; omega⟩
theorem GV_le {s c c' v : Nat} (h : GV s c v) (hc : c ≤ c') : GV s c' v := ⟨h.1, Nat.le_trans h.2 hc⟩
theorem cmb_add (w n1 n2 v1 v2 m1 m2 : Nat) : cmb w n1 n2 (v1 + m1 * 18446744073709551616) (v2 + m2 * 18446744073709551616) = cmb w n1 n2 v1 v2 + (m1 + m2) * 18446744073709551616 := by
  unfold cmb
  rw [(add_Q v1 m1).1, (add_Q v1 m1).2, (add_Q v2 m2).1, (add_Q v2 m2).2]
  omega
theorem cmb_mono {w A B c1 c2 v1 v2 u1 u2 : Nat} (hA : 1 ≤ pc A) (hB : 1 ≤ pc B) (hp : pc A + pc B ≤ 6) (hw : w < 16) (h1 : GV A c1 v1) (h2 : GV B c2 v2) (g1 : v1 ≤ u1) (g2 : v2 ≤ u2) : cmb w (nk A) (nk B) v1 v2 ≤ cmb w (nk A) (nk B) u1 u2 := by
  have hk := cmb_key (a := v1) (b := v2) (n1 := nk A) (n2 := nk B) (by unfold nk; omega) (GV_key hA h1) (GV_key hB h2) hw rfl rfl
  unfold cmb
  by_cases e1 : v1 / 18446744073709551616 = u1 / 18446744073709551616
  · by_cases e2 : v2 / 18446744073709551616 = u2 / 18446744073709551616
    · have k1 : v1 % 18446744073709551616 ≤ u1 % 18446744073709551616 := by omega
      have k2 : v2 % 18446744073709551616 ≤ u2 % 18446744073709551616 := by omega
      have k3 : ((16 ^ nk A + v1 % 18446744073709551616) * 16 + w) * 16 ^ nk B ≤ ((16 ^ nk A + u1 % 18446744073709551616) * 16 + w) * 16 ^ nk B := Nat.mul_le_mul_right _ (by omega)
      rw [e1, e2]
      omega
    · have : v1 / 18446744073709551616 + v2 / 18446744073709551616 + 1 ≤ u1 / 18446744073709551616 + u2 / 18446744073709551616 := by omega
      have := Nat.mul_le_mul_right 18446744073709551616 this
      omega
  · have : v1 / 18446744073709551616 + v2 / 18446744073709551616 + 1 ≤ u1 / 18446744073709551616 + u2 / 18446744073709551616 := by omega
    have := Nat.mul_le_mul_right 18446744073709551616 this
    omega
end Least
section Offers
variable {d : DB}
/-- A is a left side of the set s -/
def VL (sp s A : Nat) : Prop := 1 ≤ A ∧ A < s ∧ andn A s = 0 ∧ (sp = 0 ∨ pc (s - A) = 1)
def stb (d : DB) (b w A B oA oB : Nat) : Nat := stc d w (pgs d A b) (pgs d B b) A B oA oB
def srb (d : DB) (b s : Nat) : Nat := srt (pgs d s b) (dM d)
def tval (d : DB) (b s : Nat) : Nat := pgs d s b * 18446744073709551616 + (tz s + 2)
/-- the best of a row, if it is wished sorted by l -/
def wl (d : DB) (b : Nat) (R : Nat → Nat) (s l : Nat) : Nat := min (R l) (R 8 + srb d b s * 18446744073709551616)
def Of1 (d : DB) (b : Nat) (CA CB : Nat → Nat) (A B j l x : Nat) : Prop := CA j < INF ∧ (l = j ∨ l = 8) ∧ x = cmb 8 (nk A) (nk B) (CA j) (CB 8) + stb d b 108 A B 0 0 * 18446744073709551616
def Of2 (d : DB) (b : Nat) (CA CB : Nat → Nat) (A B l x : Nat) : Prop := sh d A B ≠ 0 ∧ l = 8 ∧ x = cmb 9 (nk A) (nk B) (CA 8) (CB 8) + stb d b 112 A B 0 0 * 18446744073709551616
def Of3 (d : DB) (b : Nat) (CA CB : Nat → Nat) (A B l x : Nat) : Prop := sh d A B ≠ 0 ∧ (l = tz (sh d A B) ∨ l = 8) ∧ x = cmb 10 (nk A) (nk B) (wl d b CA A (tz (sh d A B))) (wl d b CB B (tz (sh d A B)))
def OfA (d : DB) (b : Nat) (CA CB : Nat → Nat) (A B l x : Nat) : Prop := (∃ j, j < 9 ∧ Of1 d b CA CB A B j l x) ∨ Of2 d b CA CB A B l x ∨ Of3 d b CA CB A B l x
def OfC (d : DB) (b sp : Nat) (C : Nat → Nat → Nat) (s l x : Nat) : Prop := (pc s = 1 ∧ (l = 8 ∨ l + 1 = sb d (tz s)) ∧ x = tval d b s) ∨ (pc s ≠ 1 ∧ ∃ A, VL sp s A ∧ OfA d b (C A) (C (s - A)) A (s - A) l x)
def OfW (d : DB) (b : Nat) (MA MB : Nat → Nat) (A B o p w t x : Nat) : Prop := MA o < INF ∧ MB p < INF ∧ may d w A B = true ∧ t = sto d w A B o ∧ x = cmb (dig w) (nk A) (nk B) (MA o) (MB p) + stb d b w A B o p * 18446744073709551616
def OfB (d : DB) (b : Nat) (MA MB : Nat → Nat) (A B t x : Nat) : Prop := ∃ o, o < 9 ∧ ∃ p, p < 9 ∧ ∃ w, (w = 108 ∨ w = 112 ∨ w = 115) ∧ OfW d b MA MB A B o p w t x
def OfM (d : DB) (b sp : Nat) (M : Nat → Nat → Nat) (s t x : Nat) : Prop := (pc s = 1 ∧ t = sb d (tz s) ∧ x = tval d b s) ∨ (pc s ≠ 1 ∧ ∃ A, VL sp s A ∧ OfB d b (M A) (M (s - A)) A (s - A) t x)
theorem vl_facts {s a : Nat} (hs : s < 64) (h1 : 1 ≤ a) (h2 : a < s) (h : andn a s = 0) : andn s a = s - a ∧ a ||| (s - a) = s ∧ a &&& (s - a) = 0 ∧ pc a + pc (s - a) = pc s ∧ 1 ≤ pc a ∧ 1 ≤ pc (s - a) ∧ andn (s - a) s = 0 := by
  have k1 : ∀ s a : Fin 64, (1 ≤ a.1 ∧ a.1 < s.1 ∧ andn a.1 s.1 = 0) → (andn s.1 a.1 = s.1 - a.1 ∧ (a.1 ||| (s.1 - a.1)) = s.1 ∧ (a.1 &&& (s.1 - a.1)) = 0) := by decide +kernel
  have k2 : ∀ s a : Fin 64, (1 ≤ a.1 ∧ a.1 < s.1 ∧ andn a.1 s.1 = 0) → (pc a.1 + pc (s.1 - a.1) = pc s.1 ∧ 1 ≤ pc a.1 ∧ 1 ≤ pc (s.1 - a.1) ∧ andn (s.1 - a.1) s.1 = 0) := by decide +kernel
  obtain ⟨g1, g2, g3⟩ := k1 ⟨s, hs⟩ ⟨a, by omega⟩ ⟨h1, h2, h⟩
  obtain ⟨g4, g5, g6, g7⟩ := k2 ⟨s, hs⟩ ⟨a, by omega⟩ ⟨h1, h2, h⟩
  exact ⟨g1, g2, g3, g4, g5, g6, g7⟩
theorem andn_tr {a s t : Nat} (h1 : andn a s = 0) (h2 : andn s t = 0) : andn a t = 0 := by
  apply Nat.eq_of_testBit_eq
  intro i
  have e1 := congrArg (fun x => x.testBit i) h1
  have e2 := congrArg (fun x => x.testBit i) h2
  simp only [andn_bit, Nat.zero_testBit] at e1 e2 ⊢
  revert e1 e2
  cases a.testBit i <;> cases s.testBit i <;> cases t.testBit i <;> decide
theorem vl_last {s : Nat} (hs : s < 64) (h1 : 1 ≤ s) (hp : pc s ≠ 1) (sp : Nat) : VL sp s (s - 2 ^ tz s) := by
  have key : ∀ s : Fin 64, 1 ≤ s.1 → pc s.1 ≠ 1 → 1 ≤ s.1 - 2 ^ tz s.1 ∧ s.1 - 2 ^ tz s.1 < s.1 ∧ andn (s.1 - 2 ^ tz s.1) s.1 = 0 ∧ pc (s.1 - (s.1 - 2 ^ tz s.1)) = 1 := by decide +kernel
  obtain ⟨a, b, c, e⟩ := key ⟨s, hs⟩ h1 hp
  exact ⟨a, b, c, Or.inr e⟩
theorem andn_lt {s set : Nat} (h : andn s set = 0) {T : Nat} (hs : set < 2 ^ T) : s < 2 ^ T := by
  have h1 := sub_andn.mpr h
  rw [← h1]
  exact Nat.lt_of_le_of_lt Nat.and_le_right hs
/-- the rows of a set's subsets below m hold the least of what is offered -/
def SpC (d : DB) (b sp set m : Nat) (C : Nat → Nat → Nat) : Prop := ∀ s, 1 ≤ s → s < m → andn s set = 0 → ∀ l, l < 9 → isMin (OfC d b sp C s l) (C s l)
def SpM (d : DB) (b sp set m : Nat) (M : Nat → Nat → Nat) : Prop := ∀ s, 1 ≤ s → s < m → andn s set = 0 → ∀ t, t < 9 → isMin (OfM d b sp M s t) (M s t)
theorem tval_GV (hw : WF d) {b s : Nat} (hs : s < 2 ^ dT d) (h1 : pc s = 1) : GV s (CB s) (tval d b s) := by
  have hs6 := s_lt hw hs
  have h2 := (pc1 hs6).mp h1
  have h3 := pgs_20 (b := b) hw hs
  unfold GV CB tval nk
  rw [h1]
  have e1 : (pgs d s b * 18446744073709551616 + (tz s + 2)) / 18446744073709551616 = pgs d s b := by omega
  have e2 : (pgs d s b * 18446744073709551616 + (tz s + 2)) % 18446744073709551616 = tz s + 2 := by omega
  rw [e1, e2]
  refine ⟨?_, by omega⟩
  show tz s + 2 < 8 * 16 ^ 0
  rw [Nat.pow_zero]
  omega
theorem CB_lt {s : Nat} (h : pc s ≤ 6) : CB s ≤ 242221056 := by unfold CB; omega
theorem CB_sum {A B s : Nat} (hA : 1 ≤ pc A) (hB : 1 ≤ pc B) (hs : pc A + pc B = pc s) : CB A + CB B + 22020096 = CB s := by unfold CB; omega
theorem srb_le (hw : WF d) {b s : Nat} (hs : s < 2 ^ dT d) : srb d b s ≤ 11010048 := srt_le (pgs_20 (b := b) hw hs)
/-- what a row must be for its offers to be sound -/
def RG (R : Nat → Nat) (s : Nat) : Prop := (∀ l, l < 9 → R l ≠ INF → GV s (CB s) (R l)) ∧ R 8 ≠ INF
theorem wl_GV (hw : WF d) {b s l : Nat} {R : Nat → Nat} (hs : s < 2 ^ dT d) (hl : l < 8) (h : RG R s) : GV s (CB s + 11010048) (wl d b R s l) := by
  have h8 := h.1 8 (by omega) h.2
  have hb := srb_le (b := b) hw hs
  have hp := (pc6 (s_lt hw hs)).1
  have hc := CB_lt hp
  have g8 : GV s (CB s + 11010048) (R 8 + srb d b s * 18446744073709551616) := GV_le (GV_add h8) (by omega)
  unfold wl
  rcases Nat.lt_or_ge (R l) (R 8 + srb d b s * 18446744073709551616) with z | z
  · rw [Nat.min_eq_left (by omega)]
    have := GV_INF (by omega) g8
    exact GV_le (h.1 l (by omega) (by omega)) (by omega)
  · rw [Nat.min_eq_right z]
    exact g8
section Sound
variable {b A B s : Nat} {CA CB' : Nat → Nat}
theorem Of1_GV (hw : WF d) (hA : A < 2 ^ dT d) (hB : B < 2 ^ dT d) (pA : 1 ≤ pc A) (pB : 1 ≤ pc B) (hs : pc A + pc B = pc s) (h6 : pc s ≤ 6) (rA : RG CA A) (rB : RG CB' B) {j l x : Nat} (hj : j < 9) (h : Of1 d b CA CB' A B j l x) : GV s (CB s) x := by
  obtain ⟨h1, -, rfl⟩ := h
  have hst := stc_lt (w := 108) (oA := 0) (oB := 0) (b := b) hw hA hB (by omega)
  have g := cmb_GV (w := 8) pA pB hs h6 (by decide) (rA.1 j hj (by omega)) (rB.1 8 (by omega) rB.2)
  exact GV_le (GV_add g) (by have := CB_sum pA pB hs; unfold stb; omega)
theorem Of2_GV (hw : WF d) (hA : A < 2 ^ dT d) (hB : B < 2 ^ dT d) (pA : 1 ≤ pc A) (pB : 1 ≤ pc B) (hs : pc A + pc B = pc s) (h6 : pc s ≤ 6) (rA : RG CA A) (rB : RG CB' B) {l x : Nat} (h : Of2 d b CA CB' A B l x) : GV s (CB s) x := by
  obtain ⟨-, -, rfl⟩ := h
  have hst := stc_lt (w := 112) (oA := 0) (oB := 0) (b := b) hw hA hB (by omega)
  have g := cmb_GV (w := 9) pA pB hs h6 (by decide) (rA.1 8 (by omega) rA.2) (rB.1 8 (by omega) rB.2)
  exact GV_le (GV_add g) (by have := CB_sum pA pB hs; unfold stb; omega)
theorem Of3_GV (hw : WF d) (hA : A < 2 ^ dT d) (hB : B < 2 ^ dT d) (pA : 1 ≤ pc A) (pB : 1 ≤ pc B) (hs : pc A + pc B = pc s) (h6 : pc s ≤ 6) (rA : RG CA A) (rB : RG CB' B) {l x : Nat} (h : Of3 d b CA CB' A B l x) : GV s (CB s) x := by
  obtain ⟨-, -, rfl⟩ := h
  have htz := tz_lt (sh_lt hw A B)
  have g := cmb_GV (w := 10) pA pB hs h6 (by decide) (wl_GV (b := b) hw hA htz rA) (wl_GV (b := b) hw hB htz rB)
  exact GV_le g (by have := CB_sum pA pB hs; omega)
theorem OfA_GV (hw : WF d) (hA : A < 2 ^ dT d) (hB : B < 2 ^ dT d) (pA : 1 ≤ pc A) (pB : 1 ≤ pc B) (hs : pc A + pc B = pc s) (h6 : pc s ≤ 6) (rA : RG CA A) (rB : RG CB' B) {l x : Nat} (h : OfA d b CA CB' A B l x) : GV s (CB s) x := by
  rcases h with ⟨j, j1, h⟩ | h | h
  · exact Of1_GV hw hA hB pA pB hs h6 rA rB j1 h
  · exact Of2_GV hw hA hB pA pB hs h6 rA rB h
  · exact Of3_GV hw hA hB pA pB hs h6 rA rB h
def RM (R : Nat → Nat) (s : Nat) : Prop := ∀ l, l < 9 → R l ≠ INF → GV s (CB s) (R l)
theorem OfW_GV (hw : WF d) (hA : A < 2 ^ dT d) (hB : B < 2 ^ dT d) (pA : 1 ≤ pc A) (pB : 1 ≤ pc B) (hs : pc A + pc B = pc s) (h6 : pc s ≤ 6) (rA : RM CA A) (rB : RM CB' B) {o p w t x : Nat} (ho : o < 9) (hp : p < 9) (hww : w = 108 ∨ w = 112 ∨ w = 115) (h : OfW d b CA CB' A B o p w t x) : GV s (CB s) x := by
  obtain ⟨h1, h2, -, -, rfl⟩ := h
  have hst := stc_lt (w := w) (oA := o) (oB := p) (b := b) hw hA hB (by omega)
  have hd : dig w < 16 := dig_lt (by unfold sgn; omega) (by omega)
  have g := cmb_GV (w := dig w) pA pB hs h6 hd (rA o ho (by omega)) (rB p hp (by omega))
  exact GV_le (GV_add g) (by have := CB_sum pA pB hs; unfold stb; omega)
end Sound
/-- rows of the class are sound -/
theorem SpC_RG (hw : WF d) {b sp set m : Nat} {C : Nat → Nat → Nat} (hset : set < 2 ^ dT d) (h : SpC d b sp set m C) : ∀ n s, s < n → 1 ≤ s → s < m → andn s set = 0 → RG (C s) s := by
  intro n
  induction n with
  | zero => intro s h1; omega
  | succ n ih =>
    intro s hsn hs1 hsm hss
    have hsT := andn_lt hss hset
    have hs6 := s_lt hw hsT
    have hp6 := (pc6 hs6).1
    have sound : ∀ l x, l < 9 → OfC d b sp C s l x → GV s (CB s) x := by
      intro l x hl hx
      rcases hx with ⟨h1, -, rfl⟩ | ⟨h1, A, hv, hx⟩
      · exact tval_GV hw hsT h1
      · obtain ⟨f1, f2, f3, f4, f5, f6, f7⟩ := vl_facts hs6 hv.1 hv.2.1 hv.2.2.1
        have aA := andn_tr hv.2.2.1 hss
        have aB := andn_tr f7 hss
        have hA1 := hv.1
        have hA2 := hv.2.1
        exact OfA_GV hw (andn_lt aA hset) (andn_lt aB hset) f5 f6 f4 hp6 (ih A (by omega) hv.1 (by omega) aA) (ih (s - A) (by omega) (by omega) (by omega) aB) hx
    have h8 := h s hs1 hsm hss 8 (by decide)
    refine ⟨fun l hl hne => ?_, ?_⟩
    · exact sound l _ hl ((h s hs1 hsm hss l hl).1.resolve_left hne)
    · intro e8
      by_cases h1 : pc s = 1
      · have hx : OfC d b sp C s 8 (tval d b s) := Or.inl ⟨h1, Or.inl rfl, rfl⟩
        have := h8.2 _ hx
        have := GV_INF (by have := CB_lt hp6; omega) (sound 8 _ (by decide) hx)
        omega
      · have hv := vl_last hs6 hs1 h1 sp
        obtain ⟨f1, f2, f3, f4, f5, f6, f7⟩ := vl_facts hs6 hv.1 hv.2.1 hv.2.2.1
        have aA := andn_tr hv.2.2.1 hss
        have hA1 := hv.1
        have hA2 := hv.2.1
        have rA := ih (s - 2 ^ tz s) (by omega) hv.1 (by omega) aA
        have hlt := GV_INF (by have := CB_lt (s := s - 2 ^ tz s) (by omega); omega) (rA.1 8 (by decide) rA.2)
        have hx : OfC d b sp C s 8 _ := Or.inr ⟨h1, _, hv, Or.inl ⟨8, by decide, hlt, Or.inr rfl, rfl⟩⟩
        have := h8.2 _ hx
        have := GV_INF (by have := CB_lt hp6; omega) (sound 8 _ (by decide) hx)
        omega
theorem SpM_RM (hw : WF d) {b sp set m : Nat} {M : Nat → Nat → Nat} (hset : set < 2 ^ dT d) (h : SpM d b sp set m M) : ∀ n s, s < n → 1 ≤ s → s < m → andn s set = 0 → RM (M s) s := by
  intro n
  induction n with
  | zero => intro s h1; omega
  | succ n ih =>
    intro s hsn hs1 hsm hss l hl hne
    have hsT := andn_lt hss hset
    have hs6 := s_lt hw hsT
    have hp6 := (pc6 hs6).1
    rcases (h s hs1 hsm hss l hl).1.resolve_left hne with ⟨h1, -, hx⟩ | ⟨h1, A, hv, o, ho, p, hp, w, hww, hx⟩
    · rw [hx]
      exact tval_GV hw hsT h1
    · obtain ⟨f1, f2, f3, f4, f5, f6, f7⟩ := vl_facts hs6 hv.1 hv.2.1 hv.2.2.1
      have aA := andn_tr hv.2.2.1 hss
      have aB := andn_tr f7 hss
      have hA1 := hv.1
      have hA2 := hv.2.1
      exact OfW_GV hw (andn_lt aA hset) (andn_lt aB hset) f5 f6 f4 hp6 (ih A (by omega) hv.1 (by omega) aA) (ih (s - A) (by omega) (by omega) (by omega) aB) ho hp hww hx
/-- the class's row and the reference's -/
def EQ (R V : Nat → Nat) : Prop := (∀ l, l < 8 → R l = V (l + 1)) ∧ (∃ o, o < 9 ∧ R 8 = V o) ∧ ∀ o, o < 9 → R 8 ≤ V o
theorem wl_le {b s l o : Nat} {R V : Nat → Nat} (h : EQ R V) (hl : l < 8) (ho : o < 9) : wl d b R s l ≤ V o + (if o = l + 1 then 0 else srb d b s) * 18446744073709551616 := by
  unfold wl
  by_cases e : o = l + 1
  · rw [if_pos e, Nat.zero_mul, Nat.add_zero, e, ← h.1 l hl]
    exact Nat.min_le_left _ _
  · rw [if_neg e]
    have := h.2.2 o ho
    exact Nat.le_trans (Nat.min_le_right _ _) (by omega)
theorem wl_at {b s l : Nat} {R V : Nat → Nat} (h : EQ R V) (hl : l < 8) (hlt : wl d b R s l < INF) (h8 : R 8 < INF) : ∃ o, o < 9 ∧ V o < INF ∧ V o + (if o = l + 1 then 0 else srb d b s) * 18446744073709551616 ≤ wl d b R s l := by
  unfold wl at hlt ⊢
  rcases Nat.lt_or_ge (R l) (R 8 + srb d b s * 18446744073709551616) with z | z
  · rw [Nat.min_eq_left (by omega)] at hlt ⊢
    refine ⟨l + 1, by omega, by rw [← h.1 l hl]; exact hlt, ?_⟩
    rw [if_pos rfl, ← h.1 l hl]
    omega
  · rw [Nat.min_eq_right z]
    obtain ⟨o, ho, e⟩ := h.2.1
    refine ⟨o, ho, by rw [← e]; exact h8, ?_⟩
    rw [e]
    split <;> omega
theorem stb_l {b A B o p : Nat} : stb d b 108 A B o p = stb d b 108 A B 0 0 := rfl
theorem stb_p {b A B o p : Nat} : stb d b 112 A B o p = stb d b 112 A B 0 0 := rfl
theorem stb_s {b A B o p : Nat} : stb d b 115 A B o p = (if o = tz (sh d A B) + 1 then 0 else srb d b A) + (if p = tz (sh d A B) + 1 then 0 else srb d b B) := rfl
theorem dp_eq (hw : WF d) {b sp set m : Nat} {C M : Nat → Nat → Nat} (hset : set < 2 ^ dT d) (hC : SpC d b sp set m C) (hM : SpM d b sp set m M) : ∀ n s, s < n → 1 ≤ s → s < m → andn s set = 0 → EQ (C s) (M s) := by
  intro n
  induction n with
  | zero => intro s h1; omega
  | succ n ih =>
    intro s hsn hs1 hsm hss
    have hsT := andn_lt hss hset
    have hs6 := s_lt hw hsT
    have hp6 := (pc6 hs6).1
    have rC := fun t t1 t2 t3 => SpC_RG hw hset hC (t + 1) t (by omega) t1 t2 t3
    have rM := fun t t1 t2 t3 => SpM_RM hw hset hM (t + 1) t (by omega) t1 t2 t3
    have hCs := hC s hs1 hsm hss
    have hMs := hM s hs1 hsm hss
    have rs := rC s hs1 hsm hss
    have hsb := sb_le d (tz s)
    have inf : ∀ {t c v : Nat}, pc t ≤ 6 → c ≤ CB t + 11010048 → GV t c v → v < INF := fun {t c v} ht hc hg => GV_INF (by have := CB_lt ht; omega) hg
    by_cases h1 : pc s = 1
    · have e8 : C s 8 = tval d b s := by
        rcases (hCs 8 (by decide)).1.resolve_left rs.2 with ⟨-, -, hx⟩ | ⟨hx, -⟩
        · exact hx
        · exact absurd h1 hx
      have hlt := inf hp6 (by omega) (tval_GV (b := b) hw hsT h1)
      have eM : ∀ t, t < 9 → M s t = if t = sb d (tz s) then tval d b s else INF := by
        intro t ht
        by_cases e : t = sb d (tz s)
        · rw [if_pos e]
          have h3 := (hMs t ht).2 (tval d b s) (Or.inl ⟨h1, e, rfl⟩)
          rcases (hMs t ht).1.resolve_left (by omega) with ⟨-, -, hx⟩ | ⟨hx, -⟩
          · exact hx
          · exact absurd h1 hx
        · rw [if_neg e]
          rcases (hMs t ht).1 with hx | ⟨-, hx, -⟩ | ⟨hx, -⟩
          · exact hx
          · exact absurd hx e
          · exact absurd h1 hx
      refine ⟨fun l hl => ?_, ⟨sb d (tz s), by omega, ?_⟩, fun o ho => ?_⟩
      · rw [eM (l + 1) (by omega)]
        by_cases e : l + 1 = sb d (tz s)
        · rw [if_pos e]
          have h3 := (hCs l (by omega)).2 (tval d b s) (Or.inl ⟨h1, Or.inr e, rfl⟩)
          rcases (hCs l (by omega)).1.resolve_left (by omega) with ⟨-, -, hx⟩ | ⟨hx, -⟩
          · exact hx
          · exact absurd h1 hx
        · rw [if_neg e]
          rcases (hCs l (by omega)).1 with hx | ⟨-, hx, -⟩ | ⟨hx, -⟩
          · exact hx
          · omega
          · exact absurd h1 hx
      · rw [eM _ (by omega), if_pos rfl, e8]
      · rw [eM o ho, e8]
        split <;> omega
    · /- the sides of a step -/
      have side : ∀ A, VL sp s A → (EQ (C A) (M A) ∧ EQ (C (s - A)) (M (s - A))) ∧ (RG (C A) A ∧ RG (C (s - A)) (s - A)) ∧ (RM (M A) A ∧ RM (M (s - A)) (s - A)) ∧ A < 2 ^ dT d ∧ s - A < 2 ^ dT d ∧ 1 ≤ pc A ∧ 1 ≤ pc (s - A) ∧ pc A + pc (s - A) = pc s := by
        intro A hv
        obtain ⟨f1, f2, f3, f4, f5, f6, f7⟩ := vl_facts hs6 hv.1 hv.2.1 hv.2.2.1
        have aA := andn_tr hv.2.2.1 hss
        have aB := andn_tr f7 hss
        have hA1 := hv.1
        have hA2 := hv.2.1
        exact ⟨⟨ih A (by omega) hv.1 (by omega) aA, ih (s - A) (by omega) (by omega) (by omega) aB⟩, ⟨rC A hv.1 (by omega) aA, rC (s - A) (by omega) (by omega) aB⟩, ⟨rM A hv.1 (by omega) aA, rM (s - A) (by omega) (by omega) aB⟩, andn_lt aA hset, andn_lt aB hset, f5, f6, f4⟩
      have fC : ∀ l x, l < 9 → OfC d b sp C s l x → x < INF := by
        intro l x hl hx
        rcases hx with ⟨z, -⟩ | ⟨-, A, hv, hx⟩
        · exact absurd z h1
        · obtain ⟨-, ⟨rA, rB⟩, -, tA, tB, pA, pB, hsum⟩ := side A hv
          exact inf hp6 (by omega) (OfA_GV hw tA tB pA pB hsum hp6 rA rB hx)
      have fM : ∀ t x, OfM d b sp M s t x → x < INF := by
        intro t x hx
        rcases hx with ⟨z, -⟩ | ⟨-, A, hv, o, ho, p, hp, w, hww, hx⟩
        · exact absurd z h1
        · obtain ⟨-, -, ⟨rA, rB⟩, tA, tB, pA, pB, hsum⟩ := side A hv
          exact inf hp6 (by omega) (OfW_GV hw tA tB pA pB hsum hp6 rA rB ho hp hww hx)
      /- each offer of the reference is met by one of the class -/
      have toC : ∀ t x, t < 9 → OfM d b sp M s t x → (∃ y, OfC d b sp C s 8 y ∧ y ≤ x) ∧ ∀ l, l < 8 → t = l + 1 → ∃ y, OfC d b sp C s l y ∧ y ≤ x := by
        intro t x ht hx
        rcases hx with ⟨z, -⟩ | ⟨-, A, hv, o, ho, p, hp, w, hww, k1, k2, k3, k4, rfl⟩
        · exact absurd z h1
        · obtain ⟨⟨eA, eB⟩, ⟨rA, rB⟩, ⟨mA, mB⟩, tA, tB, pA, pB, hsum⟩ := side A hv
          have gB8 := rB.1 8 (by decide) rB.2
          have gA8 := rA.1 8 (by decide) rA.2
          have htz := tz_lt (sh_lt hw A (s - A))
          have lA8 := inf (by omega) (by omega) gA8
          rcases hww with rfl | rfl | rfl
          · refine ⟨⟨_, Or.inr ⟨h1, A, hv, Or.inl ⟨8, by decide, lA8, Or.inl rfl, rfl⟩⟩, ?_⟩, fun l hl e => ?_⟩
            · have := cmb_mono (w := 8) pA pB (by omega) (by decide) gA8 gB8 (eA.2.2 o ho) (eB.2.2 p hp)
              rw [stb_l (o := o) (p := p)]
              exact Nat.add_le_add_right this _
            · have e : o = l + 1 := k4.symm.trans e
              have hlt : C A l < INF := by rw [eA.1 l hl, ← e]; exact k1
              refine ⟨_, Or.inr ⟨h1, A, hv, Or.inl ⟨l, by omega, hlt, Or.inl rfl, rfl⟩⟩, ?_⟩
              have := cmb_mono (w := 8) pA pB (by omega) (by decide) (rA.1 l (by omega) (by omega)) gB8 (show C A l ≤ M A o by rw [e, eA.1 l hl]; omega) (eB.2.2 p hp)
              rw [stb_l (o := o) (p := p)]
              exact Nat.add_le_add_right this _
          · have hsh : sh d A (s - A) ≠ 0 := (of_decide_eq_true k3).resolve_left (by decide)
            refine ⟨⟨_, Or.inr ⟨h1, A, hv, Or.inr (Or.inl ⟨hsh, rfl, rfl⟩)⟩, ?_⟩, fun l hl e => ?_⟩
            · have := cmb_mono (w := 9) pA pB (by omega) (by decide) gA8 gB8 (eA.2.2 o ho) (eB.2.2 p hp)
              rw [stb_p (o := o) (p := p)]
              exact Nat.add_le_add_right this _
            · have e : (0 : Nat) = l + 1 := k4.symm.trans e
              omega
          · have hsh : sh d A (s - A) ≠ 0 := (of_decide_eq_true k3).resolve_left (by decide)
            have hle : cmb 10 (nk A) (nk (s - A)) (wl d b (C A) A (tz (sh d A (s - A)))) (wl d b (C (s - A)) (s - A) (tz (sh d A (s - A)))) ≤ cmb (dig 115) (nk A) (nk (s - A)) (M A o) (M (s - A) p) + stb d b 115 A (s - A) o p * 18446744073709551616 := by
              rw [stb_s, ← cmb_add]
              exact cmb_mono (w := 10) pA pB (by omega) (by decide) (wl_GV (b := b) hw tA htz rA) (wl_GV (b := b) hw tB htz rB) (wl_le eA htz ho) (wl_le eB htz hp)
            refine ⟨⟨_, Or.inr ⟨h1, A, hv, Or.inr (Or.inr ⟨hsh, Or.inr rfl, rfl⟩)⟩, hle⟩, fun l hl e => ?_⟩
            have e : tz (sh d A (s - A)) + 1 = l + 1 := k4.symm.trans e
            exact ⟨_, Or.inr ⟨h1, A, hv, Or.inr (Or.inr ⟨hsh, Or.inl (by omega), rfl⟩)⟩, hle⟩
      /- each offer of the class is met by one of the reference -/
      have toM : ∀ l x, l < 9 → OfC d b sp C s l x → ∃ t y, t < 9 ∧ (l < 8 → t = l + 1) ∧ OfM d b sp M s t y ∧ y ≤ x := by
        intro l x hl hx
        rcases hx with ⟨z, -⟩ | ⟨-, A, hv, hx⟩
        · exact absurd z h1
        · obtain ⟨⟨eA, eB⟩, ⟨rA, rB⟩, ⟨mA, mB⟩, tA, tB, pA, pB, hsum⟩ := side A hv
          have gB8 := rB.1 8 (by decide) rB.2
          have gA8 := rA.1 8 (by decide) rA.2
          have lA8 := inf (by omega) (by omega) gA8
          have lB8 := inf (by omega) (by omega) gB8
          have htz := tz_lt (sh_lt hw A (s - A))
          obtain ⟨oB, hoB, eoB⟩ := eB.2.1
          obtain ⟨oA, hoA, eoA⟩ := eA.2.1
          rcases hx with ⟨j, hj, k1, k2, rfl⟩ | ⟨k1, k2, rfl⟩ | ⟨k1, k2, rfl⟩
          · obtain ⟨o, ho, eo, ho2⟩ : ∃ o, o < 9 ∧ C A j = M A o ∧ (j < 8 → o = j + 1) := by
              by_cases hj8 : j = 8
              · exact ⟨oA, hoA, by rw [hj8]; exact eoA, fun z => by omega⟩
              · exact ⟨j + 1, by omega, eA.1 j (by omega), fun _ => rfl⟩
            refine ⟨o, _, ho, fun z => ?_, Or.inr ⟨h1, A, hv, o, ho, oB, hoB, 108, Or.inl rfl, by rw [← eo]; exact k1, by rw [← eoB]; exact lB8, decide_eq_true (Or.inl rfl), rfl, rfl⟩, ?_⟩
            · rcases k2 with z2 | z2
              · rw [z2]; exact ho2 (by omega)
              · omega
            · rw [eo, eoB, stb_l (o := o) (p := oB)]
              exact Nat.le_refl _
          · refine ⟨0, _, by decide, fun z => by omega, Or.inr ⟨h1, A, hv, oA, hoA, oB, hoB, 112, Or.inr (Or.inl rfl), by rw [← eoA]; exact lA8, by rw [← eoB]; exact lB8, decide_eq_true (Or.inr k1), rfl, rfl⟩, ?_⟩
            rw [eoA, eoB, stb_p (o := oA) (p := oB)]
            exact Nat.le_refl _
          · have gA := wl_GV (b := b) hw tA htz rA
            have gB := wl_GV (b := b) hw tB htz rB
            obtain ⟨o, ho, o1, o2⟩ := wl_at (d := d) (b := b) (s := A) eA htz (inf (by omega) (by omega) gA) lA8
            obtain ⟨p, hp, p1, p2⟩ := wl_at (d := d) (b := b) (s := s - A) eB htz (inf (by omega) (by omega) gB) lB8
            refine ⟨tz (sh d A (s - A)) + 1, _, by omega, fun z => by omega, Or.inr ⟨h1, A, hv, o, ho, p, hp, 115, Or.inr (Or.inr rfl), o1, p1, decide_eq_true (Or.inr k1), rfl, rfl⟩, ?_⟩
            rw [stb_s, ← cmb_add]
            exact cmb_mono (w := 10) pA pB (by omega) (by decide) (GV_add (mA o ho (by omega))) (GV_add (mB p hp (by omega))) o2 p2
      have le8 : ∀ o, o < 9 → C s 8 ≤ M s o := fun o ho => isMin_le (hMs o ho) (hCs 8 (by decide)) (fun x => fC 8 x (by decide)) (fun x hx => (toC o x ho hx).1)
      refine ⟨fun l hl => ?_, ?_, le8⟩
      · have g1 := isMin_le (hMs (l + 1) (by omega)) (hCs l (by omega)) (fun x => fC l x (by omega)) (fun x hx => (toC (l + 1) x (by omega) hx).2 l hl rfl)
        have g2 := isMin_le (hCs l (by omega)) (hMs (l + 1) (by omega)) (fun x => fM (l + 1) x) (fun x hx => by
          obtain ⟨t, y, t1, t2, t3, t4⟩ := toM l x (by omega) hx
          rw [t2 hl] at t3
          exact ⟨y, t3, t4⟩)
        omega
      · obtain ⟨t, y, t1, -, t3, t4⟩ := toM 8 _ (by decide) ((hCs 8 (by decide)).1.resolve_left rs.2)
        have g1 := (hMs t t1).2 y t3
        have g2 := le8 t t1
        exact ⟨t, t1, by omega⟩
end Offers
