/-! a text that is read whole: what is held at each sign -/
section Work
variable {N : Nat} {d : DB} {q : SS}
theorem ga (q : SS) (k i : Nat) (v : Int32) : ar (sa q k i v) k i = v := by rw [ar_sa, if_pos rfl, if_pos rfl]
theorem gk (q : SS) (k i : Nat) (v : Int32) {j : Nat} (h : j ≠ k) : ar (sa q k i v) j = ar q j := by funext m; rw [ar_sa, if_neg h]
theorem gi (q : SS) (k i : Nat) (v : Int32) {m : Nat} (h : m ≠ i) : ar (sa q k i v) k m = ar q k m := by rw [ar_sa, if_pos rfl, if_neg h]
theorem gf (q : SS) (k : Nat) (v : Int32) : fi (sf q k v) k = v := by rw [fi_sf, if_pos rfl]
theorem gg (q : SS) (k : Nat) (v : Int32) {j : Nat} (h : j ≠ k) : fi (sf q k v) j = fi q j := by rw [fi_sf, if_neg h]
/-- reading a list of codes -/
def runL (T : Nat) : List Nat → List Nat × Nat × Nat → Option (List Nat × Nat × Nat)
  | [], p => some p
  | c :: l, p => match stepS T p.1 p.2.1 p.2.2 c with
    | none => none
    | some p' => runL T l p'
def hlS : List Nat → Nat
  | [] => 0
  | a :: st => hlS st + (if a = 0 then 0 else if a = 3 then 2 else 1)
def wtS : List Nat → Nat
  | [] => 0
  | a :: st => wtS st + (if 2 ≤ a then 1 else 0)
theorem wtS_le : ∀ st : List Nat, wtS st ≤ st.length
  | [] => Nat.le_refl _
  | a :: st => by
    have := wtS_le st
    show wtS st + (if 2 ≤ a then 1 else 0) ≤ st.length + 1
    split <;> omega
theorem PO_len {T : Nat} {st : List Nat} {u dn : Nat} (hT : T ≤ 6) (h : PO T st u dn) : st.length ≤ 6 := by
  obtain ⟨h1, h2, h3, h4, h5, h6⟩ := h
  omega
theorem hl_endS {st : List Nat} {dn : Nat} (hdn : dn = 0) (hev : ∀ j, j < st.length → mj st j ≤ 3 ∧ mj st j % 2 = 0) : hlS (endS st) + (if st.length = 0 then 1 else dn) = hlS st + dn + 1 ∧ wtS (endS st) = wtS st := by
  cases st with
  | nil => subst hdn; exact ⟨rfl, rfl⟩
  | cons a st =>
    have h0 := hev 0 (Nat.zero_lt_succ _)
    have h1 : a ≤ 3 := h0.1
    have h2 : a % 2 = 0 := h0.2
    rw [if_neg (by rw [List.length_cons]; omega)]
    have e1 : hlS (endS (a :: st)) = hlS st + (if a + 1 = 0 then 0 else if a + 1 = 3 then 2 else 1) := rfl
    have e2 : hlS (a :: st) = hlS st + (if a = 0 then 0 else if a = 3 then 2 else 1) := rfl
    have e3 : wtS (endS (a :: st)) = wtS st + (if 2 ≤ a + 1 then 1 else 0) := rfl
    have e4 : wtS (a :: st) = wtS st + (if 2 ≤ a then 1 else 0) := rfl
    rw [e1, e2, e3, e4]
    rcases (show a = 0 ∨ a = 2 by omega) with rfl | rfl
    · exact ⟨by rw [if_neg (by decide), if_neg (by decide), if_pos rfl]; omega, rfl⟩
    · exact ⟨by rw [if_neg (by decide), if_pos rfl, if_neg (by decide), if_neg (by decide)]; omega, rfl⟩
/-- what a sign does to what is held -/
theorem stepS_held {T : Nat} {st st' : List Nat} {u u' dn dn' x : Nat} (hT : T ≤ 6) (h : PO T st u dn) (hs : stepS T st u dn x = some (st', u', dn')) :
    (x = 40 ∧ u' = u ∧ hlS st' + dn' = hlS st + dn ∧ wtS st' = wtS st) ∨
    (∃ t, t < T ∧ x = t + 48 ∧ u.testBit t = false ∧ u' = u ||| 2 ^ t ∧ hlS st' + dn' = hlS st + dn + 1 ∧ wtS st' = wtS st) ∨
    ((x = 108 ∨ x = 112 ∨ x = 115) ∧ u' = u ∧ hlS st' + dn' = hlS st + dn ∧ wtS st' = wtS st + 1) ∨
    (x = 41 ∧ u' = u ∧ hlS st' + dn' + 1 = hlS st + dn ∧ 1 ≤ hlS st' + dn' ∧ wtS st' + 1 = wtS st) := by
  obtain ⟨h1, h2, h3, h4, h5, h6⟩ := h
  unfold stepS at hs
  by_cases he : endd st dn = 0
  · have hdn : dn = 0 := by
      cases st with
      | nil => exact he
      | cons a st => exact h2 (fun z => by cases z)
    have hev : ∀ j, j < st.length → mj st j ≤ 3 ∧ mj st j % 2 = 0 := fun j hj => by
      refine ⟨(h3 j hj).1, ?_⟩
      cases j with
      | zero => cases st with
        | nil => exact absurd hj (Nat.not_lt_zero _)
        | cons a st => exact he
      | succ j => exact (h3 (j + 1) hj).2 (by omega)
    rw [if_pos he] at hs
    by_cases hx : x = 40
    · rw [if_pos hx] at hs
      by_cases hc : pc u + dueS st dn + 1 ≤ T
      · rw [if_pos hc] at hs
        have hs := Option.some.inj hs
        have e1 : 0 :: st = st' := congrArg Prod.fst hs
        have e2 : u = u' := congrArg (fun p => p.2.1) hs
        have e3 : dn = dn' := congrArg (fun p => p.2.2) hs
        subst e1 e2 e3
        exact Or.inl ⟨hx, rfl, rfl, rfl⟩
      · rw [if_neg hc] at hs; cases hs
    · rw [if_neg hx] at hs
      by_cases hc : 48 ≤ x ∧ x - 48 < T ∧ u.testBit (x - 48) = false
      · rw [if_pos hc] at hs
        have hs := Option.some.inj hs
        have e1 : endS st = st' := congrArg Prod.fst hs
        have e2 : u ||| 2 ^ (x - 48) = u' := congrArg (fun p => p.2.1) hs
        have e3 : (if st.length = 0 then 1 else dn) = dn' := congrArg (fun p => p.2.2) hs
        subst e1 e2 e3
        obtain ⟨g1, g2⟩ := hl_endS hdn hev
        exact Or.inr (Or.inl ⟨x - 48, hc.2.1, by omega, hc.2.2, rfl, g1, g2⟩)
      · rw [if_neg hc] at hs; cases hs
  · rw [if_neg he] at hs
    cases st with
    | nil => cases hs
    | cons a st =>
      have ha3 : a ≤ 3 := (h3 0 (Nat.zero_lt_succ _)).1
      have ha1 : a % 2 = 1 := by
        have : ¬ a % 2 = 0 := he
        omega
      have hdn : dn = 0 := h2 (fun z => by cases z)
      have hev : ∀ j, j < st.length → mj st j ≤ 3 ∧ mj st j % 2 = 0 := fun j hj => ⟨(h3 (j + 1) (Nat.succ_lt_succ hj)).1, (h3 (j + 1) (Nat.succ_lt_succ hj)).2 (by omega)⟩
      have hs : (if 2 ≤ a then (if x = 41 then some (endS st, u, if st.length = 0 then 1 else 0) else none) else (if x = 108 ∨ x = 112 ∨ x = 115 then some (2 :: st, u, dn) else none)) = some (st', u', dn') := hs
      by_cases h22 : 2 ≤ a
      · rw [if_pos h22] at hs
        by_cases hx : x = 41
        · rw [if_pos hx] at hs
          have hs := Option.some.inj hs
          have e1 : endS st = st' := congrArg Prod.fst hs
          have e2 : u = u' := congrArg (fun p => p.2.1) hs
          have e3 : (if st.length = 0 then 1 else 0) = dn' := congrArg (fun p => p.2.2) hs
          subst e1 e2 e3
          obtain ⟨g1, g2⟩ := hl_endS (dn := 0) rfl hev
          have ha : a = 3 := by omega
          subst ha
          have e4 : hlS (3 :: st) = hlS st + 2 := rfl
          have e5 : wtS (3 :: st) = wtS st + 1 := rfl
          refine Or.inr (Or.inr (Or.inr ⟨hx, rfl, ?_, ?_, ?_⟩))
          · rw [g1, e4, hdn]
          · rw [g1]; omega
          · rw [g2, e5]
        · rw [if_neg hx] at hs; cases hs
      · rw [if_neg h22] at hs
        by_cases hx : x = 108 ∨ x = 112 ∨ x = 115
        · rw [if_pos hx] at hs
          have hs := Option.some.inj hs
          have e1 : 2 :: st = st' := congrArg Prod.fst hs
          have e2 : u = u' := congrArg (fun p => p.2.1) hs
          have e3 : dn = dn' := congrArg (fun p => p.2.2) hs
          subst e1 e2 e3
          have ha : a = 1 := by omega
          subst ha
          exact Or.inr (Or.inr (Or.inl ⟨hx, rfl, rfl, rfl⟩))
        · rw [if_neg hx] at hs; cases hs
/-- the judge's own cells -/
def frW (q q' : SS) : Prop := (∀ j, j < 10 ∨ 14 ≤ j → fi q' j = fi q j) ∧ (∀ k, k < 12 ∨ k = 16 ∨ 22 ≤ k → ar q' k = ar q k) ∧ lo q' = lo q
theorem frW.rf {q : SS} : frW q q := ⟨fun _ _ => rfl, fun _ _ => rfl, rfl⟩
theorem frW.tr {a b c : SS} (h : frW a b) (g : frW b c) : frW a c := ⟨fun k hk => (g.1 k hk).trans (h.1 k hk), fun k hk => (g.2.1 k hk).trans (h.2.1 k hk), g.2.2.trans h.2.2⟩
theorem frW.same {a b : SS} (h : frW a b) : sameC a b := ⟨fun k hk => h.1 k (by omega), fun k hk => h.2.1 k (by omega)⟩
theorem frW.sf {a b : SS} (h : frW a b) {k : Nat} (hk : 10 ≤ k ∧ k < 14) (v : Int32) : frW a (sf b k v) := ⟨fun j hj => by rw [gg _ _ _ (by omega)]; exact h.1 j hj, fun k hk => h.2.1 k hk, h.2.2⟩
theorem frW.sa {a b : SS} (h : frW a b) {k : Nat} (hk : 17 ≤ k ∧ k < 22) (i : Nat) (v : Int32) : frW a (sa b k i v) := ⟨fun j hj => h.1 j hj, fun j hj => by rw [gk _ _ _ _ (by omega)]; exact h.2.1 j hj, h.2.2⟩
theorem frS.W {a b : SS} (h : frS a b) : frW a b := ⟨fun k _ => h.1 k, fun k hk => h.2.1 k (by omega) (by omega) (by omega) (by omega), h.2.2⟩
/-- the reference's own cells -/
def frV (q q' : SS) : Prop := (∀ j, j ≠ 10 → j ≠ 11 → fi q' j = fi q j) ∧ (∀ k, k < 14 ∨ 18 ≤ k → ar q' k = ar q k)
theorem frV.rf {q : SS} : frV q q := ⟨fun _ _ _ => rfl, fun _ _ => rfl⟩
theorem frV.tr {a b c : SS} (h : frV a b) (g : frV b c) : frV a c := ⟨fun k h1 h2 => (g.1 k h1 h2).trans (h.1 k h1 h2), fun k hk => (g.2 k hk).trans (h.2 k hk)⟩
theorem frV.same {a b : SS} (h : frV a b) : sameM a b := ⟨fun k hk => h.1 k (by omega) (by omega), fun k hk => h.2 k (by omega)⟩
theorem frV.sf {a b : SS} (h : frV a b) {k : Nat} (hk : k = 10 ∨ k = 11) (v : Int32) : frV a (sf b k v) := ⟨fun j h1 h2 => by rw [gg _ _ _ (by omega)]; exact h.1 j h1 h2, fun k hk => h.2 k hk⟩
theorem frV.sa {a b : SS} (h : frV a b) {k : Nat} (hk : 14 ≤ k ∧ k < 18) (i : Nat) (v : Int32) : frV a (sa b k i v) := ⟨fun j h1 h2 => h.1 j h1 h2, fun j hj => by rw [gk _ _ _ _ (by omega)]; exact h.2 j hj⟩
/-- what is held: sets S, orders O, costs K, ways W -/
def OJ (d : DB) (u h w : Nat) (S O W : Nat → Nat) : Prop := (∀ i, i < h → 1 ≤ S i ∧ S i < 2 ^ dT d ∧ O i ≤ 8) ∧ (∀ i, i < w → W i = 108 ∨ W i = 112 ∨ W i = 115) ∧ bsum (fun i => pc (S i)) h ≤ pc u
def CJ0 (d : DB) (b h w : Nat) (S O W : Nat → Nat) (K : Nat → Int32) (ok : Bool) (j : Nat) (q : SS) : Prop := fi q 10 = nI h ∧ fi q 11 = nI w ∧ fi q 12 = nI j ∧ fi q 13 = nI ok.toNat ∧ (∀ i, i < h → ar q 17 i = nI (S i) ∧ (i + 1 < h → ar q 20 i = nI (pgs d (S i) b)) ∧ (ok = true → ar q 18 i = K i ∧ ar q 19 i = nI (O i) - 1)) ∧ ∀ i, i < w → ar q 21 i = nI (W i)
def CJ (d : DB) (b h w : Nat) (S O W : Nat → Nat) (K : Nat → Int32) (ok : Bool) (j : Nat) (q : SS) : Prop := CJ0 d b h w S O W K ok j q ∧ ∀ i, i < h → ar q 20 i = nI (pgs d (S i) b)
def MJ (h w : Nat) (S O W : Nat → Nat) (K : Nat → Int32) (ok : Bool) (j : Nat) (q : SS) : Prop := fi q 10 = nI ok.toNat ∧ fi q 11 = nI j ∧ (∀ i, i < h → ar q 14 i = nI (S i) ∧ ar q 16 i = nI (O i) ∧ (ok = true → ar q 15 i = K i)) ∧ ∀ i, i < w → ar q 17 i = nI (W i)
def LPg (d : DB) (b : Nat) (q : SS) : Prop := ∀ s, 1 ≤ s → s < 2 ^ dT d → ar q 13 s = nI (pgs d s b)
def uK (K : Nat → Int32) (n : Nat) (v : Int32) : Nat → Int32 := fun i => if i = n then v else K i
theorem pgs_pow (hw : WF d) {t b c : Nat} (ht : t < dT d) : pgs d (2 ^ t) b = pgs d (2 ^ t) c := by
  have hT := hw.1
  unfold pgs
  rw [if_pos (pc_pow (by omega)), if_pos (pc_pow (by omega))]
theorem pc_pos {s : Nat} (h1 : 1 ≤ s) (h : s < 64) : 1 ≤ pc s := by
  have := (pc6 h).2
  omega
theorem OJ_h (hw : WF d) {u n w : Nat} {S O W : Nat → Nat} (hu : u < 2 ^ dT d) (h : OJ d u n w S O W) : n ≤ pc u ∧ n ≤ 6 := by
  have h1 : ∀ m, m ≤ n → m ≤ bsum (fun i => pc (S i)) m := by
    intro m
    induction m with
    | zero => intro _; exact Nat.zero_le _
    | succ m ih =>
      intro hn
      have h2 := ih (by omega)
      have h3 := h.1 m (by omega)
      have h4 := pc_pos h3.1 (s_lt hw h3.2.1)
      show m + 1 ≤ bsum (fun i => pc (S i)) m + pc (S m)
      omega
  have h2 := h1 n (Nat.le_refl _)
  have h3 := (pc6 (s_lt hw hu)).1
  have h4 := h.2.2
  omega
theorem pow_le18 {a b : Nat} (h : a + b ≤ 6) : 8 ^ a * 8 ^ b ≤ 262144 := by
  rw [← Nat.pow_add]
  exact Nat.le_trans (Nat.pow_le_pow_right (by decide) h) (by decide)
/-- a step's cost is small -/
theorem stc_lt (hw : WF d) {w A B oA oB b : Nat} (hA : A < 2 ^ dT d) (hB : B < 2 ^ dT d) (hp : pc A + pc B ≤ 6) : stc d w (pgs d A b) (pgs d B b) A B oA oB ≤ 22020096 := by
  have hm := hw.2.2.2.2.2.2.1
  have h1 := pgs_le (b := b) hw hA
  have h2 := pgs_le (b := b) hw hB
  have h3 := pgs_20 (b := b) hw hA
  have h4 := pgs_20 (b := b) hw hB
  have h5 := pow_le18 hp
  have s1 := srt_le (m := dM d) h3
  have s2 := srt_le (m := dM d) h4
  unfold stc
  split
  · split
    · omega
    · have h6 : upn (pgs d A b) (dM d - 2) ≤ pgs d A b := upn_le (by omega)
      have h7 : pgs d B b * (upn (pgs d A b) (dM d - 2) - 1) ≤ 8 ^ pc B * 8 ^ pc A := Nat.mul_le_mul h2 (by omega)
      rw [Nat.mul_comm (8 ^ pc B)] at h7
      omega
  · split
    · split <;> omega
    · split <;> split <;> omega
theorem nI_m1 {n : Nat} (h : n < 2 ^ 31) : ¬ nI n = -1 := fun e => by
  have := congrArg Int32.toInt e
  rw [nI_toInt h] at this
  have h5 : (-1 : Int32).toInt = -1 := by decide
  rw [h5] at this
  omega
theorem pc_or_le {a b : Nat} (ha : a < 64) (hb : b < 64) : pc (a ||| b) ≤ pc a + pc b := by
  have key : ∀ a b : Fin 64, pc (a.1 ||| b.1) ≤ pc a.1 + pc b.1 := by decide +kernel
  exact key ⟨a, ha⟩ ⟨b, hb⟩
theorem OJ_two (hw : WF d) {u n w : Nat} {S O W : Nat → Nat} (hu : u < 2 ^ dT d) (h : OJ d u (n + 2) w S O W) : pc (S n) + pc (S (n + 1)) ≤ 6 := by
  have h1 : bsum (fun i => pc (S i)) n + pc (S n) + pc (S (n + 1)) ≤ pc u := h.2.2
  have h3 := (pc6 (s_lt hw hu)).1
  omega
theorem uE_bsum {S : Nat → Nat} {n v : Nat} : bsum (fun i => pc (uE S n v i)) n = bsum (fun i => pc (S i)) n := bsum_congr (fun i hi => by rw [uE_ne (by omega)])
theorem OJ_join (hw : WF d) {u n m o x : Nat} {S O W : Nat → Nat} (ho : o ≤ 8) (h : OJ d u (n + 2) (m + 1) S O W) (hx : x = S n ||| S (n + 1)) : OJ d u (n + 1) m (uE S n x) (uE O n o) W := by
  subst hx
  obtain ⟨h1, h2, h3⟩ := h
  have hA := h1 n (by omega)
  have hB := h1 (n + 1) (by omega)
  refine ⟨fun i hi => ?_, fun i hi => h2 i (by omega), ?_⟩
  · by_cases hin : i = n
    · subst hin
      rw [uE_self, uE_self]
      refine ⟨Nat.le_trans hA.1 Nat.left_le_or, Nat.or_lt_two_pow hA.2.1 hB.2.1, ho⟩
    · rw [uE_ne hin, uE_ne hin]
      exact h1 i (by omega)
  · have h4 : bsum (fun i => pc (S i)) n + pc (S n) + pc (S (n + 1)) ≤ pc u := h3
    have h5 := pc_or_le (s_lt hw hA.2.1) (s_lt hw hB.2.1)
    show bsum (fun i => pc (uE S n (S n ||| S (n + 1)) i)) n + pc (uE S n (S n ||| S (n + 1)) n) ≤ pc u
    rw [uE_bsum, uE_self]
    omega
theorem OJ_push (hw : WF d) {u h w t : Nat} {S O W : Nat → Nat} (hu : u < 2 ^ dT d) (ht : t < dT d) (hb : u.testBit t = false) (g : OJ d u h w S O W) : OJ d (u ||| 2 ^ t) (h + 1) w (uE S h (2 ^ t)) (uE O h (sb d t)) W := by
  have hT := hw.1
  obtain ⟨h1, h2, h3⟩ := g
  refine ⟨fun i hi => ?_, h2, ?_⟩
  · by_cases hin : i = h
    · subst hin
      rw [uE_self, uE_self]
      exact ⟨Nat.one_le_two_pow, Nat.pow_lt_pow_right (by decide) ht, sb_le d t⟩
    · rw [uE_ne hin, uE_ne hin]
      exact h1 i (by omega)
  · show bsum (fun i => pc (uE S h (2 ^ t) i)) h + pc (uE S h (2 ^ t) h) ≤ _
    rw [uE_bsum, uE_self, pc_pow (by omega), (pc_add hT hu ht hb).1]
    omega
theorem OJ_way {u h w x : Nat} {S O W : Nat → Nat} (hx : x = 108 ∨ x = 112 ∨ x = 115) (g : OJ d u h w S O W) : OJ d u h (w + 1) S O (uE W w x) := by
  refine ⟨g.1, fun i hi => ?_, g.2.2⟩
  by_cases hin : i = w
  · subst hin; rw [uE_self]; exact hx
  · rw [uE_ne hin]; exact g.2.1 i (by omega)
theorem CJ0_O {b h w j : Nat} {S O O' W : Nat → Nat} {K : Nat → Int32} {ok : Bool} (g : CJ0 d b h w S O W K ok j q) (e : ok = true → O' = O) : CJ0 d b h w S O' W K ok j q := by
  obtain ⟨h10, h11, h12, h13, hI, h21⟩ := g
  exact ⟨h10, h11, h12, h13, fun i hi => ⟨(hI i hi).1, (hI i hi).2.1, fun hok => by rw [e hok]; exact (hI i hi).2.2 hok⟩, h21⟩
theorem nI_dec (x : Nat) : nI (x + 1) + -1 = nI x := by rw [← Int32.sub_eq_add_neg]; exact nI_p x
end Work
