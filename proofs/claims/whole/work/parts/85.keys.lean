/-! texts of plans and their keys -/
section Keys
def dig (c : Nat) : Nat := if c = 40 then 1 else if c < 60 then c - 46 else if c = 108 then 8 else if c = 112 then 9 else 10
def kst (a c : Nat) : Nat := if c = 41 then a else 16 * a + dig c
def keyF : Nat → List Nat → Nat
  | a, [] => a
  | a, c :: l => keyF (kst a c) l
def ndg : List Nat → Nat
  | [] => 0
  | c :: l => (if c = 41 then 0 else 1) + ndg l
theorem keyF_app : ∀ (l m : List Nat) (a : Nat), keyF a (l ++ m) = keyF (keyF a l) m
  | [], _, _ => rfl
  | c :: l, m, a => keyF_app l m (kst a c)
theorem ndg_app : ∀ (l m : List Nat), ndg (l ++ m) = ndg l + ndg m
  | [], m => by show ndg m = 0 + ndg m; omega
  | c :: l, m => by
    have := ndg_app l m
    show (if c = 41 then 0 else 1) + ndg (l ++ m) = (if c = 41 then 0 else 1) + ndg l + ndg m
    omega
theorem keyF_lin : ∀ (l : List Nat) (a : Nat), keyF a l = a * 16 ^ ndg l + keyF 0 l
  | [], a => by show a = a * 16 ^ 0 + 0; rw [Nat.pow_zero, Nat.mul_one, Nat.add_zero]
  | c :: l, a => by
    show keyF (kst a c) l = a * 16 ^ ((if c = 41 then 0 else 1) + ndg l) + keyF (kst 0 c) l
    rw [keyF_lin l (kst a c), keyF_lin l (kst 0 c)]
    unfold kst
    by_cases h : c = 41
    · rw [if_pos h, if_pos h, if_pos h, Nat.zero_add, Nat.zero_mul, Nat.zero_add]
    · have e : 16 * a * 16 ^ ndg l = a * (16 ^ 1 * 16 ^ ndg l) := by rw [Nat.pow_one, Nat.mul_comm 16 a, Nat.mul_assoc]
      rw [if_neg h, if_neg h, if_neg h, Nat.pow_add, Nat.mul_zero, Nat.zero_add, Nat.add_mul, e]
      omega
def sgn (c : Nat) : Prop := c = 40 ∨ c = 41 ∨ (48 ≤ c ∧ c < 54) ∨ c = 108 ∨ c = 112 ∨ c = 115
theorem dig_lt {c : Nat} (h : sgn c) (h1 : c ≠ 41) : dig c < 16 := by
  unfold sgn at h
  unfold dig
  rcases h with rfl | rfl | h | rfl | rfl | rfl
  · decide
  · exact absurd rfl h1
  · rw [if_neg (by omega), if_pos (by omega)]; omega
  · decide
  · decide
  · decide
theorem dig_val {c : Nat} (h : sgn c) (h1 : c ≠ 41) : (c = 40 ∧ dig c = 1) ∨ (48 ≤ c ∧ c < 54 ∧ dig c = c - 46) ∨ (c = 108 ∧ dig c = 8) ∨ (c = 112 ∧ dig c = 9) ∨ (c = 115 ∧ dig c = 10) := by
  unfold sgn at h
  unfold dig
  rcases h with rfl | rfl | h | rfl | rfl | rfl
  · exact Or.inl ⟨rfl, rfl⟩
  · exact absurd rfl h1
  · refine Or.inr (Or.inl ⟨h.1, h.2, ?_⟩)
    rw [if_neg (by omega), if_pos (by omega)]
  · exact Or.inr (Or.inr (Or.inl ⟨rfl, rfl⟩))
  · exact Or.inr (Or.inr (Or.inr (Or.inl ⟨rfl, rfl⟩)))
  · exact Or.inr (Or.inr (Or.inr (Or.inr ⟨rfl, rfl⟩)))
theorem dig_mono {x y : Nat} (hx : sgn x) (hy : sgn y) (x1 : x ≠ 41) (y1 : y ≠ 41) (h : x < y) : dig x < dig y := by
  have h1 := dig_val hx x1
  have h2 := dig_val hy y1
  omega
theorem keyF_lt : ∀ (l : List Nat), (∀ c, c ∈ l → sgn c) → keyF 0 l < 16 ^ ndg l
  | [], _ => by show 0 < 16 ^ 0; decide
  | c :: l, h => by
    have h1 := keyF_lt l (fun x hx => h x (List.mem_cons_of_mem _ hx))
    show keyF (kst 0 c) l < 16 ^ ((if c = 41 then 0 else 1) + ndg l)
    rw [keyF_lin]
    unfold kst
    by_cases hc : c = 41
    · rw [if_pos hc, if_pos hc, Nat.zero_add, Nat.zero_mul, Nat.zero_add]
      exact h1
    · have h2 := dig_lt (h c List.mem_cons_self) hc
      rw [if_neg hc, if_neg hc, Nat.mul_zero, Nat.zero_add, Nat.pow_add, Nat.pow_one]
      have h3 : (dig c + 1) * 16 ^ ndg l ≤ 16 * 16 ^ ndg l := Nat.mul_le_mul_right _ h2
      rw [Nat.add_mul, Nat.one_mul] at h3
      omega
theorem stepS_sg {T : Nat} (hT : T ≤ 6) {st : List Nat} {u dn c : Nat} {p : List Nat × Nat × Nat} (h : stepS T st u dn c = some p) : sgn c := by
  unfold stepS at h
  unfold sgn
  by_cases he : endd st dn = 0
  · rw [if_pos he] at h
    by_cases hx : c = 40
    · exact Or.inl hx
    · rw [if_neg hx] at h
      by_cases hc : 48 ≤ c ∧ c - 48 < T ∧ u.testBit (c - 48) = false
      · omega
      · rw [if_neg hc] at h; cases h
  · rw [if_neg he] at h
    cases st with
    | nil => cases h
    | cons a st =>
      have h : (if 2 ≤ a then (if c = 41 then some (endS st, u, if st.length = 0 then 1 else 0) else none) else (if c = 108 ∨ c = 112 ∨ c = 115 then some (2 :: st, u, dn) else none)) = some p := h
      by_cases h22 : 2 ≤ a
      · rw [if_pos h22] at h
        by_cases hx : c = 41
        · exact Or.inr (Or.inl hx)
        · rw [if_neg hx] at h; cases h
      · rw [if_neg h22] at h
        by_cases hx : c = 108 ∨ c = 112 ∨ c = 115
        · omega
        · rw [if_neg hx] at h; cases h
theorem stepS_41 {T : Nat} {st : List Nat} {u dn c : Nat} {p p' : List Nat × Nat × Nat} (h : stepS T st u dn 41 = some p) (h' : stepS T st u dn c = some p') : c = 41 := by
  unfold stepS at h h'
  by_cases he : endd st dn = 0
  · rw [if_pos he, if_neg (by decide), if_neg (fun z => by omega)] at h
    cases h
  · rw [if_neg he] at h h'
    cases st with
    | nil => cases h
    | cons a st =>
      have h : (if 2 ≤ a then (if 41 = 41 then some (endS st, u, if st.length = 0 then 1 else 0) else none) else (if 41 = 108 ∨ 41 = 112 ∨ 41 = 115 then some (2 :: st, u, dn) else none)) = some p := h
      have h' : (if 2 ≤ a then (if c = 41 then some (endS st, u, if st.length = 0 then 1 else 0) else none) else (if c = 108 ∨ c = 112 ∨ c = 115 then some (2 :: st, u, dn) else none)) = some p' := h'
      by_cases h22 : 2 ≤ a
      · rw [if_pos h22] at h'
        by_cases hx : c = 41
        · exact hx
        · rw [if_neg hx] at h'; cases h'
      · rw [if_neg h22, if_neg (by decide)] at h; cases h
theorem runL_c (T : Nat) (c : Nat) (l : List Nat) (p : List Nat × Nat × Nat) : runL T (c :: l) p = match stepS T p.1 p.2.1 p.2.2 c with
    | none => none
    | some p' => runL T l p' := rfl
theorem runL_step {T c : Nat} {l : List Nat} {p e : List Nat × Nat × Nat} (h : runL T (c :: l) p = some e) : ∃ p', stepS T p.1 p.2.1 p.2.2 c = some p' ∧ runL T l p' = some e := by
  rw [runL_c] at h
  cases hs : stepS T p.1 p.2.1 p.2.2 c with
  | none => rw [hs] at h; cases h
  | some p' => rw [hs] at h; exact ⟨p', rfl, h⟩
theorem runL_app (T : Nat) : ∀ (l m : List Nat) (p p' : List Nat × Nat × Nat), runL T l p = some p' → runL T (l ++ m) p = runL T m p'
  | [], m, p, p', h => by
    have h : p = p' := Option.some.inj h
    subst h
    rfl
  | c :: l, m, p, p', h => by
    obtain ⟨p1, h1, h2⟩ := runL_step h
    rw [List.cons_append, runL_c, h1]
    exact runL_app T l m p1 p' h2
theorem runL_sg {T : Nat} (hT : T ≤ 6) : ∀ (l : List Nat) (p e : List Nat × Nat × Nat), runL T l p = some e → ∀ c, c ∈ l → sgn c
  | [], _, _, _ => fun c hc => by cases hc
  | x :: l, p, e, h => fun c hc => by
    obtain ⟨p1, h1, h2⟩ := runL_step h
    rcases List.mem_cons.mp hc with rfl | hc
    · exact stepS_sg hT h1
    · exact runL_sg hT l p1 e h2 c hc
/-- texts are ordered as their keys are -/
theorem key_order {T : Nat} (hT : T ≤ 6) : ∀ (k : Nat) (l m : List Nat) (p e1 e2 : List Nat × Nat × Nat) (a : Nat), runL T l p = some e1 → runL T m p = some e2 → ndg l = ndg m → k < l.length → k < m.length → (∀ j, j < k → mj l j = mj m j) → mj l k < mj m k → keyF a l < keyF a m := by
  intro k
  induction k with
  | zero =>
    intro l m p e1 e2 a r1 r2 hn hl hm _ hlt
    cases l with
    | nil => exact absurd hl (Nat.not_lt_zero _)
    | cons x l =>
      cases m with
      | nil => exact absurd hm (Nat.not_lt_zero _)
      | cons y m =>
        have hlt : x < y := hlt
        obtain ⟨p1, s1, t1⟩ := runL_step r1
        obtain ⟨p2, s2, t2⟩ := runL_step r2
        have hx : x ≠ 41 := fun e => by
          rw [e] at s1
          have := stepS_41 s1 s2
          omega
        have hy : y ≠ 41 := fun e => by
          rw [e] at s2
          have := stepS_41 s2 s1
          omega
        have hd := dig_mono (stepS_sg hT s1) (stepS_sg hT s2) hx hy hlt
        have hn : (if x = 41 then 0 else 1) + ndg l = (if y = 41 then 0 else 1) + ndg m := hn
        rw [if_neg hx, if_neg hy] at hn
        have hn2 : ndg l = ndg m := by omega
        have b1 := keyF_lt l (runL_sg hT l p1 e1 t1)
        show keyF (kst a x) l < keyF (kst a y) m
        rw [keyF_lin l, keyF_lin m, hn2]
        rw [hn2] at b1
        unfold kst
        rw [if_neg hx, if_neg hy]
        have h3 : (16 * a + dig x + 1) * 16 ^ ndg m ≤ (16 * a + dig y) * 16 ^ ndg m := Nat.mul_le_mul_right _ (by omega)
        rw [Nat.add_mul (16 * a + dig x), Nat.one_mul] at h3
        omega
  | succ k ih =>
    intro l m p e1 e2 a r1 r2 hn hl hm heq hlt
    cases l with
    | nil => exact absurd hl (Nat.not_lt_zero _)
    | cons x l =>
      cases m with
      | nil => exact absurd hm (Nat.not_lt_zero _)
      | cons y m =>
        have hxy : x = y := heq 0 (by omega)
        subst hxy
        obtain ⟨p1, s1, t1⟩ := runL_step r1
        obtain ⟨p2, s2, t2⟩ := runL_step r2
        rw [s1] at s2
        have := Option.some.inj s2
        subst this
        have hn : (if x = 41 then 0 else 1) + ndg l = (if x = 41 then 0 else 1) + ndg m := hn
        exact ih l m p1 e1 e2 (kst a x) t1 t2 (by omega) (Nat.lt_of_succ_lt_succ hl) (Nat.lt_of_succ_lt_succ hm) (fun j hj => heq (j + 1) (by omega)) hlt
theorem list_mj : ∀ (l m : List Nat), l.length = m.length → (∀ j, j < l.length → mj l j = mj m j) → l = m
  | [], [], _, _ => rfl
  | [], y :: m, h, _ => by cases h
  | x :: l, [], h, _ => by cases h
  | x :: l, y :: m, h, he => by
    have h0 : x = y := he 0 (Nat.zero_lt_succ _)
    have h1 := list_mj l m (Nat.succ.inj h) (fun j hj => he (j + 1) (Nat.succ_lt_succ hj))
    rw [h0, h1]
/-- l is the text of a plan of the set s -/
def isPl (T s : Nat) (l : List Nat) : Prop := l.length = 4 * pc s - 3 ∧ ndg l = 3 * pc s - 2 ∧ ∀ (st : List Nat) (u : Nat), u < 64 → endd st 0 = 0 → u &&& s = 0 → pc u + low st + pc s ≤ T → runL T l (st, u, 0) = some (endS st, u ||| s, if st.length = 0 then 1 else 0)
theorem pc_T {T s : Nat} (hT : T ≤ 6) (h : s < 2 ^ T) : pc s ≤ T := by
  have key : ∀ T : Fin 7, ∀ s : Fin 64, s.1 < 2 ^ T.1 → pc s.1 ≤ T.1 := by decide +kernel
  exact key ⟨T, by omega⟩ ⟨s, Nat.lt_of_lt_of_le h (Nat.pow_le_pow_right (n := 2) (by decide) hT)⟩ h
theorem isPl.run {T s : Nat} {l : List Nat} (hT : T ≤ 6) (hs : s < 2 ^ T) (h : isPl T s l) : runL T l ([], 0, 0) = some ([], s, 1) := by
  have h1 := h.2.2 [] 0 (by decide) rfl (Nat.zero_and _) (by
    have := pc_T hT hs
    show pc 0 + 0 + pc s ≤ T
    rw [show pc 0 = 0 by decide]
    omega)
  rw [Nat.zero_or] at h1
  exact h1
theorem pc_dis {a b : Nat} (ha : a < 64) (hb : b < 64) (h : a &&& b = 0) : pc (a ||| b) = pc a + pc b := by
  have key : ∀ a b : Fin 64, a.1 &&& b.1 = 0 → pc (a.1 ||| b.1) = pc a.1 + pc b.1 := by decide +kernel
  exact key ⟨a, ha⟩ ⟨b, hb⟩ h
theorem isPl_table {T t : Nat} (hT : T ≤ 6) (ht : t < T) : isPl T (2 ^ t) [t + 48] := by
  have hp : pc (2 ^ t) = 1 := pc_pow (by omega)
  refine ⟨by rw [hp]; rfl, ?_, fun st u hu he hd hr => ?_⟩
  · rw [hp]
    show (if t + 48 = 41 then 0 else 1) + 0 = 1
    rw [if_neg (by omega)]
  · have hb : u.testBit t = false := by
      have := congrArg (fun x => x.testBit t) hd
      rw [Nat.testBit_and, Nat.testBit_two_pow_self, Bool.and_true, Nat.zero_testBit] at this
      exact this
    rw [runL_c]
    have : stepS T st u 0 (t + 48) = some (endS st, u ||| 2 ^ t, if st.length = 0 then 1 else 0) := by
      unfold stepS
      rw [if_pos he, if_neg (by omega), Nat.add_sub_cancel, if_pos ⟨by omega, ht, hb⟩]
    rw [this]
    rfl
theorem isPl_step {T A B w : Nat} {la lb : List Nat} (hT : T ≤ 6) (hA : A < 64) (hB : B < 64) (hA1 : 1 ≤ pc A) (hB1 : 1 ≤ pc B) (hd : A &&& B = 0) (hw : w = 108 ∨ w = 112 ∨ w = 115) (ha : isPl T A la) (hb : isPl T B lb) : isPl T (A ||| B) (40 :: (la ++ w :: (lb ++ [41]))) := by
  have hp := pc_dis hA hB hd
  refine ⟨?_, ?_, fun st u hu he hz hr => ?_⟩
  · rw [List.length_cons, List.length_append, List.length_cons, List.length_append, ha.1, hb.1, hp]
    show 4 * pc A - 3 + (4 * pc B - 3 + 1 + 1) + 1 = _
    omega
  · have hw41 : w ≠ 41 := by omega
    show (if 40 = 41 then 0 else 1) + ndg (la ++ w :: (lb ++ [41])) = _
    rw [ndg_app]
    show (if 40 = 41 then 0 else 1) + (ndg la + ((if w = 41 then 0 else 1) + ndg (lb ++ [41]))) = _
    rw [ndg_app, if_neg (show ¬ 40 = 41 by decide), if_neg hw41, ha.2.1, hb.2.1, hp]
    show 1 + (3 * pc A - 2 + (1 + (3 * pc B - 2 + 0))) = _
    omega
  · have hzA : u &&& A = 0 := by
      apply Nat.eq_of_testBit_eq
      intro i
      have := congrArg (fun x => x.testBit i) hz
      simp only [Nat.testBit_and, Nat.testBit_or, Nat.zero_testBit] at this ⊢
      revert this
      cases u.testBit i <;> cases A.testBit i <;> cases B.testBit i <;> decide
    have hzB : (u ||| A) &&& B = 0 := by
      apply Nat.eq_of_testBit_eq
      intro i
      have h1 := congrArg (fun x => x.testBit i) hz
      have h2 := congrArg (fun x => x.testBit i) hd
      simp only [Nat.testBit_and, Nat.testBit_or, Nat.zero_testBit] at h1 h2 ⊢
      revert h1 h2
      cases u.testBit i <;> cases A.testBit i <;> cases B.testBit i <;> decide
    have hpu := pc_dis hu hA hzA
    rw [hp] at hr
    have s1 : stepS T st u 0 40 = some (0 :: st, u, 0) := by
      unfold stepS dueS
      rw [if_pos he, if_pos rfl, he, if_pos (by omega)]
    have r1 := ha.2.2 (0 :: st) u hu rfl hzA (by
      show pc u + (low st + 1) + pc A ≤ T
      omega)
    have s2 : stepS T (1 :: st) (u ||| A) 0 w = some (2 :: st, u ||| A, 0) := by
      unfold stepS
      rw [if_neg (show ¬ endd (1 :: st) 0 = 0 from by show ¬ 1 % 2 = 0; decide)]
      show (if 2 ≤ 1 then (if w = 41 then some (endS st, u ||| A, if st.length = 0 then 1 else 0) else none) else (if w = 108 ∨ w = 112 ∨ w = 115 then some (2 :: st, u ||| A, 0) else none)) = _
      rw [if_neg (by decide), if_pos hw]
    have r2 := hb.2.2 (2 :: st) (u ||| A) (Nat.or_lt_two_pow (n := 6) hu hA) rfl hzB (by
      show pc (u ||| A) + (low st + 0) + pc B ≤ T
      omega)
    have s3 : stepS T (3 :: st) (u ||| A ||| B) 0 41 = some (endS st, u ||| A ||| B, if st.length = 0 then 1 else 0) := by
      unfold stepS
      rw [if_neg (show ¬ endd (3 :: st) 0 = 0 from by show ¬ 3 % 2 = 0; decide)]
      rfl
    rw [runL_c, s1]
    show runL T (la ++ w :: (lb ++ [41])) (0 :: st, u, 0) = _
    rw [runL_app T la _ _ _ r1, runL_c]
    show (match stepS T (1 :: st) (u ||| A) 0 w with
      | none => none
      | some p' => runL T (lb ++ [41]) p') = _
    rw [s2]
    show runL T (lb ++ [41]) (2 :: st, u ||| A, 0) = _
    rw [runL_app T lb _ _ _ r2, runL_c]
    show (match stepS T (3 :: st) (u ||| A ||| B) 0 41 with
      | none => none
      | some p' => runL T [] p') = _
    rw [s3, ← Nat.or_assoc]
    rfl
theorem key_step {la lb : List Nat} {w : Nat} (hw : w ≠ 41) : keyF 0 (40 :: (la ++ w :: (lb ++ [41]))) = ((16 ^ ndg la + keyF 0 la) * 16 + dig w) * 16 ^ ndg lb + keyF 0 lb := by
  show keyF 1 (la ++ w :: (lb ++ [41])) = _
  rw [keyF_app, keyF_lin la 1, Nat.one_mul]
  show keyF (kst (16 ^ ndg la + keyF 0 la) w) (lb ++ [41]) = _
  rw [keyF_app]
  show keyF (kst (16 ^ ndg la + keyF 0 la) w) lb = _
  rw [keyF_lin lb]
  unfold kst
  rw [if_neg hw, Nat.mul_comm 16]
theorem isPl.key_lt {T s : Nat} {l : List Nat} (hT : T ≤ 6) (hs : s < 2 ^ T) (h : isPl T s l) : keyF 0 l < 16 ^ (3 * pc s - 2) := by
  have := keyF_lt l (runL_sg hT l _ _ (h.run hT hs))
  rw [h.2.1] at this
  exact this
/-- two texts of one set: the first sign in which they differ decides -/
theorem isPl.cmp {T s k : Nat} {l m : List Nat} (hT : T ≤ 6) (hs : s < 2 ^ T) (hl : isPl T s l) (hm : isPl T s m) (hk : k < l.length) (he : ∀ j, j < k → mj l j = mj m j) (hlt : mj l k < mj m k) : keyF 0 l < keyF 0 m := key_order hT k l m _ _ _ 0 (hl.run hT hs) (hm.run hT hs) (hl.2.1.trans hm.2.1.symm) hk (by rw [hm.1, ← hl.1]; exact hk) he hlt
theorem isPl.inj {T s : Nat} {l m : List Nat} (hT : T ≤ 6) (hs : s < 2 ^ T) (hl : isPl T s l) (hm : isPl T s m) (h : keyF 0 l = keyF 0 m) : l = m := by
  apply list_mj l m (hl.1.trans hm.1.symm)
  intro j
  induction j using Nat.strongRecOn with
  | _ j ih =>
    intro hj
    rcases Nat.lt_trichotomy (mj l j) (mj m j) with z | z | z
    · have := hl.cmp hT hs hm hj (fun i hi => ih i hi (by omega)) z
      omega
    · exact z
    · have := hm.cmp hT hs hl (by rw [hm.1, ← hl.1]; exact hj) (fun i hi => (ih i hi (by omega)).symm) z
      omega
end Keys
