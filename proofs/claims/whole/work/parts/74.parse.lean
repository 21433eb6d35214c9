/-! reading a page sign by sign: both readers keep one stack -/
section Parse
variable {N : Nat} {d : DB} {q : SS}
/-- how many open pairs still wait for their way or their right side's begin -/
def low : List Nat → Nat
  | [] => 0
  | a :: st => low st + (if a < 2 then 1 else 0)
def sdn : List Nat → Nat
  | [] => 0
  | a :: st => 2 * sdn st + (if 2 ≤ a then 1 else 0)
/-- a plan has just ended -/
def endd (st : List Nat) (dn : Nat) : Nat := match st with
  | [] => dn
  | a :: _ => a % 2
def dueS (st : List Nat) (dn : Nat) : Nat := low st + (1 - endd st dn)
/-- a plan ends at the top of the stack -/
def endS : List Nat → List Nat
  | [] => []
  | a :: st => (a + 1) :: st
def PC (st : List Nat) (u dn : Nat) (q : SS) : Prop := fi q 5 = nI u ∧ fi q 6 = nI (dueS st dn) ∧ fi q 7 = nI st.length ∧ fi q 8 = nI (sdn st) ∧ fi q 9 = nI (endd st dn)
def PM (st : List Nat) (u dn : Nat) (q : SS) : Prop := fi q 6 = nI st.length ∧ fi q 7 = nI u ∧ fi q 8 = nI (dueS st dn) ∧ fi q 9 = nI dn ∧ ∀ k, k < st.length → ar q 12 k = nI (mj st (st.length - 1 - k))
/-- the stack is sound -/
def PO (T : Nat) (st : List Nat) (u dn : Nat) : Prop := dn ≤ 1 ∧ (st ≠ [] → dn = 0) ∧ (∀ j, j < st.length → mj st j ≤ 3 ∧ (1 ≤ j → mj st j % 2 = 0)) ∧ u < 2 ^ T ∧ st.length ≤ pc u + dueS st dn ∧ pc u + dueS st dn ≤ T
theorem sdn_lt : ∀ st : List Nat, sdn st < 2 ^ st.length
  | [] => by decide
  | a :: st => by
    have := sdn_lt st
    show 2 * sdn st + (if 2 ≤ a then 1 else 0) < 2 ^ (st.length + 1)
    rw [Nat.pow_succ]
    split <;> omega
theorem low_le : ∀ st : List Nat, low st ≤ st.length
  | [] => Nat.le_refl _
  | a :: st => by
    have := low_le st
    show low st + (if a < 2 then 1 else 0) ≤ st.length + 1
    split <;> omega
theorem low_end (a : Nat) (st : List Nat) (h : a % 2 = 0) : low ((a + 1) :: st) = low (a :: st) := by
  show low st + (if a + 1 < 2 then 1 else 0) = low st + (if a < 2 then 1 else 0)
  by_cases h2 : a < 2
  · rw [if_pos h2, if_pos (by omega)]
  · rw [if_neg h2, if_neg (by omega)]
theorem low_endS {st : List Nat} (h : ∀ j, j < st.length → mj st j % 2 = 0) : low (endS st) = low st := by
  cases st with
  | nil => rfl
  | cons a st => exact low_end a st (h 0 (Nat.zero_lt_succ _))
theorem sdn_end (a : Nat) (st : List Nat) (h : a % 2 = 0) : sdn ((a + 1) :: st) = sdn (a :: st) := by
  show 2 * sdn st + (if 2 ≤ a + 1 then 1 else 0) = 2 * sdn st + (if 2 ≤ a then 1 else 0)
  by_cases h2 : 2 ≤ a
  · rw [if_pos h2, if_pos (by omega)]
  · rw [if_neg h2, if_neg (by omega)]
theorem pc_add {u t T : Nat} (hT : T ≤ 6) (hu : u < 2 ^ T) (ht : t < T) (hb : u.testBit t = false) : pc (u ||| 2 ^ t) = pc u + 1 ∧ u ||| 2 ^ t < 2 ^ T := by
  refine ⟨?_, Nat.or_lt_two_pow hu (Nat.pow_lt_pow_right (by decide) ht)⟩
  rw [pc_or (by omega), hb]
  rfl
def stepS (T : Nat) (st : List Nat) (u dn x : Nat) : Option (List Nat × Nat × Nat) :=
  if endd st dn = 0 then
    if x = 40 then (if pc u + dueS st dn + 1 ≤ T then some (0 :: st, u, dn) else none)
    else if 48 ≤ x ∧ x - 48 < T ∧ u.testBit (x - 48) = false then some (endS st, u ||| 2 ^ (x - 48), if st.length = 0 then 1 else dn)
    else none
  else match st with
    | [] => none
    | a :: st' => if 2 ≤ a then (if x = 41 then some (endS st', u, if st'.length = 0 then 1 else 0) else none) else (if x = 108 ∨ x = 112 ∨ x = 115 then some (2 :: st', u, dn) else none)
theorem endS_len (st : List Nat) : (endS st).length = st.length := by cases st <;> rfl
theorem endS_endd {st : List Nat} {dn : Nat} (h : ∀ j, j < st.length → mj st j % 2 = 0) : endd (endS st) (if st.length = 0 then 1 else dn) = 1 := by
  cases st with
  | nil => rfl
  | cons a st =>
    have : a % 2 = 0 := h 0 (Nat.zero_lt_succ _)
    show (a + 1) % 2 = 1
    omega
theorem endS_ok {T : Nat} {st : List Nat} {u dn : Nat} (hdn : dn = 0) (h3 : ∀ j, j < st.length → mj st j ≤ 3 ∧ mj st j % 2 = 0) (hu : u < 2 ^ T) (hlen : st.length ≤ pc u + low st) (hT : pc u + low st ≤ T) : PO T (endS st) u (if st.length = 0 then 1 else dn) := by
  have hev : ∀ j, j < st.length → mj st j % 2 = 0 := fun j hj => (h3 j hj).2
  have hd : dueS (endS st) (if st.length = 0 then 1 else dn) = low st := by
    unfold dueS
    rw [endS_endd hev, low_endS hev]
    omega
  refine ⟨by split <;> omega, fun hne => ?_, fun j hj => ?_, hu, by rw [hd, endS_len]; exact hlen, by rw [hd]; exact hT⟩
  · cases st with
    | nil => exact absurd rfl hne
    | cons a st => exact (if_neg (by rw [List.length_cons]; omega)).trans hdn
  · rw [endS_len] at hj
    cases st with
    | nil => exact absurd hj (Nat.not_lt_zero _)
    | cons a st =>
      cases j with
      | zero =>
        have h0 := h3 0 (Nat.zero_lt_succ _)
        have h1 : a ≤ 3 := h0.1
        have h2 : a % 2 = 0 := h0.2
        exact ⟨by show a + 1 ≤ 3; omega, fun z => absurd z (by decide)⟩
      | succ j => exact ⟨(h3 (j + 1) hj).1, fun _ => (h3 (j + 1) hj).2⟩
theorem stepS_ok {T : Nat} {st st' : List Nat} {u u' dn dn' x : Nat} (hT : T ≤ 6) (h : PO T st u dn) (hs : stepS T st u dn x = some (st', u', dn')) : PO T st' u' dn' := by
  obtain ⟨h1, h2, h3, h4, h5, h6⟩ := h
  unfold stepS at hs
  by_cases he : endd st dn = 0
  · have hdn : dn = 0 := by
      cases st with
      | nil => exact he
      | cons a st => exact h2 (fun z => by cases z)
    have hev : ∀ j, j < st.length → mj st j ≤ 3 ∧ mj st j % 2 = 0 := fun j hj => by
      refine ⟨(h3 j hj).1, ?_⟩
      cases j with
      | zero => cases st with
        | nil => exact absurd hj (Nat.not_lt_zero _)
        | cons a st => exact he
      | succ j => exact (h3 (j + 1) hj).2 (by omega)
    have hdue : dueS st dn = low st + 1 := by unfold dueS; rw [he]
    rw [if_pos he] at hs
    by_cases hx : x = 40
    · rw [if_pos hx] at hs
      by_cases hc : pc u + dueS st dn + 1 ≤ T
      · rw [if_pos hc] at hs
        have hs := Option.some.inj hs
        have e1 : 0 :: st = st' := congrArg Prod.fst hs
        have e2 : u = u' := congrArg (fun p => p.2.1) hs
        have e3 : dn = dn' := congrArg (fun p => p.2.2) hs
        subst e1 e2 e3
        have hd' : dueS (0 :: st) dn = low st + 2 := rfl
        refine ⟨h1, fun _ => hdn, fun j hj => ?_, h4, by rw [hd', List.length_cons]; omega, by rw [hd']; omega⟩
        cases j with
        | zero => exact ⟨Nat.zero_le _, fun z => absurd z (by decide)⟩
        | succ j => exact ⟨(hev j (Nat.lt_of_succ_lt_succ hj)).1, fun _ => (hev j (Nat.lt_of_succ_lt_succ hj)).2⟩
      · rw [if_neg hc] at hs; cases hs
    · rw [if_neg hx] at hs
      by_cases hc : 48 ≤ x ∧ x - 48 < T ∧ u.testBit (x - 48) = false
      · rw [if_pos hc] at hs
        have hs := Option.some.inj hs
        have e1 : endS st = st' := congrArg Prod.fst hs
        have e2 : u ||| 2 ^ (x - 48) = u' := congrArg (fun p => p.2.1) hs
        have e3 : (if st.length = 0 then 1 else dn) = dn' := congrArg (fun p => p.2.2) hs
        subst e1 e2 e3
        obtain ⟨p1, p2⟩ := pc_add hT h4 hc.2.1 hc.2.2
        exact endS_ok hdn hev p2 (by rw [p1]; omega) (by rw [p1]; omega)
      · rw [if_neg hc] at hs; cases hs
  · rw [if_neg he] at hs
    cases st with
    | nil => cases hs
    | cons a st =>
      have ha3 : a ≤ 3 := (h3 0 (Nat.zero_lt_succ _)).1
      have ha1 : a % 2 = 1 := by
        have : ¬ a % 2 = 0 := he
        omega
      have hdn : dn = 0 := h2 (fun z => by cases z)
      have hev : ∀ j, j < st.length → mj st j ≤ 3 ∧ mj st j % 2 = 0 := fun j hj => ⟨(h3 (j + 1) (Nat.succ_lt_succ hj)).1, (h3 (j + 1) (Nat.succ_lt_succ hj)).2 (by omega)⟩
      have hdue : dueS (a :: st) dn = low st + (if a < 2 then 1 else 0) := by
        show low st + (if a < 2 then 1 else 0) + (1 - a % 2) = _
        rw [ha1]
        rfl
      rw [List.length_cons] at h5
      by_cases h22 : 2 ≤ a
      · have hs : (if 2 ≤ a then (if x = 41 then some (endS st, u, if st.length = 0 then 1 else 0) else none) else (if x = 108 ∨ x = 112 ∨ x = 115 then some (2 :: st, u, dn) else none)) = some (st', u', dn') := hs
        rw [if_pos h22] at hs
        by_cases hx : x = 41
        · rw [if_pos hx] at hs
          have hs := Option.some.inj hs
          have e1 : endS st = st' := congrArg Prod.fst hs
          have e2 : u = u' := congrArg (fun p => p.2.1) hs
          have e3 : (if st.length = 0 then 1 else 0) = dn' := congrArg (fun p => p.2.2) hs
          subst e1 e2 e3
          rw [if_neg (show ¬ a < 2 by omega)] at hdue
          exact endS_ok rfl hev h4 (by omega) (by omega)
        · rw [if_neg hx] at hs; cases hs
      · have hs : (if 2 ≤ a then (if x = 41 then some (endS st, u, if st.length = 0 then 1 else 0) else none) else (if x = 108 ∨ x = 112 ∨ x = 115 then some (2 :: st, u, dn) else none)) = some (st', u', dn') := hs
        rw [if_neg h22] at hs
        by_cases hx : x = 108 ∨ x = 112 ∨ x = 115
        · rw [if_pos hx] at hs
          have hs := Option.some.inj hs
          have e1 : 2 :: st = st' := congrArg Prod.fst hs
          have e2 : u = u' := congrArg (fun p => p.2.1) hs
          have e3 : dn = dn' := congrArg (fun p => p.2.2) hs
          subst e1 e2 e3
          rw [if_pos (show a < 2 by omega)] at hdue
          have hd' : dueS (2 :: st) dn = low st + 1 := rfl
          refine ⟨h1, fun _ => hdn, fun j hj => ?_, h4, by rw [hd', List.length_cons]; omega, by rw [hd']; omega⟩
          cases j with
          | zero => exact ⟨show 2 ≤ 3 by decide, fun z => absurd z (by decide)⟩
          | succ j => exact ⟨(hev j (Nat.lt_of_succ_lt_succ hj)).1, fun _ => (hev j (Nat.lt_of_succ_lt_succ hj)).2⟩
        · rw [if_neg hx] at hs; cases hs
end Parse
