/-! reading a page sign by sign: both readers keep one stack -/
section Parse
variable {N : Nat} {d : DB} {q : SS}
/-- how many open pairs still wait for their way or their right side's begin -/
def low : List Nat → Nat
  | [] => 0
  | a :: st => low st + (if a < 2 then 1 else 0)
def sdn : List Nat → Nat
  | [] => 0
  | a :: st => 2 * sdn st + (if 2 ≤ a then 1 else 0)
/-- a plan has just ended -/
def endd (st : List Nat) (dn : Nat) : Nat := match st with
  | [] => dn
  | a :: _ => a % 2
def dueS (st : List Nat) (dn : Nat) : Nat := low st + (1 - endd st dn)
/-- a plan ends at the top of the stack -/
def endS : List Nat → List Nat
  | [] => []
  | a :: st => (a + 1) :: st
def PC (st : List Nat) (u dn : Nat) (q : SS) : Prop := fi q 5 = nI u ∧ fi q 6 = nI (dueS st dn) ∧ fi q 7 = nI st.length ∧ fi q 8 = nI (sdn st) ∧ fi q 9 = nI (endd st dn)
def PM (st : List Nat) (u dn : Nat) (q : SS) : Prop := fi q 6 = nI st.length ∧ fi q 7 = nI u ∧ fi q 8 = nI (dueS st dn) ∧ fi q 9 = nI dn ∧ ∀ k, k < st.length → ar q 12 k = nI (mj st (st.length - 1 - k))
/-- the stack is sound -/
def PO (T : Nat) (st : List Nat) (u dn : Nat) : Prop := dn ≤ 1 ∧ (st ≠ [] → dn = 0) ∧ (∀ j, j < st.length → mj st j ≤ 3 ∧ (1 ≤ j → mj st j % 2 = 0)) ∧ u < 2 ^ T ∧ st.length ≤ pc u + dueS st dn ∧ pc u + dueS st dn ≤ T
theorem sdn_lt : ∀ st : List Nat, sdn st < 2 ^ st.length
  | [] => by decide
  | a :: st => by
    have := sdn_lt st
    show 2 * sdn st + (if 2 ≤ a then 1 else 0) < 2 ^ (st.length + 1)
    rw [Nat.pow_succ]
    split <;> omega
theorem low_le : ∀ st : List Nat, low st ≤ st.length
  | [] => Nat.le_refl _
  | a :: st => by
    have := low_le st
    show low st + (if a < 2 then 1 else 0) ≤ st.length + 1
    split <;> omega
theorem low_end (a : Nat) (st : List Nat) (h : a % 2 = 0) : low ((a + 1) :: st) = low (a :: st) := by
  show low st + (if a + 1 < 2 then 1 else 0) = low st + (if a < 2 then 1 else 0)
  by_cases h2 : a < 2
  · rw [if_pos h2, if_pos (by omega)]
  · rw [if_neg h2, if_neg (by omega)]
theorem low_endS {st : List Nat} (h : ∀ j, j < st.length → mj st j % 2 = 0) : low (endS st) = low st := by
  cases st with
  | nil => rfl
  | cons a st => exact low_end a st (h 0 (Nat.zero_lt_succ _))
theorem sdn_end (a : Nat) (st : List Nat) (h : a % 2 = 0) : sdn ((a + 1) :: st) = sdn (a :: st) := by
  show 2 * sdn st + (if 2 ≤ a + 1 then 1 else 0) = 2 * sdn st + (if 2 ≤ a then 1 else 0)
  by_cases h2 : 2 ≤ a
  · rw [if_pos h2, if_pos (by omega)]
  · rw [if_neg h2, if_neg (by omega)]
theorem pc_add {u t T : Nat} (hT : T ≤ 6) (hu : u < 2 ^ T) (ht : t < T) (hb : u.testBit t = false) : pc (u ||| 2 ^ t) = pc u + 1 ∧ u ||| 2 ^ t < 2 ^ T := by
  refine ⟨?_, Nat.or_lt_two_pow hu (Nat.pow_lt_pow_right (by decide) ht)⟩
  rw [pc_or (by omega), hb]
  rfl
end Parse
