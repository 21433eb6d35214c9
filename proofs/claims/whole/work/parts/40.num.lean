/-! numbers: ints that are small naturals -/
theorem ix_nI {n : Nat} (h : n < 2 ^ 31) : ix (nI n) = n := nI_clamp h
theorem tn_nI {n : Nat} (h : n < 2 ^ 32) : (nI n).toBitVec.toNat = n := pk_tn h
theorem eq_tn {x y : Int32} (h : x.toBitVec.toNat = y.toBitVec.toNat) : x = y := Int32.toBitVec_inj.mp (BitVec.eq_of_toNat_eq h)
theorem of_tn (x : Int32) : x = nI x.toBitVec.toNat := eq_tn (by rw [tn_nI x.toBitVec.isLt])
theorem and_nI {a b : Nat} (ha : a < 2 ^ 32) (hb : b < 2 ^ 32) : nI a &&& nI b = nI (a &&& b) := by
  apply eq_tn
  rw [Int32.toBitVec_and, BitVec.toNat_and, tn_nI ha, tn_nI hb, tn_nI (Nat.lt_of_le_of_lt Nat.and_le_left ha)]
theorem or_nI {a b : Nat} (ha : a < 2 ^ 32) (hb : b < 2 ^ 32) : nI a ||| nI b = nI (a ||| b) := by
  apply eq_tn
  rw [Int32.toBitVec_or, BitVec.toNat_or, tn_nI ha, tn_nI hb, tn_nI (Nat.or_lt_two_pow ha hb)]
theorem xor_nI {a b : Nat} (ha : a < 2 ^ 32) (hb : b < 2 ^ 32) : nI a ^^^ nI b = nI (a ^^^ b) := by
  apply eq_tn
  rw [Int32.toBitVec_xor, BitVec.toNat_xor, tn_nI ha, tn_nI hb, tn_nI (Nat.xor_lt_two_pow ha hb)]
/-- and not -/
def andn (a b : Nat) : Nat := a ^^^ (a &&& b)
theorem andn_i (x y : Int32) : x &&& (y ^^^ (-1)) = x ^^^ (x &&& y) := by
  apply Int32.toBitVec_inj.mp
  rw [Int32.toBitVec_and, Int32.toBitVec_xor, Int32.toBitVec_xor, Int32.toBitVec_and, show (-1 : Int32).toBitVec = BitVec.allOnes 32 from by decide]
  apply BitVec.eq_of_getLsbD_eq
  intro i hi
  simp only [BitVec.getLsbD_and, BitVec.getLsbD_xor, BitVec.getLsbD_allOnes, hi, decide_true]
  cases x.toBitVec.getLsbD i <;> cases y.toBitVec.getLsbD i <;> rfl
theorem andn_nI {a b : Nat} (ha : a < 2 ^ 32) (hb : b < 2 ^ 32) : nI a &&& (nI b ^^^ (-1)) = nI (andn a b) := by
  rw [andn_i, and_nI ha hb, xor_nI ha (Nat.lt_of_le_of_lt Nat.and_le_left ha)]
  rfl
theorem andn_bit (a b i : Nat) : (andn a b).testBit i = (a.testBit i && !b.testBit i) := by
  unfold andn
  rw [Nat.testBit_xor, Nat.testBit_and]
  cases a.testBit i <;> cases b.testBit i <;> rfl
theorem sh31 {b : Nat} (hb : b < 32) : nI b &&& 31 = nI b := by
  rw [show (31 : Int32) = nI 31 from rfl, and_nI (by omega) (by decide), show b &&& 31 = b from by rw [show (31 : Nat) = 2 ^ 5 - 1 from rfl, Nat.and_two_pow_sub_one_eq_mod]; exact Nat.mod_eq_of_lt hb]
theorem smod_nI {b : Nat} (hb : b < 32) : ((nI b).toBitVec.smod 32).toNat = b := by
  have h : ∀ b : Fin 32, ((nI b.1).toBitVec.smod 32).toNat = b.1 := by decide +kernel
  exact h ⟨b, hb⟩
theorem umod_nI {b : Nat} (hb : b < 32) : (((nI b).toUInt32 &&& Int32.toUInt32 31).toBitVec % 32).toNat = b := by
  have h : ∀ b : Fin 32, (((nI b.1).toUInt32 &&& Int32.toUInt32 31).toBitVec % 32).toNat = b.1 := by decide +kernel
  exact h ⟨b, hb⟩
theorem shl_nI {a b : Nat} (hb : b < 32) (h : a * 2 ^ b < 2 ^ 32) : jshl (nI a) (nI b) = nI (a * 2 ^ b) := by
  unfold jshl
  rw [sh31 hb]
  exact pk_shlN (nI b) b (smod_nI hb) h
theorem shr_nI {a b : Nat} (ha : a < 2 ^ 31) (hb : b < 32) : jshr (nI a) (nI b) = nI (a / 2 ^ b) := by
  unfold jshr
  rw [sh31 hb]
  exact pk_shrN ha (nI b) b (smod_nI hb)
theorem ushr_nI {a b : Nat} (ha : a < 2 ^ 32) (hb : b < 32) : jushr (nI a) (nI b) = nI (a / 2 ^ b) := pk_ushrN ha (nI b) b (umod_nI hb)
theorem bit_nI {a b : Nat} (ha : a < 2 ^ 31) (hb : b < 32) : jshr (nI a) (nI b) &&& 1 = nI (a.testBit b).toNat := by
  have hlt : a / 2 ^ b < 2 ^ 32 := Nat.lt_of_le_of_lt (Nat.div_le_self _ _) (by omega)
  rw [shr_nI ha hb, show (1 : Int32) = nI 1 from rfl, and_nI hlt (by decide), Nat.and_one_is_mod, Nat.toNat_testBit]
theorem eq_t {a b : Nat} (h : a = b) : (nI a = nI b) = True := by rw [h]; exact eq_self _
theorem eq_f {a b : Nat} (h : a ≠ b) (ha : a < 2 ^ 31) (hb : b < 2 ^ 31) : (nI a = nI b) = False := eq_false (fun z => h ((nI_eq ha hb).mp z))
theorem le_t {a b : Nat} (h : a ≤ b) (hb : b < 2 ^ 31) : (nI a ≤ nI b) = True := eq_true (nI_le h hb)
theorem le_f {a b : Nat} (h : b < a) (ha : a < 2 ^ 31) : (nI a ≤ nI b) = False := eq_false (nI_ge h ha)
theorem lt_t {a b : Nat} (h : a < b) (hb : b < 2 ^ 31) : (nI a < nI b) = True := eq_true (nI_lt h hb)
theorem lt_f {a b : Nat} (h : b ≤ a) (ha : a < 2 ^ 31) : (nI a < nI b) = False := eq_false (nI_nlt h ha)
theorem ck_nI {α : Type} {i n : Nat} {k : Option α} (h : i < n) (hn : n < 2 ^ 31) : ck (nI i) n k = k := by
  unfold ck
  rw [if_neg]
  exact vp_in_nI h hn
theorem dz_nI {α : Type} {i : Nat} {k : Option α} (h : 0 < i) (hn : i < 2 ^ 31) : dz (nI i) k = k := by
  unfold dz
  rw [if_neg (nI_ne0 h hn)]
theorem cz_0 {α : Type} {k : Option α} : cz 0 k = k := by unfold cz; rw [if_pos (Or.inl rfl)]
theorem cz_1 {α : Type} {k : Option α} : cz 1 k = k := by unfold cz; rw [if_pos (Or.inr rfl)]
theorem cz_b {α : Type} {k : Option α} (b : Bool) : cz (nI b.toNat) k = k := by cases b; exact cz_0; exact cz_1
theorem nrf {α : Type} {a b : α} (h : ∀ x : Unit, x = x → a = b) : a = b := h () rfl
theorem bd_s {α β : Type} (a : α) (k : α → Option β) : bd (some a) k = k a := nrf (fun _ _ => rfl)
theorem bd2_s {α γ β : Type} (a : α) (c : γ) (k : α → γ → Option β) : bd2 (some (a, c)) k = k a c := nrf (fun _ _ => rfl)
theorem bn_e {α β : Type} (e : α) (k : α → Option β) : bn e k = k e := nrf (fun _ _ => rfl)
theorem l0 : (0 : Int32) = nI 0 := nrf (fun _ _ => rfl)
theorem b1_eq (b : Bool) : (nI b.toNat = nI 1) = (b = true) := by cases b <;> simp <;> decide
theorem b0_eq (b : Bool) : (nI b.toNat = nI 0) = (b = false) := by cases b <;> simp <;> decide
/-! the state's rows -/
theorem fi_sf (q : SS) (k j : Nat) (v : Int32) : fi (sf q k v) j = if j = k then v else fi q j := nrf (fun _ _ => rfl)
theorem fi_sa (q : SS) (k i j : Nat) (v : Int32) : fi (sa q k i v) j = fi q j := nrf (fun _ _ => rfl)
theorem fi_sl (q : SS) (i j : Nat) (v : Int64) : fi (sl q i v) j = fi q j := nrf (fun _ _ => rfl)
theorem ar_sf (q : SS) (k j : Nat) (v : Int32) : ar (sf q k v) j = ar q j := nrf (fun _ _ => rfl)
theorem ar_sl (q : SS) (i j : Nat) (v : Int64) : ar (sl q i v) j = ar q j := nrf (fun _ _ => rfl)
theorem ar_sa (q : SS) (k i j m : Nat) (v : Int32) : ar (sa q k i v) j m = if j = k then (if m = i then v else ar q j m) else ar q j m := by
  unfold ar sa upd
  dsimp only
  split <;> rfl
theorem lo_sf (q : SS) (k : Nat) (v : Int32) : lo (sf q k v) = lo q := nrf (fun _ _ => rfl)
theorem lo_sa (q : SS) (k i : Nat) (v : Int32) : lo (sa q k i v) = lo q := nrf (fun _ _ => rfl)
theorem lo_sl (q : SS) (i m : Nat) (v : Int64) : lo (sl q i v) m = if m = i then v else lo q m := nrf (fun _ _ => rfl)
/-! loops -/
theorem loop_run {α β : Type} (f : Nat → α → Option β) (B : (α → Option β) → α → Option β) (hf : ∀ n s, f (n + 1) s = B (f n) s) (s : Nat → α) (b : Nat) (r : Option β) {c : Nat}
    (hstep : ∀ i, c ≤ i → i < b → ∀ k, B k (s i) = k (s (i + 1))) (hend : ∀ k, B k (s b) = r) : ∀ (n a : Nat), c ≤ a → a ≤ b → b - a < n → f n (s a) = r := by
  intro n
  induction n with
  | zero => intro a _ _ h; omega
  | succ n ih =>
    intro a hc ha hn
    rw [hf]
    by_cases h : a = b
    · subst h; exact hend _
    · rw [hstep a hc (by omega)]
      exact ih (a + 1) (by omega) (by omega) (by omega)
/-- a loop that keeps an invariant: it comes to its end with it -/
theorem loop_inv {α β : Type} (f : Nat → α → Option β) (B : (α → Option β) → α → Option β) (hf : ∀ n s, f (n + 1) s = B (f n) s) (I : Nat → α → Prop) (b : Nat)
    (hstep : ∀ i s, i < b → I i s → ∃ s', I (i + 1) s' ∧ ∀ k, B k s = k s') : ∀ (n a : Nat) (s : α), a ≤ b → b - a < n → I a s → ∃ m s', I b s' ∧ f n s = B (f m) s' := by
  intro n
  induction n with
  | zero => intro a s _ h; omega
  | succ n ih =>
    intro a s ha hn hI
    by_cases h : a = b
    · subst h; exact ⟨n, s, hI, hf n s⟩
    · obtain ⟨s', h1, h2⟩ := hstep a s (by omega) hI
      obtain ⟨m, s2, h3, h4⟩ := ih (a + 1) s' (by omega) (by omega) h1
      exact ⟨m, s2, h3, by rw [hf, h2]; exact h4⟩
