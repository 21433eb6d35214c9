/-! the reference's search for joined rows -/
section Dfs
variable {N : Nat} {d : DB} {q : SS} {M : List Nat}
def mj (M : List Nat) (j : Nat) : Nat := M.getD j 0
def accE (M : List Nat) (e : Nat → Nat) (p : Nat) : List (Nat × Nat) := (List.range p).map (fun j => (mj M j, e j - 1))
def preE (e : Nat → Nat) (p : Nat) : List Nat := (List.range p).map (fun j => e j - 1)
def fitA (d : DB) (M : List Nat) (e : Nat → Nat) (p i : Nat) : Bool := (accE M e p).all (fun x => fitL (dL d) (dV d) x.1 x.2 (mj M p) i)
def subE (d : DB) (M : List Nat) (e : Nat → Nat) (p i : Nat) : List (List Nat) := if fitA d M e p i then (enumF (dL d) (dR d) (dV d) (M.drop (p + 1)) (accE M e p ++ [(mj M p, i)])).map (fun z => preE e p ++ i :: z) else []
def blockE (d : DB) (M : List Nat) (e : Nat → Nat) (p i : Nat) : List (List Nat) := (List.range' i (dR d (mj M p) - i)).flatMap (subE d M e p)
def Rem (d : DB) (M : List Nat) (e : Nat → Nat) : Nat → List (List Nat)
  | 0 => []
  | p + 1 => blockE d M e p (e p) ++ Rem d M e p
def uE (e : Nat → Nat) (p v : Nat) : Nat → Nat := fun j => if j = p then v else e j
theorem uE_self (e : Nat → Nat) (p v : Nat) : uE e p v p = v := if_pos rfl
theorem uE_ne {e : Nat → Nat} {p v j : Nat} (h : j ≠ p) : uE e p v j = e j := if_neg h
theorem accE_congr {e e' : Nat → Nat} {p : Nat} (h : ∀ j, j < p → e j = e' j) : accE M e p = accE M e' p := List.map_congr_left (fun j hj => by rw [h j (List.mem_range.mp hj)])
theorem preE_congr {e e' : Nat → Nat} {p : Nat} (h : ∀ j, j < p → e j = e' j) : preE e p = preE e' p := List.map_congr_left (fun j hj => by rw [h j (List.mem_range.mp hj)])
theorem subE_congr {e e' : Nat → Nat} {p : Nat} (h : ∀ j, j < p → e j = e' j) : subE d M e p = subE d M e' p := by
  funext i
  unfold subE fitA
  rw [accE_congr h, preE_congr h]
theorem blockE_congr {e e' : Nat → Nat} {p i : Nat} (h : ∀ j, j < p → e j = e' j) : blockE d M e p i = blockE d M e' p i := by
  unfold blockE
  rw [subE_congr h]
theorem Rem_congr {e e' : Nat → Nat} : ∀ {p : Nat}, (∀ j, j < p → e j = e' j) → Rem d M e p = Rem d M e' p
  | 0, _ => rfl
  | p + 1, h => by
    show blockE d M e p (e p) ++ Rem d M e p = blockE d M e' p (e' p) ++ Rem d M e' p
    rw [blockE_congr (fun j hj => h j (by omega)), h p (by omega), Rem_congr (fun j hj => h j (by omega))]
theorem blockE_s {e : Nat → Nat} {p i : Nat} (h : i < dR d (mj M p)) : blockE d M e p i = subE d M e p i ++ blockE d M e p (i + 1) := by
  unfold blockE
  rw [show dR d (mj M p) - i = (dR d (mj M p) - (i + 1)) + 1 by omega, List.range'_succ, List.flatMap_cons]
theorem blockE_e {e : Nat → Nat} {p i : Nat} (h : dR d (mj M p) ≤ i) : blockE d M e p i = [] := by
  unfold blockE
  rw [show dR d (mj M p) - i = 0 by omega]
  rfl
theorem accE_s (e : Nat → Nat) (p i : Nat) : accE M (uE e p (i + 1)) (p + 1) = accE M e p ++ [(mj M p, i)] := by
  unfold accE
  rw [List.range_succ, List.map_append]
  congr 1
  · exact List.map_congr_left (fun j hj => by have := List.mem_range.mp hj; rw [uE_ne (by omega)])
  · rw [List.map_cons, List.map_nil, uE_self, Nat.add_sub_cancel]
theorem preE_s (e : Nat → Nat) (p i : Nat) : preE (uE e p (i + 1)) (p + 1) = preE e p ++ [i] := by
  unfold preE
  rw [List.range_succ, List.map_append]
  congr 1
  · exact List.map_congr_left (fun j hj => by have := List.mem_range.mp hj; rw [uE_ne (by omega)])
  · rw [List.map_cons, List.map_nil, uE_self, Nat.add_sub_cancel]
theorem drop_c {p : Nat} (h : p < M.length) : M.drop p = mj M p :: M.drop (p + 1) := by
  rw [List.drop_eq_getElem_cons h]
  congr 1
  unfold mj
  rw [List.getD_eq_getElem?_getD, List.getElem?_eq_getElem h]
  rfl
theorem subE_last {e : Nat → Nat} {p i : Nat} (hp : p + 1 = M.length) (hf : fitA d M e p i = true) : subE d M e p i = [preE (uE e p (i + 1)) (p + 1)] := by
  unfold subE
  rw [if_pos hf, preE_s, hp, List.drop_length]
  rfl
theorem subE_in {e : Nat → Nat} {p i : Nat} (hp : p + 1 < M.length) (hf : fitA d M e p i = true) : subE d M e p i = blockE d M (uE e p (i + 1)) (p + 1) 0 := by
  unfold subE blockE
  rw [if_pos hf, drop_c hp, Nat.sub_zero, ← List.range_eq_range']
  show List.map _ ((List.range (dR d (mj M (p + 1)))).flatMap _) = _
  rw [List.map_flatMap]
  congr 1
  funext i'
  unfold subE fitA
  rw [accE_s, preE_s]
  split
  · rw [List.map_map]
    congr 1
    funext z
    show preE e p ++ i :: (i' :: z) = (preE e p ++ [i]) ++ i' :: z
    rw [List.append_assoc]
    rfl
  · rfl
def mu (n : Nat) (e : Nat → Nat) : Nat → Nat
  | 0 => 0
  | p + 1 => mu n e p + (9 - e p) * 10 ^ (n - 1 - p)
theorem mu_congr {n : Nat} {e e' : Nat → Nat} : ∀ {p : Nat}, (∀ j, j < p → e j = e' j) → mu n e p = mu n e' p
  | 0, _ => rfl
  | p + 1, h => by
    show mu n e p + _ = mu n e' p + _
    rw [mu_congr (fun j hj => h j (by omega)), h p (by omega)]
theorem mu_lt (n : Nat) (e : Nat → Nat) : ∀ p, p ≤ n → mu n e p + 10 ^ (n - p) ≤ 10 ^ n
  | 0, _ => by show 0 + 10 ^ (n - 0) ≤ _; rw [Nat.sub_zero]; omega
  | p + 1, hp => by
    have h1 := mu_lt n e p (by omega)
    have h2 : 10 ^ (n - p) = 10 * 10 ^ (n - 1 - p) := by rw [show n - p = (n - 1 - p) + 1 by omega, Nat.pow_succ]; omega
    have h3 : (9 - e p) * 10 ^ (n - 1 - p) ≤ 9 * 10 ^ (n - 1 - p) := Nat.mul_le_mul_right _ (by omega)
    show mu n e p + (9 - e p) * 10 ^ (n - 1 - p) + 10 ^ (n - (p + 1)) ≤ _
    rw [show n - (p + 1) = n - 1 - p by omega]
    omega
/-- the members stand in their cells -/
def MB (d : DB) (M : List Nat) (q : SS) : Prop := fi q 4 = nI M.length ∧ ∀ j, j < M.length → ar q 9 j = nI (mj M j)
def okM (d : DB) (M : List Nat) : Prop := 1 ≤ M.length ∧ M.length ≤ 6 ∧ ∀ j, j < M.length → mj M j < dT d
def fr10 (q q' : SS) : Prop := (∀ j, fi q' j = fi q j) ∧ ∀ k, k ≠ 10 → ar q' k = ar q k
theorem fr10.rf {q : SS} : fr10 q q := ⟨fun _ => rfl, fun _ _ => rfl⟩
theorem fr10.tr {a b c : SS} (h : fr10 a b) (g : fr10 b c) : fr10 a c := ⟨fun k => (g.1 k).trans (h.1 k), fun k hk => (g.2 k hk).trans (h.2 k hk)⟩
theorem fr10.same {a b : SS} (h : fr10 a b) : sameM a b := ⟨fun k _ => h.1 k, fun k hk => h.2 k (by omega)⟩
theorem fr10.mb {a b : SS} (h : fr10 a b) (m : MB d M a) : MB d M b := ⟨by rw [h.1]; exact m.1, fun j hj => by rw [h.2 9 (by decide)]; exact m.2 j hj⟩
theorem fr10.sa {a b : SS} (h : fr10 a b) (i : Nat) (v : Int32) : fr10 a (sa b 10 i v) := ⟨fun k => h.1 k, fun k hk => by funext m; rw [ar_sa, if_neg hk, h.2 k hk]⟩
theorem pI_s (x : Nat) : nI x - 1 + 1 = nI x := by rw [Int32.sub_eq_add_neg, Int32.add_assoc]; exact Int32.add_zero _
theorem nI_p (x : Nat) : nI (x + 1) - 1 = nI x := by rw [li1, pk_sub (by omega)]; rfl
theorem m_fitsAhead (hw : WF d) (h : RMk d q) (hM : okM d M) (hB : MB d M q) {e : Nat → Nat} {p i : Nat} (hN : 1000 ≤ N) (hp : p < M.length) (he : ∀ j, j < p → 1 ≤ e j ∧ e j ≤ dR d (mj M j)) (hc : ∀ j, j < p → ar q 10 j = nI (e j) - 1) (hi : i < dR d (mj M p)) (hci : ar q 10 p = nI i) : f9_fitsAhead N q (nI p) = some (nI (fitA d M e p i).toNat) := by
  have hT := hw.1
  have hM6 := hM.2.1
  have hacc : ∀ n, accE M e (n + 1) = accE M e n ++ [(mj M n, e n - 1)] := fun n => by unfold accE; rw [List.range_succ, List.map_append]; rfl
  refine loop_run (fun n (p : Int32 × Int32 × Int32) => f9_fitsAhead_l4 N q n p.1 p.2.1 p.2.2) (fun k p => f9_fitsAhead_l4_B N q (fun x1 x2 x3 => k (x1, x2, x3)) p.1 p.2.1 p.2.2) (fun n p => rfl) (fun j => (nI p, nI ((accE M e j).all (fun x => fitL (dL d) (dV d) x.1 x.2 (mj M p) i)).toNat, nI j)) p _ (c := 0) ?_ ?_ N 0 (Nat.le_refl _) (Nat.zero_le _) (by omega)
  · intro j _ hj k
    have hej := he j hj
    have hcj := hc j hj
    obtain ⟨x, hx⟩ : ∃ x, e j = x + 1 := ⟨e j - 1, by omega⟩
    have ef := m_fit (N := N) hw h hN (hM.2.2 j (by omega)) (hM.2.2 p hp) (show e j - 1 < dR d (mj M j) by omega) hi
    rw [hx, nI_p] at hcj
    rw [hx, Nat.add_sub_cancel] at ef
    dsimp only
    rw [hacc, List.all_append]
    unfold f9_fitsAhead_l4_B f9_fitsAhead_b48 f9_fitsAhead_b49
    rw [if_neg (nI_ge hj (by omega)), nI_s, bn_e, bn_e, ck_nI (by omega) (by decide), ck_nI (by omega) (by decide), ck_nI (by omega) (by decide), ck_nI (by omega) (by decide), ix_nI (by omega), ix_nI (by omega), hB.2 j (by omega), hB.2 p hp, hcj, hci, ef, bd_s, List.all_cons, List.all_nil, Bool.and_true, hx, Nat.add_sub_cancel]
    generalize (accE M e j).all (fun x => fitL (dL d) (dV d) x.1 x.2 (mj M p) i) = z
    cases z
    · rw [if_pos (show nI (false).toNat = 0 from rfl), Bool.false_and]
      rfl
    · rw [if_neg (show ¬ nI (true).toNat = 0 by decide), Bool.true_and]
      show (if nI (fitd d (mj M j) x (mj M p) i).toNat = 0 then _ else _) = k (nI p, nI (fitd d (mj M j) x (mj M p) i).toNat, nI (j + 1))
      cases fitd d (mj M j) x (mj M p) i
      · rw [if_pos (show nI (false).toNat = 0 from rfl)]
        rfl
      · rw [if_neg (show ¬ nI (true).toNat = 0 by decide)]
        rfl
  · intro k
    dsimp only
    unfold f9_fitsAhead_l4_B
    rw [if_pos (nI_le (Nat.le_refl _) (by omega)), cz_b]
    rfl
theorem m_next_row (hw : WF d) (hM : okM d M) (hN : 1000 ≤ N) : ∀ (f : Nat) (P : Nat) (e : Nat → Nat) (q : SS), RMk d q → MB d M q → P ≤ M.length → (∀ j, j < P → e j ≤ dR d (mj M j)) → (∀ j, j + 1 < P → 1 ≤ e j) → (∀ j, j < P → ar q 10 j = nI (e j) - 1) → mu M.length e P < f →
    ∃ q', fr10 q q' ∧ ((Rem d M e P = [] ∧ f9_nextJoined_l2 N f (nI P - 1) q = some (0, q')) ∨ ∃ e', f9_nextJoined_l2 N f (nI P - 1) q = some (1, q') ∧ (∀ j, j < M.length → ar q' 10 j = nI (e' j) - 1 ∧ 1 ≤ e' j ∧ e' j ≤ dR d (mj M j)) ∧ Rem d M e P = preE e' M.length :: Rem d M e' M.length) := by
  have hT := hw.1
  have hM6 := hM.2.1
  intro f
  induction f with
  | zero => intro P e q _ _ _ _ _ _ h; omega
  | succ f ih =>
    intro P e q hR hB hP he1 he2 hc hmu
    have hunf : ∀ x, f9_nextJoined_l2 N (f + 1) x q = f9_nextJoined_l2_B N (f9_nextJoined_l2 N f) x q := fun x => rfl
    cases P with
    | zero =>
      refine ⟨q, fr10.rf, Or.inl ⟨rfl, ?_⟩⟩
      rw [hunf]
      unfold f9_nextJoined_l2_B
      rw [if_pos (show nI 0 - 1 < 0 by decide)]
    | succ p =>
      have hmp := hM.2.2 p (by omega)
      have hR8 := R8 hw (mj M p)
      have hep := he1 p (by omega)
      have hmu' : mu M.length e (p + 1) = mu M.length e p + (9 - e p) * 10 ^ (M.length - 1 - p) := rfl
      have hpow : 1 ≤ 10 ^ (M.length - 1 - p) := Nat.one_le_pow _ _ (by decide)
      have hrem : Rem d M e (p + 1) = blockE d M e p (e p) ++ Rem d M e p := rfl
      have hq1 : fr10 q (sa q 10 p (nI (e p))) := fr10.rf.sa _ _
      have hR1 := hR.same hq1.same
      have hB1 := hq1.mb hB
      have hc1 : ∀ j, j < p → ar (sa q 10 p (nI (e p))) 10 j = nI (e j) - 1 := fun j hj => by rw [ar_sa, if_pos rfl, if_neg (by omega)]; exact hc j (by omega)
      have hcp : ar (sa q 10 p (nI (e p))) 10 p = nI (e p) := by rw [ar_sa, if_pos rfl, if_pos rfl]
      have e3 : ar (sa q 10 p (nI (e p))) 3 (mj M p) = nI (dR d (mj M p)) := hR1.2.2.2.2.2.2.1 _ (by omega)
      have hstep : f9_nextJoined_l2 N (f + 1) (nI (p + 1) - 1) q = if e p = dR d (mj M p) then f9_nextJoined_l2 N f (nI p - 1) (sa q 10 p (nI (e p))) else bd (f9_fitsAhead N (sa q 10 p (nI (e p))) (nI p)) fun r => if r = 0 then f9_nextJoined_l2 N f (nI p) (sa q 10 p (nI (e p))) else if p + 1 = M.length then some (1, sa q 10 p (nI (e p))) else f9_nextJoined_l2 N f (nI (p + 1)) (sa (sa q 10 p (nI (e p))) 10 (p + 1) (-1)) := by
        rw [hunf]
        unfold f9_nextJoined_l2_B
        rw [nI_p, if_neg (show ¬ nI p < 0 from nI_nlt (b := 0) (Nat.zero_le _) (by omega)), ck_nI (by omega) (by decide), ck_nI (by omega) (by decide), ix_nI (by omega), hc p (by omega), pI_s, bn_e, ck_nI (by omega) (by decide), ck_nI (by omega) (by decide), hB1.2 p (by omega), ck_nI (by omega) (by decide), ix_nI (by omega), hcp, e3, hB1.1]
        by_cases h1 : e p = dR d (mj M p)
        · rw [if_pos (by rw [h1]), if_pos h1, bn_e, Int32.sub_eq_add_neg]
        · rw [if_neg (fun z => h1 ((nI_eq (by omega) (by omega)).mp z)), if_neg h1]
          congr 1
          funext r
          by_cases hr : r = 0
          · rw [if_pos hr, if_pos hr]
          · rw [if_neg hr, if_neg hr]
            by_cases hl : p + 1 = M.length
            · rw [if_pos (by rw [← hl, nI_p]), if_pos hl]
            · rw [if_neg, if_neg hl, nI_s, bn_e, ck_nI (by omega) (by decide), ix_nI (by omega), bn_e]
              intro z
              rw [li1, pk_sub (by omega)] at z
              have := (nI_eq (by omega) (by omega)).mp z
              omega
      rw [hstep, hrem]
      by_cases h1 : e p = dR d (mj M p)
      · rw [if_pos h1, blockE_e (by omega), List.nil_append]
        have hm : 1 ≤ (9 - e p) * 10 ^ (M.length - 1 - p) := Nat.mul_pos (by omega) hpow
        obtain ⟨q', g1, g2⟩ := ih p e (sa q 10 p (nI (e p))) hR1 hB1 (by omega) (fun j hj => he1 j (by omega)) (fun j hj => he2 j (by omega)) hc1 (by omega)
        exact ⟨q', hq1.tr g1, g2⟩
      · have hlt : e p < dR d (mj M p) := by omega
        have ef := m_fitsAhead (N := N) (e := e) hw hR1 hM hB1 hN (show p < M.length by omega) (fun j hj => ⟨he2 j (by omega), he1 j (by omega)⟩) hc1 hlt hcp
        have hcong : ∀ v j, j < p → uE e p v j = e j := fun v j hj => uE_ne (by omega)
        have hrem' : Rem d M (uE e p (e p + 1)) (p + 1) = blockE d M e p (e p + 1) ++ Rem d M e p := by
          show blockE d M (uE e p (e p + 1)) p (uE e p (e p + 1) p) ++ Rem d M (uE e p (e p + 1)) p = _
          rw [uE_self, blockE_congr (hcong _), Rem_congr (hcong _)]
        have hmu1 : mu M.length (uE e p (e p + 1)) (p + 1) + 10 ^ (M.length - 1 - p) = mu M.length e (p + 1) := by
          show mu M.length (uE e p (e p + 1)) p + (9 - uE e p (e p + 1) p) * 10 ^ (M.length - 1 - p) + 10 ^ (M.length - 1 - p) = mu M.length e p + (9 - e p) * 10 ^ (M.length - 1 - p)
          rw [uE_self, mu_congr (hcong _), show 9 - e p = (9 - (e p + 1)) + 1 by omega, Nat.succ_mul]
          omega
        have hce : ∀ j, j < p + 1 → ar (sa q 10 p (nI (e p))) 10 j = nI (uE e p (e p + 1) j) - 1 := fun j hj => by
          by_cases hjp : j = p
          · subst hjp; rw [hcp, uE_self, nI_p]
          · rw [uE_ne hjp]; exact hc1 j (by omega)
        have hle : ∀ j, j < p + 1 → uE e p (e p + 1) j ≤ dR d (mj M j) := fun j hj => by
          by_cases hjp : j = p
          · subst hjp; rw [uE_self]; omega
          · rw [uE_ne hjp]; exact he1 j (by omega)
        have hge : ∀ j, j < p + 1 → 1 ≤ uE e p (e p + 1) j := fun j hj => by
          by_cases hjp : j = p
          · subst hjp; rw [uE_self]; omega
          · rw [uE_ne hjp]; exact he2 j (by omega)
        rw [if_neg h1, ef, bd_s, blockE_s hlt]
        cases hf : fitA d M e p (e p)
        · rw [if_pos (show nI (false).toNat = 0 from rfl), show subE d M e p (e p) = [] from by unfold subE; rw [hf]; rfl, List.nil_append, ← hrem']
          obtain ⟨q', g1, g2⟩ := ih (p + 1) (uE e p (e p + 1)) (sa q 10 p (nI (e p))) hR1 hB1 hP hle (fun j hj => hge j (by omega)) hce (by omega)
          rw [nI_p] at g2
          exact ⟨q', hq1.tr g1, g2⟩
        · rw [if_neg (show ¬ nI (true).toNat = 0 by decide)]
          by_cases hl : p + 1 = M.length
          · rw [if_pos hl, subE_last hl hf]
            refine ⟨_, hq1, Or.inr ⟨uE e p (e p + 1), rfl, fun j hj => ⟨hce j (by omega), hge j (by omega), hle j (by omega)⟩, ?_⟩⟩
            rw [← hl, hrem']
            rfl
          · rw [if_neg hl, subE_in (by omega) hf]
            have hq2 : fr10 q (sa (sa q 10 p (nI (e p))) 10 (p + 1) (-1)) := hq1.sa _ _
            have hc0 : ∀ j, j < p + 1 → uE (uE e p (e p + 1)) (p + 1) 0 j = uE e p (e p + 1) j := fun j hj => uE_ne (by omega)
            have hpw : 10 ^ (M.length - 1 - p) = 10 * 10 ^ (M.length - 1 - (p + 1)) := by rw [show M.length - 1 - p = (M.length - 1 - (p + 1)) + 1 by omega, Nat.pow_succ]; omega
            have hpow2 : 1 ≤ 10 ^ (M.length - 1 - (p + 1)) := Nat.one_le_pow _ _ (by decide)
            have hmu2 : mu M.length (uE (uE e p (e p + 1)) (p + 1) 0) (p + 2) = mu M.length (uE e p (e p + 1)) (p + 1) + 9 * 10 ^ (M.length - 1 - (p + 1)) := by
              show mu M.length (uE (uE e p (e p + 1)) (p + 1) 0) (p + 1) + (9 - uE (uE e p (e p + 1)) (p + 1) 0 (p + 1)) * _ = _
              rw [uE_self, mu_congr hc0]
            have hrem2 : Rem d M (uE (uE e p (e p + 1)) (p + 1) 0) (p + 2) = blockE d M (uE e p (e p + 1)) (p + 1) 0 ++ (blockE d M e p (e p + 1) ++ Rem d M e p) := by
              rw [← hrem']
              show blockE d M (uE (uE e p (e p + 1)) (p + 1) 0) (p + 1) (uE (uE e p (e p + 1)) (p + 1) 0 (p + 1)) ++ Rem d M (uE (uE e p (e p + 1)) (p + 1) 0) (p + 1) = _
              rw [uE_self, blockE_congr hc0, Rem_congr hc0]
            obtain ⟨q', g1, g2⟩ := ih (p + 2) (uE (uE e p (e p + 1)) (p + 1) 0) (sa (sa q 10 p (nI (e p))) 10 (p + 1) (-1)) (hR.same hq2.same) (hq2.mb hB) (by omega) (fun j hj => by
              by_cases hjp : j = p + 1
              · subst hjp; rw [uE_self]; omega
              · rw [uE_ne hjp]; exact hle j (by omega)) (fun j hj => by rw [uE_ne (by omega)]; exact hge j (by omega)) (fun j hj => by
              rw [ar_sa, if_pos rfl]
              by_cases hjp : j = p + 1
              · subst hjp; rw [if_pos rfl, uE_self]; rfl
              · rw [if_neg hjp, uE_ne hjp]; exact hce j (by omega)) (by omega)
            rw [nI_p, hrem2] at g2
            rw [List.append_assoc]
            exact ⟨q', hq2.tr g1, g2⟩
end Dfs
