/-! counting joined rows, going to one -/
section Count
variable {N : Nat} {d : DB} {q : SS} {M : List Nat}
def memTo (s u : Nat) : List Nat := (List.range u).filter (fun t => s.testBit t)
theorem memTo_s (s u : Nat) : memTo s (u + 1) = memTo s u ++ (if s.testBit u then [u] else []) := by
  unfold memTo
  rw [List.range_succ, List.filter_append]
  congr 1
  cases h : s.testBit u
  · rw [List.filter_cons_of_neg (by rw [h]; decide)]; rfl
  · rw [List.filter_cons_of_pos (by rw [h])]; rfl
theorem memTo_T {s n : Nat} (hs : s < 2 ^ n) : ∀ m, memTo s (n + m) = memTo s n
  | 0 => rfl
  | m + 1 => by
    have hb : s.testBit (n + m) = false := Nat.testBit_lt_two_pow (Nat.lt_of_lt_of_le hs (Nat.pow_le_pow_right (by decide) (by omega)))
    show memTo s ((n + m) + 1) = _
    rw [memTo_s, hb, memTo_T hs m]
    exact List.append_nil _
theorem mem_T (hw : WF d) {s : Nat} (hs : s < 2 ^ dT d) : memTo s (dT d) = mem s := by
  have hT := hw.1
  have := memTo_T hs (6 - dT d)
  rw [show dT d + (6 - dT d) = 6 by omega] at this
  exact this.symm
theorem mj_left {A B : List Nat} {j : Nat} (h : j < A.length) : mj (A ++ B) j = mj A j := by
  unfold mj
  rw [List.getD_eq_getElem?_getD, List.getD_eq_getElem?_getD, List.getElem?_append_left h]
theorem mj_last (A : List Nat) (u : Nat) : mj (A ++ [u]) A.length = u := by
  unfold mj
  rw [List.getD_eq_getElem?_getD, List.getElem?_append_right (Nat.le_refl _), Nat.sub_self]
  rfl
theorem mj_mem {A : List Nat} {j : Nat} (h : j < A.length) : mj A j ∈ A := by
  unfold mj
  rw [List.getD_eq_getElem?_getD, List.getElem?_eq_getElem h]
  exact List.getElem_mem h
theorem memTo_len (s : Nat) : ∀ u, (memTo s u).length ≤ u
  | 0 => Nat.le_refl _
  | u + 1 => by
    have := memTo_len s u
    rw [memTo_s, List.length_append]
    cases s.testBit u
    · exact Nat.le_succ_of_le this
    · exact Nat.succ_le_succ this
theorem mem_bit {s t : Nat} : t ∈ mem s ↔ t < 6 ∧ s.testBit t = true := by
  unfold mem
  rw [List.mem_filter, List.mem_range]
theorem okM_mem (hw : WF d) {s : Nat} (hs1 : 1 ≤ s) (hs : s < 2 ^ dT d) : okM d (mem s) := by
  refine ⟨?_, memTo_len s 6, fun j hj => ?_⟩
  · have key : ∀ s : Fin 64, 1 ≤ s.1 → 1 ≤ (mem s.1).length := by decide +kernel
    exact key ⟨s, s_lt hw hs⟩ hs1
  · exact bit_lt hs (mem_bit.mp (mj_mem hj)).2
/-- only the search's own cells change -/
def frT (q q' : SS) : Prop := (∀ j, j ≠ 3 → j ≠ 4 → fi q' j = fi q j) ∧ ∀ k, k ≠ 8 → k ≠ 9 → k ≠ 10 → ar q' k = ar q k
theorem frT.rf {q : SS} : frT q q := ⟨fun _ _ _ => rfl, fun _ _ _ _ => rfl⟩
theorem frT.tr {a b c : SS} (h : frT a b) (g : frT b c) : frT a c := ⟨fun k h1 h2 => (g.1 k h1 h2).trans (h.1 k h1 h2), fun k h1 h2 h3 => (g.2 k h1 h2 h3).trans (h.2 k h1 h2 h3)⟩
theorem frT.rm {a b : SS} (h : frT a b) (m : RMk d a) : RMk d b := by
  obtain ⟨m0, m1, m2, m3, m4, m5, m6, m7, m8⟩ := m
  exact ⟨by rw [h.1 0 (by decide) (by decide)]; exact m0, by rw [h.1 1 (by decide) (by decide)]; exact m1, by rw [h.1 2 (by decide) (by decide)]; exact m2, by rw [h.1 5 (by decide) (by decide)]; exact m3, by rw [h.1 12 (by decide) (by decide)]; exact m4, fun u hu => by rw [h.2 1 (by decide) (by decide) (by decide), h.2 2 (by decide) (by decide) (by decide)]; exact m5 u hu, fun u hu => by rw [h.2 3 (by decide) (by decide) (by decide)]; exact m6 u hu, fun u i l hu hi hl hb => by rw [h.2 4 (by decide) (by decide) (by decide)]; exact m7 u i l hu hi hl hb, fun k hk => by rw [h.2 11 (by decide) (by decide) (by decide)]; exact m8 k hk⟩
/-- the same, and the cache too is left alone -/
def frJ (q q' : SS) : Prop := frT q q' ∧ fi q' 3 = fi q 3 ∧ ar q' 8 = ar q 8
theorem frJ.tr {a b c : SS} (h : frJ a b) (g : frJ b c) : frJ a c := ⟨h.1.tr g.1, g.2.1.trans h.2.1, g.2.2.trans h.2.2⟩
theorem fr10.frJ {a b : SS} (h : fr10 a b) : frJ a b := ⟨⟨fun j _ _ => h.1 j, fun k _ _ h3 => h.2 k h3⟩, h.1 3, h.2 8 (by decide)⟩
theorem frJ.same {a b : SS} (h : frJ a b) : sameM a b := ⟨fun k hk => by
  by_cases h3 : k = 3
  · subst h3; exact h.2.1
  · exact h.1.1 k h3 (by omega), fun k hk => by
  by_cases h8 : k = 8
  · subst h8; exact h.2.2
  · exact h.1.2 k h8 (by omega) (by omega)⟩
def CHN (d : DB) (M : List Nat) (e : Nat → Nat) (q : SS) : Prop := ∀ j, j < M.length → ar q 10 j = nI (e j) - 1 ∧ 1 ≤ e j ∧ e j ≤ dR d (mj M j)
/-- the search stands on the first of the rows l, or l is empty -/
def Cur (d : DB) (M : List Nat) (l : List (List Nat)) (fl : Int32) (q : SS) : Prop := (fl = 0 ∧ l = []) ∨ (fl = 1 ∧ ∃ e, CHN d M e q ∧ l = preE e M.length :: Rem d M e M.length)
theorem mu_N (hM : okM d M) (e : Nat → Nat) {P : Nat} (hP : P ≤ M.length) : mu M.length e P < 10 ^ 6 := by
  have h1 := mu_lt M.length e P hP
  have h2 : 10 ^ M.length ≤ 10 ^ 6 := Nat.pow_le_pow_right (by decide) hM.2.1
  have h3 : 1 ≤ 10 ^ (M.length - P) := Nat.one_le_pow _ _ (by decide)
  omega
theorem m_nextJoined (hw : WF d) (hM : okM d M) (hN : 2 ^ 40 ≤ N) (h : RMk d q) (hB : MB d M q) {e : Nat → Nat} (hc : CHN d M e q) : ∃ fl q', fr10 q q' ∧ f9_nextJoined N (fi q 4 - 1) q = some (fl, q') ∧ Cur d M (Rem d M e M.length) fl q' := by
  have h1 := mu_N hM e (Nat.le_refl _)
  obtain ⟨q', g1, g2⟩ := m_next_row (N := N) hw hM (by omega) N M.length e q h hB (Nat.le_refl _) (fun j hj => (hc j hj).2.2) (fun j hj => (hc j (by omega)).2.1) (fun j hj => (hc j hj).1) (by omega)
  rw [hB.1]
  rcases g2 with ⟨g2, g3⟩ | ⟨e', g2, g3, g4⟩
  · exact ⟨0, q', g1, g3, Or.inl ⟨rfl, g2⟩⟩
  · exact ⟨1, q', g1, g2, Or.inr ⟨rfl, e', g3, g4⟩⟩
theorem m_takeMembers (hw : WF d) (h : RMk d q) {s : Nat} (hN : 1000 ≤ N) (hs : s < 2 ^ dT d) : ∃ q', f9_takeMembers N (nI s) q = some q' ∧ frJ q q' ∧ MB d (mem s) q' := by
  have hT := hw.1
  have hs6 := s_lt hw hs
  obtain ⟨q', ⟨g1, g2, g3⟩, hrun⟩ := loop_st (fun n (p : Int32 × Int32 × SS) => f9_takeMembers_l7 N n p.1 p.2.1 p.2.2) (fun k p => f9_takeMembers_l7_B N (fun x1 x2 x3 => k (x1, x2, x3)) p.1 p.2.1 p.2.2) (fun n p => rfl) (fun u q => (nI s, nI u, q)) (fun u q' => frJ q q' ∧ fi q' 4 = nI (memTo s u).length ∧ ∀ j, j < (memTo s u).length → ar q' 9 j = nI (mj (memTo s u) j)) 0 (dT d) (fun q' => some q') (by
    rintro u q1 - hu ⟨g1, g2, g3⟩
    have e1 := bit_nI (a := s) (b := u) (by omega) (by omega)
    have hlen := memTo_len s u
    have e0 : fi q1 0 = nI (dT d) := by rw [g1.1.1 0 (by decide) (by decide)]; exact h.1
    rw [memTo_s]
    cases hbit : s.testBit u
    · refine ⟨q1, ⟨g1, ?_, fun j hj => ?_⟩, fun k => ?_⟩
      · rw [if_neg Bool.false_ne_true, List.append_nil]; exact g2
      · rw [if_neg Bool.false_ne_true, List.append_nil] at hj ⊢; exact g3 j hj
      · dsimp only
        unfold f9_takeMembers_l7_B f9_takeMembers_b44
        rw [e0, if_neg (nI_ge hu (by omega)), e1, hbit, if_neg (show ¬ nI (false).toNat = 1 by decide), nI_s, bn_e]
    · refine ⟨sf (sa q1 9 (memTo s u).length (nI u)) 4 (nI ((memTo s u).length + 1)), ⟨⟨⟨fun j h1 h2 => ?_, fun k h1 h2 h3 => ?_⟩, ?_, ?_⟩, ?_, fun j hj => ?_⟩, fun k => ?_⟩
      · rw [fi_sf, if_neg h2, fi_sa]; exact g1.1.1 j h1 h2
      · funext m
        rw [ar_sf, ar_sa, if_neg h2, g1.1.2 k h1 h2 h3]
      · rw [fi_sf, if_neg (by decide), fi_sa]; exact g1.2.1
      · funext m
        rw [ar_sf, ar_sa, if_neg (by decide), g1.2.2]
      · rw [if_pos rfl, List.length_append]; rfl
      · rw [if_pos rfl, List.length_append] at hj
        have hj : j < (memTo s u).length + 1 := hj
        rw [ar_sf, ar_sa, if_pos rfl, if_pos (show true = true from rfl)]
        by_cases hjl : j = (memTo s u).length
        · rw [if_pos hjl, hjl, mj_last]
        · rw [if_neg hjl, mj_left (by omega)]; exact g3 j (by omega)
      · dsimp only
        unfold f9_takeMembers_l7_B f9_takeMembers_b44
        rw [e0, if_neg (nI_ge hu (by omega)), e1, hbit, if_pos (show nI (true).toNat = 1 from rfl), g2, ck_nI (by omega) (by decide), ix_nI (by omega), bn_e, fi_sa, g2, nI_s, bn_e, nI_s, bn_e]) (by
    rintro q1 ⟨g1, -⟩ k
    have e0 : fi q1 0 = nI (dT d) := by rw [g1.1.1 0 (by decide) (by decide)]; exact h.1
    dsimp only
    unfold f9_takeMembers_l7_B
    rw [e0, if_pos (nI_le (Nat.le_refl _) (by omega))]) N 0 (sf q 4 0) (by omega) (by omega) (by omega) ⟨⟨⟨fun j h1 h2 => by rw [fi_sf, if_neg h2], fun k _ _ _ => rfl⟩, rfl, rfl⟩, rfl, fun j hj => absurd hj (by show ¬ j < 0; omega)⟩
  rw [mem_T hw hs] at g2 g3
  exact ⟨q', hrun, g1, g2, g3⟩
theorem Rem_1 (hM : 1 ≤ M.length) : Rem d M (fun _ => 0) 1 = enumF (dL d) (dR d) (dV d) M [] := by
  show blockE d M (fun _ => 0) 0 0 ++ [] = _
  rw [List.append_nil]
  have hd := drop_c (M := M) (p := 0) (by omega)
  rw [List.drop_zero] at hd
  unfold blockE
  rw [Nat.sub_zero, ← List.range_eq_range']
  conv => rhs; rw [hd]
  show _ = (List.range (dR d (mj M 0))).flatMap _
  congr 1
theorem m_firstJoined (hw : WF d) (h : RMk d q) {s : Nat} (hN : 2 ^ 40 ≤ N) (hs1 : 1 ≤ s) (hs : s < 2 ^ dT d) : ∃ fl q', f9_firstJoined N (nI s) q = some (fl, q') ∧ frJ q q' ∧ MB d (mem s) q' ∧ Cur d (mem s) (jr d s) fl q' := by
  have hM := okM_mem hw hs1 hs
  obtain ⟨q1, r1, f1, b1⟩ := m_takeMembers (N := N) hw h (by omega) hs
  have f2 : fr10 q1 (sa q1 10 0 (-1)) := fr10.rf.sa _ _
  have h1 := mu_N hM (fun _ => 0) hM.1
  obtain ⟨q', g1, g2⟩ := m_next_row (N := N) hw hM (by omega) N 1 (fun _ => 0) (sa q1 10 0 (-1)) ((f2.frJ.1).rm (f1.1.rm h)) (f2.mb b1) hM.1 (fun j hj => Nat.zero_le _) (fun j hj => by omega) (fun j hj => by
    rw [ar_sa, if_pos rfl, if_pos (by omega)]; rfl) (by omega)
  rw [Rem_1 hM.1] at g2
  unfold f9_firstJoined
  rw [r1, bd_s, bn_e]
  rcases g2 with ⟨g2, g3⟩ | ⟨e', g2, g3, g4⟩
  · refine ⟨0, q', ?_, (f1.tr f2.frJ).tr g1.frJ, g1.mb (f2.mb b1), Or.inl ⟨rfl, g2⟩⟩
    show bd2 (f9_nextJoined_l2 N N 0 (sa q1 10 0 (-1))) _ = _
    rw [show (0 : Int32) = nI 1 - 1 from rfl, g3, bd2_s]
    exact cz_0
  · refine ⟨1, q', ?_, (f1.tr f2.frJ).tr g1.frJ, g1.mb (f2.mb b1), Or.inr ⟨rfl, e', g3, g4⟩⟩
    show bd2 (f9_nextJoined_l2 N N 0 (sa q1 10 0 (-1))) _ = _
    rw [show (0 : Int32) = nI 1 - 1 from rfl, g2, bd2_s]
    exact cz_1
end Count
