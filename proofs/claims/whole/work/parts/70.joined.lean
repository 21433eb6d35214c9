/-! joined, value -/
section Joined
variable {N : Nat} {d : DB} {s : Nat}
theorem map_get {M : List Nat} {E e : Nat → Nat} (h : M.map E = preE e M.length) {j : Nat} (hj : j < M.length) : E (mj M j) = e j - 1 := by
  have h1 : (M.map E)[j]? = (preE e M.length)[j]? := by rw [h]
  unfold preE at h1
  rw [List.getElem?_map, List.getElem?_map, List.getElem?_range hj, List.getElem?_eq_getElem hj] at h1
  have h2 := Option.some.inj h1
  unfold mj
  rw [List.getD_eq_getElem?_getD, List.getElem?_eq_getElem hj]
  exact h2
theorem find_both {qC qM : SS} (hw : WF d) (hC : RC d qC) (hM : RMk d qM) (hN : 2 ^ 40 ≤ N) (hs1 : 1 ≤ s) (hs : s < 2 ^ dT d) (b : Int32) : ∃ qC' qM', frS qC qC' ∧ frJ qM qM' ∧ ((f3_find N (nI s) b qC = some (0, qC') ∧ f9_goTo N (nI s) b qM = some (0, qM')) ∨ ∃ E, f3_find N (nI s) b qC = some (1, qC') ∧ f9_goTo N (nI s) b qM = some (1, qM') ∧ FixE d s E 6 ∧ (∀ v, v < 6 → s.testBit v = true → ar qC' 15 v = nI (E v)) ∧ MB d (mem s) qM' ∧ ∀ j, j < (mem s).length → ar qM' 10 j = nI (E (mj (mem s) j))) := by
  by_cases hb : b < 0
  · obtain ⟨q1, r1, f1, -⟩ := c_allow (N := N) (q := qC) (by omega)
    refine ⟨q1, qM, f1.S, ⟨frT.rf, rfl, rfl⟩, Or.inl ⟨?_, ?_⟩⟩
    · unfold f3_find
      rw [r1, bd_s, if_pos hb]
    · unfold f9_goTo
      rw [if_neg]
      rw [show (0 : Int32) = nI 0 from rfl, geI (by decide)]
      rw [lt0_toInt] at hb
      omega
  · obtain ⟨K, hK, rfl⟩ := nI_of hb
    obtain ⟨qC', f1, hc⟩ := c_find (N := N) hw hC (by omega) hs hK
    obtain ⟨fl, qM', r2, f2, b2, cu⟩ := m_goTo hw hM hN hs1 hs hK
    refine ⟨qC', qM', f1, f2, ?_⟩
    rcases hc with ⟨c1, c2⟩ | ⟨E, c2, c3, c4, c5⟩
    · left
      refine ⟨c2, ?_⟩
      rcases cu with ⟨rfl, -⟩ | ⟨rfl, e, -, hd⟩
      · exact r2
      · exfalso
        rw [List.drop_eq_nil_of_le (show (jr d s).length ≤ K from c1)] at hd
        cases hd
    · right
      rcases cu with ⟨rfl, hd⟩ | ⟨rfl, e, hch, hd⟩
      · exfalso
        have h1 : ((jr d s).drop K)[0]? = (jr d s)[K]? := by rw [List.getElem?_drop, Nat.add_zero]
        rw [hd, c4] at h1
        cases h1
      · have h1 : ((jr d s).drop K)[0]? = (jr d s)[K]? := by rw [List.getElem?_drop, Nat.add_zero]
        rw [hd, c4] at h1
        have h2 : preE e (mem s).length = (mem s).map E := Option.some.inj h1
        refine ⟨E, c2, r2, c3, c5, b2, fun j hj => ?_⟩
        obtain ⟨a1, a2, a3⟩ := hch j hj
        rw [map_get h2.symm hj, a1]
        obtain ⟨x, hx⟩ : ∃ x, e j = x + 1 := ⟨e j - 1, by omega⟩
        rw [hx, nI_p, Nat.add_sub_cancel]
theorem mem_pos {t : Nat} (ht : t < 6) (hb : s.testBit t = true) : ∃ j, j < (mem s).length ∧ mj (mem s) j = t ∧ ∀ i, i < j → mj (mem s) i ≠ t := by
  have h1 : t ∈ mem s := mem_bit.mpr ⟨ht, hb⟩
  obtain ⟨j, hj, hjt⟩ := List.getElem_of_mem h1
  obtain ⟨f1, f2, f3, f4⟩ := ff_spec (fun i => decide (mj (mem s) i = t)) (mem s).length 0
  have hmj : mj (mem s) j = t := by
    unfold mj
    rw [List.getD_eq_getElem?_getD, List.getElem?_eq_getElem hj]
    exact hjt
  have hlt : ff (fun i => decide (mj (mem s) i = t)) 0 (mem s).length < (mem s).length := by
    rcases Nat.lt_or_ge (ff (fun i => decide (mj (mem s) i = t)) 0 (mem s).length) (mem s).length with z | z
    · exact z
    · have := of_decide_eq_false (f3 j (by omega) (by omega))
      exact absurd hmj this
  exact ⟨_, hlt, of_decide_eq_true (f4 (by omega)), fun i hi => of_decide_eq_false (f3 i (by omega) hi)⟩
theorem op_joined (hN : 2 ^ 40 ≤ N) : Op_joined N Sim := by
  rintro a b c qC qM ⟨d, hw, hC, hM, hH⟩
  have hT := hw.1
  unfold f8_joined f9_joined
  rcases member_both hw hC hM a c with ⟨s, t, hs1, hs, ht, hbit, rfl, rfl, r1, r2, r3⟩ | ⟨r1, r2⟩ | ⟨r1, r2, r3⟩
  · obtain ⟨qC', qM', f1, f2, hh⟩ := find_both hw hC hM hN hs1 hs b
    have hl6 : (mem s).length ≤ 6 := memTo_len s 6
    rw [r1, bd_s, if_pos rfl, r2, bd_s, if_neg (show ¬ (1 : Int32) = 0 by decide), r3, bd_s, if_neg (show ¬ (1 : Int32) = 0 by decide)]
    rcases hh with ⟨h1, h2⟩ | ⟨E, h1, h2, h3, h4, h5, h6⟩
    · exact ⟨-1, qC', qM', by rw [h1, bd2_s, if_pos rfl], by rw [h2, bd2_s, if_pos rfl], d, hw, hC.same f1.same, hM.same f2.same, hH.same f2.same⟩
    · refine ⟨nI (E t), qC', qM', ?_, ?_, d, hw, hC.same f1.same, hM.same f2.same, hH.same f2.same⟩
      · unfold f3_rowFound
        rw [h1, bd2_s, if_neg (show ¬ (1 : Int32) = 0 by decide), if_neg (show ¬ nI t < 0 from nI_nlt (b := 0) (Nat.zero_le _) (by omega)), if_neg (show ¬ (6 : Int32) ≤ nI t from nI_ge (b := 6) (by omega) (by decide)), ck_nI (by omega) (by decide), ix_nI (by omega), h4 t (by omega) hbit, bd_s]
      · rw [h2, bd2_s, if_neg (show ¬ (1 : Int32) = 0 by decide)]
        obtain ⟨j, hj, hjt, hji⟩ := mem_pos (s := s) (show t < 6 by omega) hbit
        have hok := okM_mem hw hs1 hs
        refine loop_run (fun n (p : Int32 × Int32 × SS) => f9_joined_l37 N n p.1 p.2.1 p.2.2) (fun k p => f9_joined_l37_B N (fun x1 x2 x3 => k (x1, x2, x3)) p.1 p.2.1 p.2.2) (fun n p => rfl) (fun i => (nI t, nI i, qM')) j _ (c := 0) ?_ ?_ N 0 (Nat.le_refl _) (Nat.zero_le _) (by omega)
        · intro i _ hi k
          have h7 := hok.2.2 i (by omega)
          dsimp only
          unfold f9_joined_l37_B
          rw [ck_nI (by omega) (by decide), ix_nI (by omega), h5.2 i (by omega), if_neg (fun e => hji i hi ((nI_eq (by omega) (by omega)).mp e)), nI_s, bn_e]
        · intro k
          dsimp only
          unfold f9_joined_l37_B
          rw [ck_nI (by omega) (by decide), ix_nI (by omega), h5.2 j hj, hjt, if_pos rfl, ck_nI (by omega) (by decide), h6 j hj, hjt]
  · refine ⟨-102, _, _, ?_, ?_, d, hw, hC, hM, hH⟩
    · rw [r1, bd_s, if_neg (by decide)]
    · rw [r2, bd_s, if_pos rfl]
  · refine ⟨-101, _, _, ?_, ?_, d, hw, hC, hM, hH⟩
    · rw [r1, bd_s, if_neg (by decide)]
    · rw [r2, bd_s, if_neg (show ¬ (1 : Int32) = 0 by decide), r3, bd_s, if_pos rfl]
end Joined
