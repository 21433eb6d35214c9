/-! the reference's true sizes -/
section TrueSize
variable {N : Nat} {d : DB} {q : SS} {M : List Nat}
theorem flatMap_len {α β : Type} (f : α → List β) (c : Nat) : ∀ (l : List α), (∀ x, x ∈ l → (f x).length ≤ c) → (l.flatMap f).length ≤ l.length * c
  | [], _ => by simp
  | x :: l, h => by
    have h1 := flatMap_len f c l (fun y hy => h y (List.mem_cons_of_mem _ hy))
    have h2 := h x (List.mem_cons_self ..)
    rw [List.flatMap_cons, List.length_append, List.length_cons, Nat.succ_mul]
    omega
theorem enum_len (hw : WF d) : ∀ (ts : List Nat) (pre : List (Nat × Nat)), (enumF (dL d) (dR d) (dV d) ts pre).length ≤ 8 ^ ts.length
  | [], _ => Nat.le_refl _
  | t :: ts, pre => by
    have h1 := flatMap_len (fun i => if pre.all (fun p => fitL (dL d) (dV d) p.1 p.2 t i) then (enumF (dL d) (dR d) (dV d) ts (pre ++ [(t, i)])).map (fun z => i :: z) else []) (8 ^ ts.length) (List.range (dR d t)) (fun i _ => by
      split
      · rw [List.length_map]; exact enum_len hw ts _
      · exact Nat.zero_le _)
    rw [List.length_range] at h1
    have h2 : dR d t * 8 ^ ts.length ≤ 8 * 8 ^ ts.length := Nat.mul_le_mul_right _ (R8 hw t)
    show (List.flatMap _ _).length ≤ 8 ^ (ts.length + 1)
    rw [Nat.pow_succ]
    omega
theorem tsz_le (hw : WF d) (s : Nat) : tsz d s ≤ 262144 := by
  have h1 := enum_len hw (mem s) []
  have h2 : 8 ^ (mem s).length ≤ 8 ^ 6 := Nat.pow_le_pow_right (by decide) (memTo_len s 6)
  show (enumF (dL d) (dR d) (dV d) (mem s) []).length ≤ _
  omega
theorem m_count_loop (hw : WF d) (hM : okM d M) (hN : 2 ^ 40 ≤ N) {s : Nat} (hs : s < 64) : ∀ (f : Nat) (l : List (List Nat)) (k : Nat) (fl : Int32) (q : SS), RMk d q → MB d M q → Cur d M l fl q → l.length < f → ∃ q', fr10 q q' ∧ ∀ bk, f9_countAll_l27 N bk f (nI s) (nI k) fl q = bk (nI (s + 1)) (sa q' 8 s (nI (k + l.length))) := by
  intro f
  induction f with
  | zero => intro l k fl q _ _ _ h; omega
  | succ f ih =>
    intro l k fl q hR hB hC hl
    have hunf : ∀ bk, f9_countAll_l27 N bk (f + 1) (nI s) (nI k) fl q = f9_countAll_l27_B N bk (f9_countAll_l27 N bk f) (nI s) (nI k) fl q := fun _ => rfl
    rcases hC with ⟨rfl, rfl⟩ | ⟨rfl, e, hc, rfl⟩
    · refine ⟨q, fr10.rf, fun bk => ?_⟩
      rw [hunf]
      unfold f9_countAll_l27_B
      rw [if_pos rfl, ck_nI hs (by decide), ix_nI (by omega), bn_e, nI_s, bn_e]
      rfl
    · obtain ⟨fl, q1, g1, g2, g3⟩ := m_nextJoined hw hM hN hR hB hc
      obtain ⟨q', k1, k2⟩ := ih (Rem d M e M.length) (k + 1) fl q1 (g1.frJ.1.rm hR) (g1.mb hB) g3 (by rw [List.length_cons] at hl; omega)
      refine ⟨q', g1.tr k1, fun bk => ?_⟩
      rw [hunf]
      unfold f9_countAll_l27_B
      rw [if_neg (show ¬ (1 : Int32) = 0 by decide), nI_s, bn_e, g2, bd2_s, k2 bk, List.length_cons, show k + 1 + (Rem d M e M.length).length = k + ((Rem d M e M.length).length + 1) by omega]
theorem m_countAll (hw : WF d) (h : RMk d q) (hH : CH d q) (hN : 2 ^ 40 ≤ N) : ∃ q', f9_countAll N q = some q' ∧ frT q q' ∧ fi q' 3 = 1 ∧ ∀ s, 1 ≤ s → s < 2 ^ dT d → ar q' 8 s = nI (tsz d s) := by
  have hT := hw.1
  have h2 := two_pow_T hw
  have h21 := two_pow_T1 hw
  rcases hH with h3 | ⟨h3, h8⟩
  · obtain ⟨q', ⟨g1, g2, g3⟩, hrun⟩ := loop_st (fun n (p : Int32 × SS) => f9_countAll_l2 N n p.1 p.2) (fun k p => f9_countAll_l2_B N (fun x1 x2 => k (x1, x2)) p.1 p.2) (fun n p => rfl) (fun s q => (nI s, q)) (fun s q' => frT q q' ∧ fi q' 3 = 0 ∧ ∀ s', 1 ≤ s' → s' < s → ar q' 8 s' = nI (tsz d s')) 1 (2 ^ dT d) (fun q' => some (sf q' 3 1)) (by
      rintro s q1 hs1 hs ⟨g1, g2, g3⟩
      have hR := g1.rm h
      have hM := okM_mem hw hs1 hs
      obtain ⟨fl, q2, r1, f1, b1, c1⟩ := m_firstJoined hw hR hN hs1 hs
      have hlen := tsz_le hw s
      obtain ⟨q3, k1, k2⟩ := m_count_loop (N := N) hw hM hN (show s < 64 by omega) N (jr d s) 0 fl q2 (f1.1.rm hR) b1 c1 (by have : (jr d s).length = tsz d s := rfl; omega)
      have f3 := f1.tr k1.frJ
      refine ⟨sa q3 8 s (nI (tsz d s)), ⟨⟨fun j a b => ?_, fun k a b c => ?_⟩, ?_, fun s' a b => ?_⟩, fun kk => ?_⟩
      · rw [fi_sa]; exact (g1.tr f3.1).1 j a b
      · funext m
        rw [ar_sa, if_neg a, (g1.tr f3.1).2 k a b c]
      · rw [fi_sa, f3.2.1]; exact g2
      · rw [ar_sa, if_pos rfl]
        by_cases hss : s' = s
        · rw [if_pos hss, hss]
        · rw [if_neg hss, f3.2.2]; exact g3 s' a (by omega)
      · dsimp only
        unfold f9_countAll_l2_B
        rw [hR.1, shl1_T hw, if_neg (nI_ge hs (by omega)), g2, if_pos rfl, r1, bd2_s]
        refine (k2 _).trans ?_
        rw [Nat.zero_add]
        rfl) (by
      rintro q1 ⟨g1, -⟩ kk
      have hR := g1.rm h
      dsimp only
      unfold f9_countAll_l2_B f9_countAll_b61
      rw [hR.1, shl1_T hw, if_pos (nI_le (Nat.le_refl _) (by omega)), bn_e]) N 1 q (by omega) (by omega) (by omega) ⟨frT.rf, h3, fun s' a b => by omega⟩
    exact ⟨sf q' 3 1, hrun, ⟨fun j a b => by rw [fi_sf, if_neg a]; exact g1.1 j a b, g1.2⟩, rfl, fun s a b => g3 s a b⟩
  · refine ⟨sf q 3 1, ?_, ⟨fun j a b => by rw [fi_sf, if_neg a], fun _ _ _ _ => rfl⟩, rfl, h8⟩
    obtain ⟨n, hn⟩ : ∃ n, N = n + 1 := ⟨N - 1, by omega⟩
    unfold f9_countAll
    conv => lhs; rw [hn]
    show f9_countAll_l2_B (n + 1) (f9_countAll_l2 (n + 1) n) 1 q = _
    unfold f9_countAll_l2_B f9_countAll_b61
    rw [h3, if_neg (show ¬ (1 : Int32) = 0 by decide), bn_e]
    split <;> rfl
theorem m_trueSize (hw : WF d) (h : RMk d q) (hH : CH d q) {s : Nat} (hN : 2 ^ 40 ≤ N) (hs1 : 1 ≤ s) (hs : s < 2 ^ dT d) : ∃ q', f9_trueSize N (nI s) q = some (nI (tsz d s), q') ∧ frT q q' ∧ CH d q' := by
  have h2 := two_pow_T hw
  obtain ⟨q', g1, g2, g3, g4⟩ := m_countAll hw h hH hN
  refine ⟨q', ?_, g2, Or.inr ⟨g3, g4⟩⟩
  unfold f9_trueSize
  rw [g1, bd_s, ck_nI (by omega) (by decide), ix_nI (by omega), g4 s hs1 hs]
theorem m_go_loop (hw : WF d) (hM : okM d M) (hN : 2 ^ 40 ≤ N) {K : Nat} (hK : K < 2 ^ 31) : ∀ (f : Nat) (l : List (List Nat)) (k : Nat) (fl : Int32) (q : SS), k ≤ K → RMk d q → MB d M q → Cur d M l fl q → l.length < f → ∃ fl' q', fr10 q q' ∧ f9_goTo_l15 N f (nI K) fl (nI k) q = some (fl', q') ∧ Cur d M (l.drop (K - k)) fl' q' := by
  intro f
  induction f with
  | zero => intro l k fl q _ _ _ _ h; omega
  | succ f ih =>
    intro l k fl q hk hR hB hC hl
    have hunf : f9_goTo_l15 N (f + 1) (nI K) fl (nI k) q = f9_goTo_l15_B N (f9_goTo_l15 N f) (nI K) fl (nI k) q := rfl
    by_cases hkK : k = K
    · subst hkK
      refine ⟨fl, q, fr10.rf, ?_, by rw [Nat.sub_self]; exact hC⟩
      rw [hunf]
      unfold f9_goTo_l15_B
      rw [if_pos (nI_le (Nat.le_refl _) hK)]
      rcases hC with ⟨rfl, -⟩ | ⟨rfl, -⟩
      · exact cz_0
      · exact cz_1
    · rcases hC with ⟨rfl, rfl⟩ | ⟨rfl, e, hc, rfl⟩
      · refine ⟨0, q, fr10.rf, ?_, Or.inl ⟨rfl, by rw [List.drop_nil]⟩⟩
        rw [hunf]
        unfold f9_goTo_l15_B
        rw [if_neg (nI_ge (by omega) hK), if_pos rfl]
        exact cz_0
      · obtain ⟨fl, q1, g1, g2, g3⟩ := m_nextJoined hw hM hN hR hB hc
        obtain ⟨fl', q', k1, k2, k3⟩ := ih (Rem d M e M.length) (k + 1) fl q1 (by omega) (g1.frJ.1.rm hR) (g1.mb hB) g3 (by rw [List.length_cons] at hl; omega)
        refine ⟨fl', q', g1.tr k1, ?_, ?_⟩
        · rw [hunf]
          unfold f9_goTo_l15_B
          rw [if_neg (nI_ge (by omega) hK), if_neg (show ¬ (1 : Int32) = 0 by decide), g2, bd2_s, nI_s, bn_e, k2]
        · rw [show K - k = (K - (k + 1)) + 1 by omega, List.drop_succ_cons]
          exact k3
theorem m_goTo (hw : WF d) (h : RMk d q) {s : Nat} (hN : 2 ^ 40 ≤ N) (hs1 : 1 ≤ s) (hs : s < 2 ^ dT d) {K : Nat} (hK : K < 2 ^ 31) : ∃ fl q', f9_goTo N (nI s) (nI K) q = some (fl, q') ∧ frJ q q' ∧ MB d (mem s) q' ∧ Cur d (mem s) ((jr d s).drop K) fl q' := by
  have hM := okM_mem hw hs1 hs
  obtain ⟨fl, q2, r1, f1, b1, c1⟩ := m_firstJoined hw h hN hs1 hs
  have hlen := tsz_le hw s
  obtain ⟨fl', q3, k1, k2, k3⟩ := m_go_loop (N := N) hw hM hN hK N (jr d s) 0 fl q2 (Nat.zero_le _) (f1.1.rm h) b1 c1 (by have : (jr d s).length = tsz d s := rfl; omega)
  refine ⟨fl', q3, ?_, f1.tr k1.frJ, k1.mb b1, by rw [Nat.sub_zero] at k3; exact k3⟩
  unfold f9_goTo
  rw [if_pos (show (0 : Int32) ≤ nI K from nI_le (a := 0) (Nat.zero_le _) hK), r1, bd2_s]
  exact k2
end TrueSize
