/-! idle -/
section Idle
variable {N : Nat} {d : DB} {s : Nat} {A : Nat → Nat}
theorem enumF_lt : ∀ (ts : List Nat) (pre : List (Nat × Nat)) (x : List Nat), x ∈ enumF (dL d) (dR d) (dV d) ts pre → ∀ j, j < ts.length → mj x j < dR d (mj ts j)
  | [], _, _, _, j, hj => absurd hj (Nat.not_lt_zero _)
  | t :: ts, pre, x, hx, j, hj => by
    have hx : x ∈ List.flatMap _ _ := hx
    obtain ⟨i, hi, hx⟩ := List.mem_flatMap.mp hx
    by_cases hf : (pre.all (fun p => fitL (dL d) (dV d) p.1 p.2 t i)) = true
    · rw [if_pos hf] at hx
      obtain ⟨z, hz, rfl⟩ := List.mem_map.mp hx
      cases j with
      | zero => exact List.mem_range.mp hi
      | succ j => exact enumF_lt ts _ z hz j (Nat.lt_of_succ_lt_succ hj)
    · rw [if_neg hf] at hx
      cases hx
theorem enumA_mem : ∀ (ts : List Nat) (pre : List (Nat × Nat)) (x : List Nat), x ∈ enumA d A ts pre ↔ x ∈ enumF (dL d) (dR d) (dV d) ts pre ∧ ∀ j, j < ts.length → (A (mj ts j)).testBit (mj x j) = true
  | [], _, x => ⟨fun h => ⟨h, fun j hj => absurd hj (Nat.not_lt_zero _)⟩, fun h => h.1⟩
  | t :: ts, pre, x => by
    constructor
    · intro h
      have h : x ∈ List.flatMap _ _ := h
      obtain ⟨i, hi, hx⟩ := List.mem_flatMap.mp h
      by_cases hf : (A t).testBit i = true ∧ fitP d pre t i = true
      · rw [if_pos hf] at hx
        obtain ⟨z, hz, rfl⟩ := List.mem_map.mp hx
        obtain ⟨h1, h2⟩ := (enumA_mem ts _ z).mp hz
        refine ⟨List.mem_flatMap.mpr ⟨i, hi, ?_⟩, fun j hj => ?_⟩
        · rw [if_pos (show (pre.all (fun p => fitL (dL d) (dV d) p.1 p.2 t i)) = true from hf.2)]
          exact List.mem_map.mpr ⟨z, h1, rfl⟩
        · cases j with
          | zero => exact hf.1
          | succ j => exact h2 j (Nat.lt_of_succ_lt_succ hj)
      · rw [if_neg hf] at hx
        cases hx
    · rintro ⟨h, hA⟩
      have h : x ∈ List.flatMap _ _ := h
      obtain ⟨i, hi, hx⟩ := List.mem_flatMap.mp h
      by_cases hf : (pre.all (fun p => fitL (dL d) (dV d) p.1 p.2 t i)) = true
      · rw [if_pos hf] at hx
        obtain ⟨z, hz, rfl⟩ := List.mem_map.mp hx
        refine List.mem_flatMap.mpr ⟨i, hi, ?_⟩
        rw [if_pos (show (A t).testBit i = true ∧ fitP d pre t i = true from ⟨hA 0 (Nat.zero_lt_succ _), hf⟩)]
        exact List.mem_map.mpr ⟨z, (enumA_mem ts _ z).mpr ⟨hz, fun j hj => hA (j + 1) (Nat.succ_lt_succ hj)⟩, rfl⟩
      · rw [if_neg hf] at hx
        cases hx
theorem mem_inj (hs : s < 64) {j j' : Nat} (hj : j < (mem s).length) (hj' : j' < (mem s).length) (h : mj (mem s) j = mj (mem s) j') : j = j' := by
  have key : ∀ s : Fin 64, ∀ j j' : Fin 6, j.1 < (mem s.1).length → j'.1 < (mem s.1).length → mj (mem s.1) j.1 = mj (mem s.1) j'.1 → j.1 = j'.1 := by decide +kernel
  have h6 : (mem s).length ≤ 6 := memTo_len s 6
  exact key ⟨s, hs⟩ ⟨j, by omega⟩ ⟨j', by omega⟩ hj hj' h
def orm (p : Nat) : List (List Nat) → Nat → Nat
  | [], m => m
  | x :: l, m => orm p l (m ||| 2 ^ mj x p)
theorem orm_bit (p i : Nat) : ∀ (l : List (List Nat)) (m : Nat), (orm p l m).testBit i = true ↔ m.testBit i = true ∨ ∃ x, x ∈ l ∧ mj x p = i
  | [], m => ⟨fun h => Or.inl h, fun h => h.elim id (fun ⟨x, hx, _⟩ => absurd hx List.not_mem_nil)⟩
  | x :: l, m => by
    show (orm p l (m ||| 2 ^ mj x p)).testBit i = true ↔ _
    rw [orm_bit p i l, Nat.testBit_or, Bool.or_eq_true, pow_bit]
    constructor
    · rintro ((h | h) | ⟨y, hy, h⟩)
      · exact Or.inl h
      · exact Or.inr ⟨x, List.mem_cons_self .., h.symm⟩
      · exact Or.inr ⟨y, List.mem_cons_of_mem _ hy, h⟩
    · rintro (h | ⟨y, hy, h⟩)
      · exact Or.inl (Or.inl h)
      · rcases List.mem_cons.mp hy with rfl | hy
        · exact Or.inl (Or.inr h.symm)
        · exact Or.inr ⟨y, hy, h⟩
theorem orm_lt {p R : Nat} : ∀ (l : List (List Nat)) {m : Nat}, m < 2 ^ R → (∀ x, x ∈ l → mj x p < R) → orm p l m < 2 ^ R
  | [], _, hm, _ => hm
  | x :: l, _, hm, h => orm_lt l (Nat.or_lt_two_pow hm (Nat.pow_lt_pow_right (by decide) (h x (List.mem_cons_self ..)))) (fun y hy => h y (List.mem_cons_of_mem _ hy))
theorem orm_full {p R : Nat} {l : List (List Nat)} (h : ∀ x, x ∈ l → mj x p < R) : orm p l (2 ^ R - 1) = 2 ^ R - 1 := by
  apply Nat.eq_of_testBit_eq
  intro i
  rw [Bool.eq_iff_iff, orm_bit]
  constructor
  · rintro (z | ⟨x, hx, rfl⟩)
    · exact z
    · rw [Nat.testBit_two_pow_sub_one, decide_eq_true (h x hx)]
  · exact Or.inl
theorem preE_mj {e : Nat → Nat} {n p : Nat} (hp : p < n) : mj (preE e n) p = e p - 1 := by
  unfold mj preE
  rw [List.getD_eq_getElem?_getD, List.getElem?_map, List.getElem?_range hp]
  rfl
theorem m_idle_loop (hw : WF d) (hN : 2 ^ 40 ≤ N) {M : List Nat} (hM : okM d M) {t p : Nat} (hp : p < M.length) (hpt : mj M p = t) : ∀ (f : Nat) (l : List (List Nat)) (m : Nat) (fl : Int32) (q : SS), RMk d q → MB d M q → Cur d M l fl q → m < 2 ^ dR d t → (∀ x, x ∈ l → mj x p < dR d t) → l.length < f → ∃ q', fr10 q q' ∧ f9_idle_l52 N f (nI t) (nI m) fl (nI p) q = some (nI (dR d t - pc (orm p l m)), q') := by
  have hT := hw.1
  have htT : t < dT d := by rw [← hpt]; exact hM.2.2 p hp
  have hM6 := hM.2.1
  have hR := R8 hw t
  have hp8 := pow8 hR
  have hp1 : 1 ≤ 2 ^ dR d t := Nat.one_le_two_pow
  have hb98 : ∀ q m, RMk d q → m < 2 ^ dR d t → f9_idle_b98 N (nI t) (nI m) q = some (nI (dR d t - pc m), q) := fun q m hq hm => by
    unfold f9_idle_b98
    rw [ck_nI (by omega) (by decide), m_bitsOf (by omega) (by omega), bd_s, ix_nI (by omega), hq.2.2.2.2.2.2.1 t (by omega), pk_sub (pcR hR hm)]
  intro f
  induction f with
  | zero => intro l m fl q _ _ _ _ _ h; omega
  | succ f ih =>
    intro l m fl q hq hB hC hm hx hl
    have hunf : f9_idle_l52 N (f + 1) (nI t) (nI m) fl (nI p) q = f9_idle_l52_B N (f9_idle_l52 N f) (nI t) (nI m) fl (nI p) q := rfl
    rcases hC with ⟨rfl, rfl⟩ | ⟨rfl, e, hc, hle⟩
    · refine ⟨q, fr10.rf, ?_⟩
      rw [hunf]
      unfold f9_idle_l52_B
      rw [if_pos rfl, hb98 q m hq hm]
      rfl
    · have e3 := hq.2.2.2.2.2.2.1 t (by omega)
      have hfirst : f9_idle_l52_B N (f9_idle_l52 N f) (nI t) (nI m) 1 (nI p) q = if nI (2 ^ dR d t - 1) ≤ nI m then f9_idle_b98 N (nI t) (nI m) q else bd2 (f9_nextJoined N (fi q 4 - 1) q) fun r_90 q_90 => f9_idle_l52 N f (nI t) (nI (m ||| 2 ^ (e p - 1))) r_90 (nI p) q_90 := by
        obtain ⟨a1, a2, a3⟩ := hc p hp
        rw [hpt] at a3
        obtain ⟨y, hy⟩ : ∃ y, e p = y + 1 := ⟨e p - 1, by omega⟩
        have h2y : 2 ^ y ≤ 256 := pow8 (by omega)
        unfold f9_idle_l52_B
        rw [if_neg (show ¬ (1 : Int32) = 0 by decide), ck_nI (by omega) (by decide), ix_nI (by omega), e3, shl1 (by omega), show nI (2 ^ dR d t) - 1 = nI (2 ^ dR d t - 1) from by rw [li1, pk_sub hp1], ck_nI (by omega) (by decide), ix_nI (by omega), a1, hy, nI_p, shl1 (by omega), or_nI (by omega) (by omega), bn_e, Nat.add_sub_cancel]
      rw [hunf, hfirst]
      by_cases hfull : 2 ^ dR d t - 1 ≤ m
      · have hmm : m = 2 ^ dR d t - 1 := by omega
        refine ⟨q, fr10.rf, ?_⟩
        rw [if_pos (nI_le hfull (by omega)), hb98 q m hq hm, hmm, orm_full hx]
      · obtain ⟨fl, q1, g1, g2, g3⟩ := m_nextJoined hw hM hN hq hB hc
        have hxe : mj (preE e M.length) p = e p - 1 := preE_mj hp
        have hep : e p - 1 < dR d t := by rw [← hxe]; exact hx _ (by rw [hle]; exact List.mem_cons_self ..)
        obtain ⟨q', k1, k2⟩ := ih (Rem d M e M.length) (m ||| 2 ^ (e p - 1)) fl q1 (g1.frJ.1.rm hq) (g1.mb hB) g3 (Nat.or_lt_two_pow hm (Nat.pow_lt_pow_right (by decide) hep)) (fun x hx' => hx x (by rw [hle]; exact List.mem_cons_of_mem _ hx')) (by rw [hle, List.length_cons] at hl; omega)
        refine ⟨q', g1.tr k1, ?_⟩
        rw [if_neg (nI_ge (by omega) (by omega)), g2, bd2_s, k2, hle]
        show _ = some (nI (dR d t - pc (orm p (Rem d M e M.length) (m ||| 2 ^ mj (preE e M.length) p))), q')
        rw [hxe]
theorem op_idle (hN : 2 ^ 40 ≤ N) : Op_idle N Sim := by
  rintro a b qC qM ⟨d, hw, hC, hM, hH⟩
  have hT := hw.1
  unfold f8_idle f9_idle
  rcases member_both hw hC hM a b with ⟨s, t, hs1, hs, ht, hbit, rfl, rfl, r1, r2, r3⟩ | ⟨r1, r2⟩ | ⟨r1, r2, r3⟩
  · have hs6 := s_lt hw hs
    have hok := okM_mem hw hs1 hs
    have hR := R8 hw t
    have htz := tsz_le hw s
    obtain ⟨p, hp, hpt, hpi⟩ := mem_pos (s := s) (show t < 6 by omega) hbit
    obtain ⟨fl, qM1, m1, m2, m3, m4⟩ := m_firstJoined hw hM hN hs1 hs
    have hrows : ∀ x, x ∈ jr d s → mj x p < dR d t := fun x hx => by rw [← hpt]; exact enumF_lt _ _ x hx p hp
    obtain ⟨qM2, k1, k2⟩ := m_idle_loop hw hN hok hp hpt N (jr d s) 0 fl qM1 (m2.1.rm hM) m3 m4 (Nat.two_pow_pos _) hrows (by have : (jr d s).length = tsz d s := rfl; omega)
    have hFlt := orm_lt (p := p) (R := dR d t) (jr d s) (m := 0) (Nat.two_pow_pos _) hrows
    have hp8 := pow8 hR
    have hsumF : dR d t - pc (orm p (jr d s) 0) = bsum (fun i => if (orm p (jr d s) 0).testBit i then 0 else 1) (dR d t) := by
      have h1 := bsum8 (s := orm p (jr d s) 0) (by omega)
      have h2 := bsum_0 (f := fun k => ((orm p (jr d s) 0).testBit k).toNat) (n := dR d t) (8 - dR d t) (fun u hu => by
        rw [Nat.testBit_lt_two_pow (Nat.lt_of_lt_of_le hFlt (Nat.pow_le_pow_right (by decide) hu))]; rfl)
      rw [show dR d t + (8 - dR d t) = 8 by omega, h1] at h2
      have h3 := bsum_add (fun k => ((orm p (jr d s) 0).testBit k).toNat) (fun i => if (orm p (jr d s) 0).testBit i then 0 else 1) (dR d t)
      have h4 : bsum (fun i => ((orm p (jr d s) 0).testBit i).toNat + (if (orm p (jr d s) 0).testBit i then 0 else 1)) (dR d t) = bsum (fun _ => 1) (dR d t) := bsum_congr (fun i _ => by cases (orm p (jr d s) 0).testBit i <;> rfl)
      rw [h4, bsum_const] at h3
      omega
    obtain ⟨q1, al1, al2, al3⟩ := c_allow (N := N) (q := qC) (by omega)
    obtain ⟨qC', ⟨c1, -⟩, hrun⟩ := loop_st (fun n (p : Int32 × Int32 × Int32 × Int32 × SS) => f3_idleRows_l21 N n p.1 p.2.1 p.2.2.1 p.2.2.2.1 p.2.2.2.2) (fun k p => f3_idleRows_l21_B N (fun x1 x2 x3 x4 x5 => k (x1, x2, x3, x4, x5)) p.1 p.2.1 p.2.2.1 p.2.2.2.1 p.2.2.2.2) (fun n p => rfl) (fun i q => (nI s, nI t, nI (bsum (fun i => if (orm p (jr d s) 0).testBit i then 0 else 1) i), nI i, q)) (fun i q => frS qC q ∧ ∀ v, v < 6 → v ≠ t → ar q 12 v = nI 255) 0 (dR d t) (fun q => some (nI (bsum (fun i => if (orm p (jr d s) 0).testBit i then 0 else 1) (dR d t)), q)) (by
      rintro i q - hi ⟨c1, c2⟩
      have hi256 : 2 ^ i < 256 := Nat.pow_lt_pow_right (n := 8) (by decide) (by omega)
      have hq1 : frS qC (sa q 12 t (nI (2 ^ i))) := ⟨fun j => c1.1 j, fun k h1 h2 h3 h4 => by funext m; rw [ar_sa, if_neg h1, c1.2.1 k h1 h2 h3 h4], c1.2.2⟩
      obtain ⟨q2, e2, f2⟩ := c_counted (A := fun v => if v = t then 2 ^ i else 255) (N := N) hw (hC.same hq1.same) (by omega) hs (fun v => by split <;> omega) (fun v hv _ => by
        rw [ar_sa, if_pos rfl]
        by_cases hvt : v = t
        · rw [if_pos hvt, if_pos hvt]
        · rw [if_neg hvt, if_neg hvt]; exact c2 v (by omega) hvt)
      have hlen : (enumA d (fun v => if v = t then 2 ^ i else 255) (mem s) []).length ≤ 262144 := by
        have h1 := flatMap_len (α := Nat) (β := List Nat)
        refine Nat.le_trans ?_ htz
        have : ∀ (ts : List Nat) (pre : List (Nat × Nat)), (enumA d (fun v => if v = t then 2 ^ i else 255) ts pre).length ≤ (enumF (dL d) (dR d) (dV d) ts pre).length := by
          intro ts
          induction ts with
          | nil => intro pre; exact Nat.le_refl _
          | cons u ts ih =>
            intro pre
            show (List.flatMap _ _).length ≤ (List.flatMap _ _).length
            rw [len_flat, len_flat]
            refine bsum_le (fun r _ => ?_)
            by_cases hf : fitP d pre u r = true
            · rw [show (if pre.all (fun p => fitL (dL d) (dV d) p.1 p.2 u r) then (enumF (dL d) (dR d) (dV d) ts (pre ++ [(u, r)])).map (fun z => r :: z) else []) = (enumF (dL d) (dR d) (dV d) ts (pre ++ [(u, r)])).map (fun z => r :: z) from if_pos hf, List.length_map]
              split
              · rw [List.length_map]; exact ih _
              · exact Nat.zero_le _
            · rw [if_neg (fun z => hf z.2)]
              exact Nat.zero_le _
        exact this _ _
      have hiff : (enumA d (fun v => if v = t then 2 ^ i else 255) (mem s) []).length = 0 ↔ (orm p (jr d s) 0).testBit i = false := by
        rw [Bool.eq_false_iff, ne_eq, orm_bit, Nat.zero_testBit]
        constructor
        · intro h0
          rintro (z | ⟨x, hx, hxi⟩)
          · cases z
          · have : x ∈ enumA d (fun v => if v = t then 2 ^ i else 255) (mem s) [] := (enumA_mem _ _ x).mpr ⟨hx, fun j hj => by
              by_cases hjt : mj (mem s) j = t
              · have hjp : j = p := mem_inj hs6 hj hp (by rw [hjt, hpt])
                show (if mj (mem s) j = t then 2 ^ i else 255).testBit (mj x j) = true
                rw [if_pos hjt, hjp, hxi]
                exact pow_bit.mpr rfl
              · show (if mj (mem s) j = t then 2 ^ i else 255).testBit (mj x j) = true
                rw [if_neg hjt]
                exact bit255 (Nat.lt_of_lt_of_le (enumF_lt _ _ x hx j hj) (R8 hw _))⟩
            rw [List.eq_nil_of_length_eq_zero h0] at this
            exact absurd this List.not_mem_nil
        · intro hno
          rcases Nat.eq_zero_or_pos (enumA d (fun v => if v = t then 2 ^ i else 255) (mem s) []).length with z | z
          · exact z
          · exfalso
            obtain ⟨x, hx⟩ := List.exists_mem_of_length_pos z
            obtain ⟨h1, h2⟩ := (enumA_mem _ _ x).mp hx
            have h3 := h2 p hp
            rw [if_pos hpt] at h3
            exact hno (Or.inr ⟨x, h1, pow_bit.mp h3⟩)
      have hbs : bsum (fun i => if (orm p (jr d s) 0).testBit i then 0 else 1) (i + 1) = bsum (fun i => if (orm p (jr d s) 0).testBit i then 0 else 1) i + (if (orm p (jr d s) 0).testBit i then 0 else 1) := rfl
      refine ⟨q2, ⟨hq1.tr f2.S, fun v hv hvt => ?_⟩, fun k => ?_⟩
      · rw [f2.2.1 12 (by decide) (by decide), ar_sa, if_pos rfl, if_neg hvt]; exact c2 v hv hvt
      · dsimp only
        rw [hbs]
        unfold f3_idleRows_l21_B f3_idleRows_b55
        rw [c_rowsOf hw (hC.same c1.same) (by omega), bd_s, if_neg (nI_ge hi (by omega)), ck_nI (by omega) (by decide), ix_nI (by omega), shl1 (by omega), bn_e, e2, bd2_s]
        by_cases h0 : (enumA d (fun v => if v = t then 2 ^ i else 255) (mem s) []).length = 0
        · rw [h0, if_pos (show nI 0 = 0 from rfl), hiff.mp h0, if_neg Bool.false_ne_true, nI_s, nI_s, bn_e, bn_e]
        · have h1 : (orm p (jr d s) 0).testBit i = true := by
            cases hz : (orm p (jr d s) 0).testBit i
            · exact absurd (hiff.mpr hz) h0
            · rfl
          rw [if_neg (nz h0 (by omega)), h1, if_pos rfl, nI_s, bn_e]
          rfl) (by
      rintro q ⟨c1, -⟩ k
      dsimp only
      unfold f3_idleRows_l21_B
      rw [c_rowsOf hw (hC.same c1.same) (by omega), bd_s, if_pos (nI_le (Nat.le_refl _) (by omega))]) N 0 q1 (by omega) (by omega) (by omega) ⟨al2.S, fun v hv _ => al3 v hv⟩
    refine ⟨nI (dR d t - pc (orm p (jr d s) 0)), qC', qM2, ?_, ?_, d, hw, hC.same c1.same, hM.same (m2.tr k1.frJ).same, hH.same (m2.tr k1.frJ).same⟩
    · rw [r1, bd_s, if_pos rfl]
      unfold f3_idleRows
      rw [if_neg (show ¬ nI t < 0 from nI_nlt (b := 0) (Nat.zero_le _) (by omega)), if_pos (show nI t < 6 from nI_lt (b := 6) (by omega) (by decide)), al1, bd_s, hsumF]
      have : f3_idleRows_l21 N N (nI s) (nI t) 0 0 q1 = some (nI (bsum (fun i => if (orm p (jr d s) 0).testBit i then 0 else 1) (dR d t)), qC') := hrun
      rw [this, bd2_s]
    · rw [r2, bd_s, if_neg (show ¬ (1 : Int32) = 0 by decide), r3, bd_s, if_neg (show ¬ (1 : Int32) = 0 by decide), m1, bd2_s]
      have hl6 : (mem s).length ≤ 6 := memTo_len s 6
      refine loop_run (fun n (p : Int32 × Int32 × Int32 × Int32 × SS) => f9_idle_l35 N n p.1 p.2.1 p.2.2.1 p.2.2.2.1 p.2.2.2.2) (fun k p => f9_idle_l35_B N (fun x1 x2 x3 x4 x5 => k (x1, x2, x3, x4, x5)) p.1 p.2.1 p.2.2.1 p.2.2.2.1 p.2.2.2.2) (fun n p => rfl) (fun i => (nI t, nI 0, fl, nI i, qM1)) p _ (c := 0) ?_ ?_ N 0 (Nat.le_refl _) (Nat.zero_le _) (by omega)
      · intro i _ hi k
        have h7 := hok.2.2 i (by omega)
        dsimp only
        unfold f9_idle_l35_B
        rw [ck_nI (by omega) (by decide), ix_nI (by omega), m3.2 i (by omega), if_neg (fun e => hpi i hi ((nI_eq (by omega) (by omega)).mp e)), nI_s, bn_e]
      · intro k
        dsimp only
        unfold f9_idle_l35_B
        rw [ck_nI (by omega) (by decide), ix_nI (by omega), m3.2 p hp, hpt, if_pos rfl]
        exact k2
  · refine ⟨-102, _, _, ?_, ?_, d, hw, hC, hM, hH⟩
    · rw [r1, bd_s, if_neg (by decide)]
    · rw [r2, bd_s, if_pos rfl]
  · refine ⟨-101, _, _, ?_, ?_, d, hw, hC, hM, hH⟩
    · rw [r1, bd_s, if_neg (by decide)]
    · rw [r2, bd_s, if_neg (show ¬ (1 : Int32) = 0 by decide), r3, bd_s, if_pos rfl]
end Idle
