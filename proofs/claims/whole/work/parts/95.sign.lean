/-! sign; a best plan can be done -/
section Sign
variable {N : Nat} {d : DB} {q : SS}
theorem op_sign (hN : 2 ^ 40 ≤ N) : Op_sign N Sim := by
  rintro a1 a2 a3 a4 a5 qC qM ⟨d, hw, hC, hM, hH⟩
  have hD := hw.2.2.2.2.2.2.2.2.2.2
  unfold f8_sign f9_sign
  rcases ask_both hw hC hM a1 a2 a3 a4 with ⟨s, sp, b, e, hs1, hs, hsp, hb, he, rfl, rfl, rfl, rfl, e1, e2⟩ | ⟨e1, e2⟩
  · rw [e1, bd_s, e2, bd_s, if_neg (show ¬ (1 : Int32) = 0 by decide), hM.2.2.2.2.1]
    by_cases c : dD d < 60
    · obtain ⟨w0, w1, w2, w3, w4, w5, w6, w7, w8, w9, w10⟩ := hw
      obtain ⟨c0, c1, c2, c3, c4, c5, c6, c7, c8⟩ := hC
      obtain ⟨m0, m1, m2, m3, m4, m5, m6, m7, m8⟩ := hM
      have hw' : WF (setD d (dD d + 1)) := ⟨w0, w1, w2, w3, w4, w5, w6, w7, w8, w9, by show dD d + 1 ≤ 60; omega⟩
      have hC' : RC (setD d (dD d + 1)) (sf qC 0 (nI (dD d + 1))) := ⟨rfl, c1, c2, c3, c4, c5, c6, c7, c8⟩
      have hM' : RMk (setD d (dD d + 1)) (sf qM 12 (nI (dD d + 1))) := ⟨m0, m1, m2, m3, rfl, m5, m6, m7, m8⟩
      have hH' : CH (setD d (dD d + 1)) (sf qM 12 (nI (dD d + 1))) := hH
      obtain ⟨qC1, qM1, qM2, W, o, l, g1, g2, g3, g4, g5, g6, g7, g8, g9, g10, g11, g12, g13, g14, g15, g16, -⟩ := both_best (N := N) (sp := sp) (b := b) (e := e) hw' hC' hM' hH' hN hs1 hs hsp hb he
      have hs' : s < 2 ^ dT (setD d (dD d + 1)) := hs
      have hs6 := s_lt hw' hs'
      have p1 := pc_pos hs1 hs6
      have p6 := (pc6 hs6).1
      have hlen := g13.1
      obtain ⟨qC2, r2, wr, fz⟩ := c_write (N := N) (q := qC1) hw' (by omega) hs1 hs' g13 (show W % 18446744073709551616 < 2 ^ 63 by omega) g14 g4
      have hC2 := (hC'.same g2.same).same fz.same
      have hn60 : ¬ nI (dD d) = 60 := fun z => by
        have := (nI_eq (b := 60) (by omega) (by decide)).mp z
        omega
      rw [if_pos c, if_pos rfl, c0, nI_s, bn_e, g1, bd_s, r2, bd2_s, if_neg hn60, bn_e, g5, bd_s, g6, bd2_s, m_signsOf (by omega) hs6 p1, bd_s, show nI (4 * pc s - 3) - 1 = nI (4 * pc s - 3 - 1) from by rw [li1, pk_sub (by omega)], i64_nI (by omega)]
      rcases rcase a5 0 (hi := 4 * pc s - 3 - 1) (by omega) with ⟨j, -, j2, rfl⟩ | hx
      · have hj : j < l.length := by omega
        refine ⟨nI (mj l j), qC2, qM2, ?_, ?_, setD d (dD d + 1), hw', hC2, g7, g8⟩
        · unfold f0_signAt
          rw [if_neg (show ¬ nI j < 0 from nI_nlt (b := 0) (Nat.zero_le _) (by omega)), wr.1, if_neg (nI_ge hj (by omega)), ck_nI (by omega) (by decide), ix_nI (by omega), wr.2 j hj, bd_s]
        · rw [show f9_in (nI j).toInt64 0 (lN (4 * pc s - 3 - 1)) = some 1 from m_in_ok (lo := 0) (Nat.zero_le _) j2 (by omega), bd_s, if_neg (show ¬ (1 : Int32) = 0 by decide), li21, li9, pk_mul, nI_add, pk_mul, nI_add, ck_nI (by omega) (by decide), ix_nI (by omega), g15 j hj]
      · refine ⟨-1, qC2, qM2, ?_, ?_, setD d (dD d + 1), hw', hC2, g7, g8⟩
        · unfold f0_signAt
          by_cases z : a5 < 0
          · rw [if_pos z, bd_s]
          · have z2 : nI l.length ≤ a5 := by
              rw [nI_le_toInt (by omega)]
              rw [lt0_toInt] at z
              omega
            rw [if_neg z, wr.1, if_pos z2, bd_s]
        · rw [show f9_in a5.toInt64 0 (lN (4 * pc s - 3 - 1)) = some 0 from m_in_no (lo := 0) (by decide) (by omega) hx, bd_s, if_pos rfl]
    · refine ⟨-103, qC, qM, ?_, ?_, d, hw, hC, hM, hH⟩
      · rw [if_neg c, if_neg (show ¬ (-103 : Int32) = 0 by decide)]
      · rw [if_pos (show nI (dD d) = 60 by rw [show dD d = 60 by omega]; rfl)]
  · refine ⟨-102, qC, qM, ?_, ?_, d, hw, hC, hM, hH⟩
    · rw [e1, bd_s, if_neg (show ¬ (-102 : Int32) = 0 by decide)]
    · rw [e2, bd_s, if_pos rfl]
/-- a text all steps of which can be done -/
def doP (d : DB) (s : Nat) (l : List Nat) : Prop := ∀ (rest ss ws : List Nat) (ok : Bool), evL d (l ++ rest) ss ws ok = evL d rest (s :: ss) ws ok
theorem doP_table {t : Nat} (ht : t < 6) : doP d (2 ^ t) [t + 48] := by
  intro rest ss ws ok
  show (if t + 48 = 41 then _ else if t + 48 = 40 then _ else if t + 48 < 60 then evL d rest (2 ^ (t + 48 - 48) :: ss) ws ok else _) = _
  rw [if_neg (by omega), if_neg (by omega), if_pos (by omega), Nat.add_sub_cancel]
theorem doP_step {A B w : Nat} {la lb : List Nat} (hw : w = 108 ∨ w = 112 ∨ w = 115) (hm : may d w A B = true) (ha : doP d A la) (hb : doP d B lb) : doP d (A ||| B) (40 :: (la ++ w :: (lb ++ [41]))) := by
  intro rest ss ws ok
  have e : 40 :: (la ++ w :: (lb ++ [41])) ++ rest = 40 :: (la ++ (w :: (lb ++ (41 :: rest)))) := by simp
  rw [e]
  show evL d (la ++ (w :: (lb ++ (41 :: rest)))) ss ws ok = _
  rw [ha]
  show (if w = 41 then _ else if w = 40 then _ else if w < 60 then _ else evL d (lb ++ (41 :: rest)) (A :: ss) (w :: ws) ok) = _
  rw [if_neg (by omega), if_neg (by omega), if_neg (by omega), hb]
  show evL d rest ((A ||| B) :: ss) ws (ok && may d w A B) = _
  rw [hm, Bool.and_true]
theorem all_do (hw : WF d) {b sp set m : Nat} {M : Nat → Nat → Nat} (hset : set < 2 ^ dT d) (hS : SpM d b sp set m M) (hR : rowsM d set m M q) : ∀ n s, s < n → 1 ≤ s → s < m → andn s set = 0 → ∀ o c l, o < 9 → isPl (dT d) s l → c ≤ 2147483647 → M s o = c * 18446744073709551616 + keyF 0 l → doP d s l := by
  have hT := hw.1
  intro n
  induction n with
  | zero => intro s h1; omega
  | succ n ih =>
    intro s hsn hs1 hsm hss o c l ho hl hc hv
    have hsT := andn_lt hss hset
    have hs6 := s_lt hw hsT
    have p6 := (pc6 hs6).1
    have hkl := hl.key_lt hT hsT
    have h16 : ∀ t, pc t ≤ 6 → 16 ^ (3 * pc t - 2) ≤ 18446744073709551616 := fun t ht => Nat.le_trans (Nat.pow_le_pow_right (by decide) (show 3 * pc t - 2 ≤ 16 by omega)) (by decide)
    have h16s := h16 s p6
    have hne : M s o ≠ INF := by rw [hv]; unfold INF; omega
    rcases (hS s hs1 hsm hss o ho).1.resolve_left hne with ⟨h1, -, hx⟩ | ⟨h1, A, hvl, o1, ho1, p, hp, w, hww, k1, k2, k3, k4, hx⟩
    · have h2 := (pc1 hs6).mp h1
      have htT : tz s < dT d := bit_lt hsT (by rw [show s.testBit (tz s) = (2 ^ tz s).testBit (tz s) from by rw [← h2.1], Nat.testBit_two_pow_self])
      have hpl := isPl_table hT htT
      rw [← h2.1] at hpl
      have hk : keyF 0 [tz s + 48] = tz s + 2 := by
        show kst 0 (tz s + 48) = _
        unfold kst dig
        rw [if_neg (by omega), if_neg (by omega), if_pos (by omega)]
        omega
      have : l = [tz s + 48] := hl.inj hT hsT hpl (by
        rw [hk]
        rw [hv] at hx
        unfold tval at hx
        omega)
      rw [this]
      have := doP_table (d := d) h2.2
      rw [← h2.1] at this
      exact this
    · obtain ⟨f1, f2, f3, f4, f5, f6, f7⟩ := vl_facts hs6 hvl.1 hvl.2.1 hvl.2.2.1
      have aA := andn_tr hvl.2.2.1 hss
      have aB := andn_tr f7 hss
      have hA1 := hvl.1
      have hA2 := hvl.2.1
      have tA := andn_lt aA hset
      have tB := andn_lt aB hset
      rcases hR A hA1 (by omega) aA o1 ho1 with ⟨z, -⟩ | ⟨cA, la, iA, bA, vA, -, -⟩
      · omega
      rcases hR (s - A) (by omega) (by omega) aB p hp with ⟨z, -⟩ | ⟨cB, lb, iB, bB, vB, -, -⟩
      · omega
      have hcA := CB_lt (s := A) (by omega)
      have hcB := CB_lt (s := s - A) (by omega)
      have dA := ih A (by omega) hA1 (by omega) aA o1 cA la ho1 iA (by omega) vA
      have dB := ih (s - A) (by omega) (by omega) (by omega) aB p cB lb hp iB (by omega) vB
      have hpl := isPl_step hT (s_lt hw tA) (s_lt hw tB) f5 f6 f3 hww iA iB
      have hdo := doP_step hww k3 dA dB
      rw [f2] at hpl hdo
      have hw41 : w ≠ 41 := by omega
      have hkey := key_step (la := la) (lb := lb) hw41
      have hkp := hpl.key_lt hT hsT
      have kA := iA.key_lt hT tA
      have kB := iB.key_lt hT tB
      have h16A := h16 A (by omega)
      have h16B := h16 (s - A) (by omega)
      have eA : M A o1 / 18446744073709551616 = cA ∧ M A o1 % 18446744073709551616 = keyF 0 la := by rw [vA]; omega
      have eB : M (s - A) p / 18446744073709551616 = cB ∧ M (s - A) p % 18446744073709551616 = keyF 0 lb := by rw [vB]; omega
      have : l = 40 :: (la ++ w :: (lb ++ [41])) := hl.inj hT hsT hpl (by
        rw [hv] at hx
        unfold cmb nk at hx
        rw [eA.1, eA.2, eB.1, eB.2, ← iA.2.1, ← iB.2.1, ← hkey] at hx
        omega)
      rw [this]
      exact hdo
end Sign
