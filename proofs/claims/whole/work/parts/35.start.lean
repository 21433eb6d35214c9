theorem wv_1_145 : Cond.instantiable RX0 8 ∈ TT := mw1 145 (by decide +kernel) (by decide +kernel)
theorem wv_1_177 : Cond.instantiable RX1 6 ∈ TT := mw1 177 (by decide +kernel) (by decide +kernel)
theorem wv_1_105 : Cond.instantiable RX2 11 ∈ TT := mw1 105 (by decide +kernel) (by decide +kernel)
theorem wv_1_55 : Cond.instantiable RX3 5 ∈ TT := mw1 55 (by decide +kernel) (by decide +kernel)
theorem wv_1_77 : Cond.instantiable RX6 7 ∈ TT := mw1 77 (by decide +kernel) (by decide +kernel)
theorem wv_1_23 : Cond.instantiable RX7 8 ∈ TT := mw1 23 (by decide +kernel) (by decide +kernel)
theorem wv_1_15 : Cond.instantiable RX8 7 ∈ TT := mw1 15 (by decide +kernel) (by decide +kernel)
theorem wv_4_114 : Cond.instantiable RX9 40 ∈ TT := mw4 114 (by decide +kernel) (by decide +kernel)
theorem wv_1_14 : Cond.classLink RL 7 RX8 ∈ TT := mw1 14 (by decide +kernel) (by decide +kernel)
theorem wv_1_1 : Cond.initialized RX8 ∈ TT := mw1 1 (by decide +kernel) (by decide +kernel)
theorem wv_1_16 : Cond.methodLink RL 9 yX8_init ∈ TT := mw1 16 (by decide +kernel) (by decide +kernel)
theorem wv_1_18 : Cond.code yX8_init cX8_init 1 none ∈ TT := mw1 18 (by decide +kernel) (by decide +kernel)
theorem wv_1_17 : Cond.instanceMethod yX8_init ∈ TT := mw1 17 (by decide +kernel) (by decide +kernel)
theorem wv_4_113 : Cond.classLink RL 10 RX9 ∈ TT := mw4 113 (by decide +kernel) (by decide +kernel)
theorem wv_1_8 : Cond.initialized RX9 ∈ TT := mw1 8 (by decide +kernel) (by decide +kernel)
theorem wv_4_115 : Cond.methodLink RL 12 yX9_init ∈ TT := mw4 115 (by decide +kernel) (by decide +kernel)
theorem wv_4_117 : Cond.code yX9_init cX9_init 1 none ∈ TT := mw4 117 (by decide +kernel) (by decide +kernel)
theorem wv_4_116 : Cond.instanceMethod yX9_init ∈ TT := mw4 116 (by decide +kernel) (by decide +kernel)
def adOf (a z : Nat) (o : List Nat) : Nat → Nat := fun k => if k = 0 then a else z + o.getD k 0
def offC : List Nat := [0, 0, 6, 11, 13, 19, 25, 1, 2, 3, 4, 5, 7, 8, 9, 10, 12, 14, 15, 16, 17, 18, 20, 21, 22, 23, 24, 26, 27, 28]
def offM : List Nat := [0, 0, 1, 2, 3, 4, 5, 6, 7, 8, 9, 10, 11, 12, 13, 14, 15, 16, 17, 18, 19, 20, 21, 22, 23]
def qC0 : SS := (fun k => if k = 2 then 2 else if k = 3 then 3 else 0, fun _ _ => 0, fun _ => 0)
def qM0 : SS := (fun k => if k = 1 then 2 else if k = 2 then 3 else 0, fun _ _ => 0, fun _ => 0)
def wsC1 (a z : Nat) (cI cJ : ClassId) : va_W := [(a, .inr (6, [.ref (z), .ref (z + 6), .ref (z + 11), .ref (z + 13), .ref (z + 19), .ref (z + 25), .int 0])), (z, .inr (5, [.ref (z + 1), .ref (z + 2), .ref (z + 3), .ref (z + 4), .ref (z + 5), .int 0, .int 2, .int 3])), (z + 1, .inl (cI, 6, .inl (fun _ => 0))), (z + 2, .inl (cI, 6, .inl (fun _ => 0))), (z + 3, .inl (cI, 6, .inl (fun _ => 0))), (z + 4, .inl (cI, 48, .inl (fun _ => 0))), (z + 5, .inl (cI, 8, .inl (fun _ => 0))), (z + 6, .inr (3, [.ref (z), .ref (z + 7), .ref (z + 8), .ref (z + 9), .ref (z + 10)])), (z + 7, .inl (cI, 6, .inl (fun _ => 0))), (z + 8, .inl (cI, 48, .inl (fun _ => 0))), (z + 9, .inl (cI, 6, .inl (fun _ => 0))), (z + 10, .inl (cI, 6, .inl (fun _ => 0))), (z + 11, .inr (4, [.ref (z + 12), .int 0, .int 0, .int 0, .int 0, .int 0, .int 0])), (z + 12, .inl (cI, 40, .inl (fun _ => 0))), (z + 13, .inr (2, [.ref (z), .ref (z + 6), .ref (z + 14), .ref (z + 15), .ref (z + 16), .ref (z + 17), .ref (z + 18), .int 0, .int 0, .int 0, .int 0])), (z + 14, .inl (cI, 6, .inl (fun _ => 0))), (z + 15, .inl (cI, 6, .inl (fun _ => 0))), (z + 16, .inl (cI, 6, .inl (fun _ => 0))), (z + 17, .inl (cI, 6, .inl (fun _ => 0))), (z + 18, .inl (cI, 6, .inl (fun _ => 0))), (z + 19, .inr (0, [.ref (z), .ref (z + 6), .ref (z + 20), .ref (z + 21), .ref (z + 22), .ref (z + 23), .ref (z + 24), .int 0])), (z + 20, .inl (cI, 576, .inl (fun _ => 0))), (z + 21, .inl (cJ, 576, .inr (.inl (fun _ => 0)))), (z + 22, .inl (cI, 64, .inl (fun _ => 0))), (z + 23, .inl (cI, 64, .inl (fun _ => 0))), (z + 24, .inl (cI, 21, .inl (fun _ => 0))), (z + 25, .inr (1, [.ref (z), .ref (z + 26), .ref (z + 27), .ref (z + 28), .int 0, .int 0])), (z + 26, .inl (cI, 6, .inl (fun _ => 0))), (z + 27, .inl (cI, 6, .inl (fun _ => 0))), (z + 28, .inl (cI, 6, .inl (fun _ => 0)))]
def wsM1 (a z : Nat) (cI cJ : ClassId) : va_W := [(a, .inr (7, [.int 0, .ref (z), .ref (z + 1), .ref (z + 2), .ref (z + 3), .int 2, .int 3, .ref (z + 4), .ref (z + 5), .ref (z + 6), .int 0, .ref (z + 7), .ref (z + 8), .int 0, .ref (z + 9), .ref (z + 10), .int 0, .ref (z + 11), .int 0, .int 0, .int 0, .int 0, .ref (z + 12), .ref (z + 13), .ref (z + 14), .ref (z + 15), .ref (z + 16), .int 0, .int 0, .int 0, .ref (z + 17), .ref (z + 18), .ref (z + 19), .int 0, .int 0, .ref (z + 20), .ref (z + 21), .int 0, .ref (z + 22), .ref (z + 23)])), (z, .inl (cI, 6, .inl (fun _ => 0))), (z + 1, .inl (cI, 6, .inl (fun _ => 0))), (z + 2, .inl (cI, 6, .inl (fun _ => 0))), (z + 3, .inl (cI, 384, .inl (fun _ => 0))), (z + 4, .inl (cI, 3, .inl (fun _ => 0))), (z + 5, .inl (cI, 8, .inl (fun _ => 0))), (z + 6, .inl (cI, 64, .inl (fun _ => 0))), (z + 7, .inl (cI, 64, .inl (fun _ => 0))), (z + 8, .inl (cI, 6, .inl (fun _ => 0))), (z + 9, .inl (cI, 6, .inl (fun _ => 0))), (z + 10, .inl (cI, 40, .inl (fun _ => 0))), (z + 11, .inl (cI, 41, .inl (fun _ => 0))), (z + 12, .inl (cI, 64, .inl (fun _ => 0))), (z + 13, .inl (cI, 41, .inl (fun _ => 0))), (z + 14, .inl (cI, 41, .inl (fun _ => 0))), (z + 15, .inl (cI, 41, .inl (fun _ => 0))), (z + 16, .inl (cI, 41, .inl (fun _ => 0))), (z + 17, .inl (cI, 576, .inl (fun _ => 0))), (z + 18, .inl (cI, 12096, .inl (fun _ => 0))), (z + 19, .inl (cI, 21, .inl (fun _ => 0))), (z + 20, .inl (cI, 21, .inl (fun _ => 0))), (z + 21, .inl (cI, 6, .inl (fun _ => 0))), (z + 22, .inl (cI, 6, .inl (fun _ => 0))), (z + 23, .inl (cI, 6, .inl (fun _ => 0)))]
theorem permC (a z : Nat) (cI cJ : ClassId) : ([0, 1, 7, 12, 14, 20, 26, 2, 3, 4, 5, 6, 8, 9, 10, 11, 13, 15, 16, 17, 18, 19, 21, 22, 23, 24, 25, 27, 28, 29] : List Nat).map (fun i => (wsC1 a z cI cJ)[i]?) = (wC (adOf a z offC) cI cJ qC0).map some := rfl
theorem permM (a z : Nat) (cI cJ : ClassId) : ([0, 1, 2, 3, 4, 5, 6, 7, 8, 9, 10, 11, 12, 13, 14, 15, 16, 17, 18, 19, 20, 21, 22, 23, 24] : List Nat).map (fun i => (wsM1 a z cI cJ)[i]?) = (wM (adOf a z offM) cI cJ qM0).map some := rfl
theorem perm2 {w1 w2 v1 v2 : va_W} {p1 p2 : List Nat} (h1 : p1.map (fun i => w1[i]?) = v1.map some) (h2 : p2.map (fun i => w2[i]?) = v2.map some) : (p1 ++ p2.map (fun i => i + w1.length)).map (fun i => (w1 ++ w2)[i]?) = (v1 ++ v2).map some := by
  have a1 : p1.map (fun i => (w1 ++ w2)[i]?) = p1.map (fun i => w1[i]?) := by
    apply List.map_congr_left
    intro i hi
    have : (p1.map (fun i => w1[i]?)).all Option.isSome = true := by rw [h1]; simp
    have h3 := List.all_eq_true.mp this (w1[i]?) (List.mem_map.mpr ⟨i, hi, rfl⟩)
    have h4 : i < w1.length := by
      rcases Nat.lt_or_ge i w1.length with h | h
      · exact h
      · rw [List.getElem?_eq_none h] at h3; cases h3
    exact List.getElem?_append_left h4
  have a2 : (p2.map (fun i => i + w1.length)).map (fun i => (w1 ++ w2)[i]?) = p2.map (fun i => w2[i]?) := by
    rw [List.map_map]
    apply List.map_congr_left
    intro i hi
    show (w1 ++ w2)[i + w1.length]? = w2[i]?
    rw [List.getElem?_append_right (by omega), Nat.add_sub_cancel]
  rw [List.map_append, List.map_append, a1, a2, h1, h2]
theorem sub_of_map {D : va_G} {ws v : va_W} {H : Heap} (hP : va_P D vwCl ws H) (is : List Nat) (h : is.map (fun i => ws[i]?) = v.map some) : va_P D vwCl v H := by
  refine hP.sub is ?_
  have : (is.map (fun i => ws[i]?)).filterMap id = (v.map some).filterMap id := by rw [h]
  simpa [List.filterMap_map] using this
set_option maxHeartbeats 4000000 in
set_option maxRecDepth 20000 in
/-- THE LAW, from its entry, over what the operations are known to do -/
theorem whole_start_of {p : Program} {e : Env} {s : State} {m : MethodId} {below : List Frame} {meth : Method} {c : Code} (l : Launch) {b L : Nat} {xs : Nat → Int32} (hL : L ≤ 3072) (C0 : lw_At p s m meth c b L xs) {N : Nat} {Sim : SS → SS → Prop} (ho : OpsOk N Sim) (h0 : Sim qC0 qM0) : W p l e room_1 s m #[Value.ref b] below meth c s.heap [] 0 0 (lw_Z below #[Value.ref b] s) (entryFrame m ([Value.ref b] : List Value).toArray 4) := by
  obtain ⟨hx, hb, hr, hml, hown, hts, hX, hbl, hlocks, hgv⟩ := id C0
  have hT : ∀ w ∈ TT, w.before #[Value.ref b] s = true := fun w h => hts w (List.mem_filter.mp h).1
  have hN8 : N8 s := ⟨va_Nw.of rfl (hts _ (tb_1 _ (List.mem_of_getElem? (i := 24) (by decide +kernel)))), va_Nw.of rfl (hts _ (tb_1 _ (List.mem_of_getElem? (i := 78) (by decide +kernel))))⟩
  have hNW : NW s := va_Nw.of rfl (hts _ (tb_3 _ (List.mem_of_getElem? (i := 208) (by decide +kernel))))
  have hA : ∀ q : Nat, s.heap.size ≤ q → (fun q : Nat => s.heap.size ≤ q) q := fun _ h => h
  obtain ⟨cI, kI, compI, fI, hkI, hkdI⟩ := Cond.arrayClass_spec (hT (.arrayClass .int) (mw1 53 (by decide +kernel) (by decide +kernel)))
  obtain ⟨cJ, kJ, compJ, fJ, hkJ, hkdJ⟩ := Cond.arrayClass_spec (hT (.arrayClass .long) (mw1 175 (by decide +kernel) (by decide +kernel)))
  obtain ⟨c0, iS0, hKn0⟩ := u_known (C := RX0) (T := TX0) (N := 8) (n := 8) hT fl_X0 (hT (.instantiable RX0 8) wv_1_145)
  obtain ⟨c1, iS1, hKn1⟩ := u_known (C := RX1) (T := TX1) (N := 6) (n := 6) hT fl_X1 (hT (.instantiable RX1 6) wv_1_177)
  obtain ⟨c2, iS2, hKn2⟩ := u_known (C := RX2) (T := TX2) (N := 11) (n := 11) hT fl_X2 (hT (.instantiable RX2 11) wv_1_105)
  obtain ⟨c3, iS3, hKn3⟩ := u_known (C := RX3) (T := TX3) (N := 5) (n := 5) hT fl_X3 (hT (.instantiable RX3 5) wv_1_55)
  obtain ⟨c4, iS4, hKn4⟩ := u_known (C := RX6) (T := TX6) (N := 7) (n := 7) hT fl_X6 (hT (.instantiable RX6 7) wv_1_77)
  obtain ⟨c5, iS5, hKn5⟩ := u_known (C := RX7) (T := TX7) (N := 8) (n := 8) hT fl_X7 (hT (.instantiable RX7 8) wv_1_23)
  obtain ⟨c6, iS6, hKn6⟩ := u_known (C := RX8) (T := TX8) (N := 7) (n := 7) hT fl_X8 (hT (.instantiable RX8 7) wv_1_15)
  obtain ⟨c7, iS7, hKn7⟩ := u_known (C := RX9) (T := TX9) (N := 40) (n := 40) hT fl_X9 (hT (.instantiable RX9 40) wv_4_114)
  obtain ⟨dC, dI, hKc⟩ : ∃ (dC : Nat → ClassId) (dI : Nat → Nat → Nat), ∀ (k : Nat) (q : vw_C), vwCl[k]? = some q → u_Kn s q.1 q.2.1 q.2.2 (dC k) (dI k) := by
    refine ⟨fun k => if k = 0 then c0 else if k = 1 then c1 else if k = 2 then c2 else if k = 3 then c3 else if k = 4 then c4 else if k = 5 then c5 else if k = 6 then c6 else c7, fun k => if k = 0 then iS0 else if k = 1 then iS1 else if k = 2 then iS2 else if k = 3 then iS3 else if k = 4 then iS4 else if k = 5 then iS5 else if k = 6 then iS6 else iS7, ?_⟩
    intro k q hq
    match k, hq with
    | 0, hq => cases hq; exact hKn0
    | 1, hq => cases hq; exact hKn1
    | 2, hq => cases hq; exact hKn2
    | 3, hq => cases hq; exact hKn3
    | 4, hq => cases hq; exact hKn4
    | 5, hq => cases hq; exact hKn5
    | 6, hq => cases hq; exact hKn6
    | 7, hq => cases hq; exact hKn7
    | k + 8, hq => simp [vwCl] at hq
  have hS : va_S (fun q : Nat => s.heap.size ≤ q) s.heap s.heap [] := va_S.rf
  have hK : va_K (dC, dI) vwCl (tyA cI cJ) s := ⟨hKc, fun k q hk => by
    match k, hk with
    | 0, hk => cases hk; exact ⟨fun n z => ⟨fun k h => (by cases h), kI, hkI, compI, hkdI⟩, fI⟩
    | 1, hk => cases hk; exact ⟨fun n z => ⟨fun k h => (by cases h), kJ, hkJ, compJ, hkdJ⟩, fJ⟩
    | k + 2, hk => simp [tyA] at hk⟩
  have hP : va_P (dC, dI) vwCl [] s.heap := fun k q h => by simp at h
  have hD : va_D (fun q : Nat => s.heap.size ≤ q) [] := ⟨fun i j p q h => by simp at h, fun k q h => by simp at h⟩
  have hfix : CallFix p m c cL_law 4 s #[Value.ref b] TT RL := ⟨hx, hb, hml, hown, hT⟩
  have hl := lv_entry ([.ref b]) (n := 4) (Nat.le_of_ble_eq_true rfl)
  rw [lg_entry_eq]
  generalize (lg_sl ([.ref b]) ++ List.replicate (4 - (lg_sl ([.ref b])).length) Slot.unset).toArray = ls at hl ⊢
  have hl : lv_has ls 4 [(0, .ref b)] := hl
  refine va_new (ci := 6) (fs := [.null, .null, .null, .null, .null, .null, .int 0]) (C := RX8) (T := TX8) (N := 7) hx hb hT fl_X8 tyX8 tyX8_ok hown (hT _ wv_1_14) (hT _ wv_1_15) (hT _ wv_1_1) hK hP hD hS hA rfl (fun j hj => by rcases (show j = 0 ∨ j = 1 ∨ j = 2 ∨ j = 3 ∨ j = 4 ∨ j = 5 ∨ j = 6 by omega) with rfl | rfl | rfl | rfl | rfl | rfl | rfl <;> rfl) (by decide) (by decide) dL_law_0 (fun a0 H hP hD hS => ?_)
  have hP : va_P (dC, dI) vwCl [(a0, .inr (6, [.null, .null, .null, .null, .null, .null, .int 0]))] H := hP
  have hD : va_D (fun q : Nat => s.heap.size ≤ q) [(a0, .inr (6, [.null, .null, .null, .null, .null, .null, .int 0]))] := hD
  refine lv_dup hx hb dL_law_3 rfl ?_
  have hG8 : GoodIn TT (.code yX8_init cX8_init 1 none :: TT) := fun w h => by
    rcases List.mem_cons.mp h with rfl | h
    · exact ⟨wv_1_18, TTg _ wv_1_18⟩
    · exact ⟨h, TTg w h⟩
  refine kcall_go (D := (dC, dI)) (cI := cI) (cJ := cJ) (ws := [(a0, .inr (6, [.null, .null, .null, .null, .null, .null, .int 0]))]) (sz := H.size) (wsc := [(a0, .inr (6, [.null, .null, .null, .null, .null, .null, .int 0]))]) (wr := []) (w1 := wsC1 a0 H.size cI cJ) (a := #[Value.ref a0]) (va_runI (As := []) (rest := [.ref a0]) hfix (ck8 cI cJ a0 H.size l (dC, dI)) ⟨callB_of 0 hT hG8 rfl rfl rfl (hT _ wv_1_1) (hT _ wv_1_16) (by decide +kernel) ⟨by decide, by decide⟩, rfl, hT _ wv_1_17⟩ ⟨fun a U g mk z => ?_, fun U hU hW => ?_⟩ rfl rfl hl.1 rfl (lv_room (Nat.le_of_ble_eq_true rfl)) dL_law_4 ⟨by decide, by decide⟩) ⟨rfl, hK, hP, hD, hS⟩ hA [0] [] rfl rfl (by decide) (by decide) (fun H1 locs1 hw1 => ?_)
  · obtain ⟨z0, z1, z2, z3, z4, z5⟩ := z
    exact ⟨z0, z1, va_K.moved (u := U) (U := U.calling g mk a) (Vm.Alike.refl U.vm) z2, z3, z4, z5.calling⟩
  · exact ⟨rfl, by rw [hU], va_K.moved hW.alike hK, by rw [hU]; exact hP, hD.weaken (fun _ _ _ _ => trivial), hN8.warm hW⟩
  refine lv_astore_n (lv' := [(1, .ref a0), (0, .ref b)]) hx hb dL_law_7 rfl hl (by decide) rfl (fun ls hl => ?_)
  obtain ⟨hz1, hK, hP, hD, hS⟩ := hw1
  rw [List.nil_append] at hP hD
  refine va_new (ci := 7) (fs := [.int 0, .null, .null, .null, .null, .int 0, .int 0, .null, .null, .null, .int 0, .null, .null, .int 0, .null, .null, .int 0, .null, .int 0, .int 0, .int 0, .int 0, .null, .null, .null, .null, .null, .int 0, .int 0, .int 0, .null, .null, .null, .int 0, .int 0, .null, .null, .int 0, .null, .null]) (C := RX9) (T := TX9) (N := 40) hx hb hT fl_X9 tyX9 tyX9_ok hown (hT _ wv_4_113) (hT _ wv_4_114) (hT _ wv_1_8) hK hP hD hS hA rfl (fun j hj => by rcases (show j = 0 ∨ j = 1 ∨ j = 2 ∨ j = 3 ∨ j = 4 ∨ j = 5 ∨ j = 6 ∨ j = 7 ∨ j = 8 ∨ j = 9 ∨ j = 10 ∨ j = 11 ∨ j = 12 ∨ j = 13 ∨ j = 14 ∨ j = 15 ∨ j = 16 ∨ j = 17 ∨ j = 18 ∨ j = 19 ∨ j = 20 ∨ j = 21 ∨ j = 22 ∨ j = 23 ∨ j = 24 ∨ j = 25 ∨ j = 26 ∨ j = 27 ∨ j = 28 ∨ j = 29 ∨ j = 30 ∨ j = 31 ∨ j = 32 ∨ j = 33 ∨ j = 34 ∨ j = 35 ∨ j = 36 ∨ j = 37 ∨ j = 38 ∨ j = 39 by omega) with rfl | rfl | rfl | rfl | rfl | rfl | rfl | rfl | rfl | rfl | rfl | rfl | rfl | rfl | rfl | rfl | rfl | rfl | rfl | rfl | rfl | rfl | rfl | rfl | rfl | rfl | rfl | rfl | rfl | rfl | rfl | rfl | rfl | rfl | rfl | rfl | rfl | rfl | rfl | rfl <;> rfl) (by decide) (by decide) dL_law_8 (fun a1 H2 hP hD hS => ?_)
  refine lv_dup hx hb dL_law_11 rfl ?_
  have hG9 : GoodIn TT (.code yX9_init cX9_init 1 none :: TT) := fun w h => by
    rcases List.mem_cons.mp h with rfl | h
    · exact ⟨wv_4_117, TTg _ wv_4_117⟩
    · exact ⟨h, TTg w h⟩
  have hlen : (wsC1 a0 H.size cI cJ).length = 30 := rfl
  have hat : (wsC1 a0 H.size cI cJ ++ [(a1, .inr (7, [.int 0, .null, .null, .null, .null, .int 0, .int 0, .null, .null, .null, .int 0, .null, .null, .int 0, .null, .null, .int 0, .null, .int 0, .int 0, .int 0, .int 0, .null, .null, .null, .null, .null, .int 0, .int 0, .int 0, .null, .null, .null, .int 0, .int 0, .null, .null, .int 0, .null, .null]))])[30]? = some (a1, .inr (7, [.int 0, .null, .null, .null, .null, .int 0, .int 0, .null, .null, .null, .int 0, .null, .null, .int 0, .null, .null, .int 0, .null, .int 0, .int 0, .int 0, .int 0, .null, .null, .null, .null, .null, .int 0, .int 0, .int 0, .null, .null, .null, .int 0, .int 0, .null, .null, .int 0, .null, .null])) := rfl
  have hPc : va_P (dC, dI) vwCl [(a1, .inr (7, [.int 0, .null, .null, .null, .null, .int 0, .int 0, .null, .null, .null, .int 0, .null, .null, .int 0, .null, .null, .int 0, .null, .int 0, .int 0, .int 0, .int 0, .null, .null, .null, .null, .null, .int 0, .int 0, .int 0, .null, .null, .null, .int 0, .int 0, .null, .null, .int 0, .null, .null]))] H2 := fun k q hq => by
    have hk : k < 1 := (List.getElem?_eq_some_iff.mp hq).1
    rw [show k = 0 by omega] at hq
    cases hq
    exact hP 30 _ hat
  have hDc : va_D (fun q : Nat => s.heap.size ≤ q) [(a1, .inr (7, [.int 0, .null, .null, .null, .null, .int 0, .int 0, .null, .null, .null, .int 0, .null, .null, .int 0, .null, .null, .int 0, .null, .int 0, .int 0, .int 0, .int 0, .null, .null, .null, .null, .null, .int 0, .int 0, .int 0, .null, .null, .null, .int 0, .int 0, .null, .null, .int 0, .null, .null]))] := l_right hD
  refine kcall_go (D := (dC, dI)) (cI := cI) (cJ := cJ) (ws := wsC1 a0 H.size cI cJ ++ [(a1, .inr (7, [.int 0, .null, .null, .null, .null, .int 0, .int 0, .null, .null, .null, .int 0, .null, .null, .int 0, .null, .null, .int 0, .null, .int 0, .int 0, .int 0, .int 0, .null, .null, .null, .null, .null, .int 0, .int 0, .int 0, .null, .null, .null, .int 0, .int 0, .null, .null, .int 0, .null, .null]))]) (sz := H2.size) (wsc := [(a1, .inr (7, [.int 0, .null, .null, .null, .null, .int 0, .int 0, .null, .null, .null, .int 0, .null, .null, .int 0, .null, .null, .int 0, .null, .int 0, .int 0, .int 0, .int 0, .null, .null, .null, .null, .null, .int 0, .int 0, .int 0, .null, .null, .null, .int 0, .int 0, .null, .null, .int 0, .null, .null]))]) (wr := wsC1 a0 H.size cI cJ) (w1 := wsM1 a1 H2.size cI cJ) (a := #[Value.ref a1]) (va_runI (As := []) (rest := [.ref a1]) hfix (ck9 cI cJ a1 H2.size l (dC, dI)) ⟨callB_of 0 hT hG9 rfl rfl rfl (hT _ wv_1_8) (hT _ wv_4_115) (by decide +kernel) ⟨by decide, by decide⟩, rfl, hT _ wv_4_116⟩ ⟨fun a U g mk z => ?_, fun U hU hW => ?_⟩ rfl rfl hl.1 rfl (lv_room (Nat.le_of_ble_eq_true rfl)) dL_law_12 ⟨by decide, by decide⟩) ⟨rfl, hK, hP, hD, hS⟩ hA [30] [0, 1, 2, 3, 4, 5, 6, 7, 8, 9, 10, 11, 12, 13, 14, 15, 16, 17, 18, 19, 20, 21, 22, 23, 24, 25, 26, 27, 28, 29] rfl rfl (by decide) (by decide) (fun H3 locs3 hw3 => ?_)
  · obtain ⟨z0, z1, z2, z3, z4, z5⟩ := z
    exact ⟨z0, z1, va_K.moved (u := U) (U := U.calling g mk a) (Vm.Alike.refl U.vm) z2, z3, z4, z5.calling⟩
  · exact ⟨rfl, by rw [hU], va_K.moved hW.alike hK, by rw [hU]; exact hPc, hDc.weaken (fun _ _ _ _ => trivial), hN8.warm hW⟩
  refine lv_astore_n (lv' := [(2, .ref a1), (1, .ref a0), (0, .ref b)]) hx hb dL_law_15 rfl hl (by decide) rfl (fun ls hl => ?_)
  refine lv_iconst (v := 0) hx hb dL_law_16 (by decide) ?_
  refine lv_istore_n (lv' := [(3, .int 0), (2, .ref a1), (1, .ref a0), (0, .ref b)]) hx hb dL_law_17 rfl hl (by decide) rfl (fun ls hl => ?_)
  obtain ⟨hz3, hK, hP, hD, hS⟩ := hw3
  have hpp := perm2 (permC a0 H.size cI cJ) (permM a1 H2.size cI cJ)
  have hP2 := sub_of_map hP _ hpp
  have hD2 := hD.sub _ (show va_nd ([0, 1, 7, 12, 14, 20, 26, 2, 3, 4, 5, 6, 8, 9, 10, 11, 13, 15, 16, 17, 18, 19, 21, 22, 23, 24, 25, 27, 28, 29, 30, 31, 32, 33, 34, 35, 36, 37, 38, 39, 40, 41, 42, 43, 44, 45, 46, 47, 48, 49, 50, 51, 52, 53, 54] : List Nat) = true by decide) hpp
  have hPl : va_P (dC, dI) vwCl (wC (adOf a0 H.size offC) cI cJ qC0) H3 := fun k q hq => hP2 k q (by rw [List.getElem?_append_left (List.getElem?_eq_some_iff.mp hq).1]; exact hq)
  have hPr : va_P (dC, dI) vwCl (wM (adOf a1 H2.size offM) cI cJ qM0) H3 := fun k q hq => hP2 ((wC (adOf a0 H.size offC) cI cJ qC0).length + k) q (by rw [List.getElem?_append_right (by omega), Nat.add_sub_cancel_left]; exact hq)
  exact law_loop (adC := adOf a0 H.size offC) (adM := adOf a1 H2.size offM) (J := fun lv st qC qM pc => ∀ (Hx : Heap) (locs : List Loc) (ls : Array Slot), WDL (dC, dI) (adOf a0 H.size offC) (adOf a1 H2.size offM) cI cJ (fun q => s.heap.size ≤ q) s qC qM Hx locs → lv_has ls 4 lv → W p l e room_1 s m #[Value.ref b] below meth c Hx locs 55 15215 (lw_Z below #[Value.ref b] s) (F0 m pc ls st)) ⟨p, l, e, s, m, below, meth, c, (dC, dI), cI, cJ, hfix, hr, hlocks, hX, hbl, hNW, rfl⟩ hL ho (L + 1) 0 qC0 qM0 (Nat.zero_le _) (by omega) h0 0 nI_0.symm H3 locs3 ls ⟨hK, hPl, hPr, hD2, hS⟩ (lv_sub hl [3, 2, 1, 0] rfl)
