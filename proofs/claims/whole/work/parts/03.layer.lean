/-! the layer: a method's body over a small state, the machine hidden behind J -/
abbrev SS : Type := (Nat → Int32) × (Nat → Nat → Int32) × (Nat → Int64)
abbrev WL : Type := (Nat → Nat) → ClassId → ClassId → SS → va_W
def ix (i : Int32) : Nat := i.toNatClampNeg
def fi (q : SS) (k : Nat) : Int32 := q.1 k
def ar (q : SS) (k : Nat) : Nat → Int32 := q.2.1 k
def lo (q : SS) : Nat → Int64 := q.2.2
def sf (q : SS) (k : Nat) (v : Int32) : SS := (fun j => if j = k then v else q.1 j, q.2)
def sa (q : SS) (k : Nat) (i : Nat) (v : Int32) : SS := (q.1, (fun j => if j = k then upd (q.2.1 j) i v else q.2.1 j), q.2.2)
def sl (q : SS) (i : Nat) (v : Int64) : SS := (q.1, q.2.1, vp_updL q.2.2 i v)
def jshl (x y : Int32) : Int32 := x <<< (y &&& 31)
def jshr (x y : Int32) : Int32 := x >>> (y &&& 31)
def jushr (x y : Int32) : Int32 := (x.toUInt32 >>> (y.toUInt32 &&& Int32.toUInt32 31)).toInt32
def jlushr (x : Int64) (y : Int32) : Int64 := (x.toUInt64 >>> (y.toInt64.toUInt64 &&& Int64.toUInt64 63)).toInt64
def jlshl (x : Int64) (y : Int32) : Int64 := x <<< (y.toInt64 &&& 63)
def jmin (x y : Int32) : Int32 := if y < x then y else x
def jlrem (x y : Int64) : Int64 := x - x / y * y
def ck {α : Type} (i : Int32) (n : Nat) (k : Option α) : Option α := if i < 0 ∨ n ≤ i.toNatClampNeg then none else k
def cz {α : Type} (v : Int32) (k : Option α) : Option α := if v = 0 ∨ v = 1 then k else none
def dz {α : Type} (v : Int32) (k : Option α) : Option α := if v = 0 then none else k
def dzl {α : Type} (v : Int64) (k : Option α) : Option α := if v = 0 then none else k
def bn {α β : Type} (e : α) (k : α → Option β) : Option β := k e
def bd {α β : Type} (o : Option α) (k : α → Option β) : Option β := match o with
  | none => none
  | some a => k a
def bd2 {α γ β : Type} (o : Option (α × γ)) (k : α → γ → Option β) : Option β := match o with
  | none => none
  | some (a, c) => k a c
theorem ck_some {α : Type} {i : Int32} {n : Nat} {k : Option α} {x : α} (h : ck i n k = some x) : vp_in i n ∧ k = some x := by
  unfold ck at h
  by_cases c : i < 0 ∨ n ≤ i.toNatClampNeg
  · rw [if_pos c] at h; cases h
  · rw [if_neg c] at h; exact ⟨c, h⟩
theorem cz_some {α : Type} {v : Int32} {k : Option α} {x : α} (h : cz v k = some x) : (v = 0 ∨ v = 1) ∧ k = some x := by
  unfold cz at h
  by_cases c : v = 0 ∨ v = 1
  · rw [if_pos c] at h; exact ⟨c, h⟩
  · rw [if_neg c] at h; cases h
theorem dz_some {α : Type} {v : Int32} {k : Option α} {x : α} (h : dz v k = some x) : (¬ v = 0) ∧ k = some x := by
  unfold dz at h
  by_cases c : v = 0
  · rw [if_pos c] at h; cases h
  · rw [if_neg c] at h; exact ⟨c, h⟩
theorem dzl_some {α : Type} {v : Int64} {k : Option α} {x : α} (h : dzl v k = some x) : (¬ v = 0) ∧ k = some x := by
  unfold dzl at h
  by_cases c : v = 0
  · rw [if_pos c] at h; cases h
  · rw [if_neg c] at h; exact ⟨c, h⟩
theorem bn_some {α β : Type} {e : α} {k : α → Option β} {x : β} (h : bn e k = some x) : ∃ y, y = e ∧ k y = some x := ⟨e, rfl, h⟩
theorem bd_some {α β : Type} {o : Option α} {k : α → Option β} {x : β} (h : bd o k = some x) : ∃ y, o = some y ∧ k y = some x := by
  cases o with
  | none => cases h
  | some a => exact ⟨a, rfl, h⟩
theorem bd2_some {α γ β : Type} {o : Option (α × γ)} {k : α → γ → Option β} {x : β} (h : bd2 o k = some x) : ∃ y z, o = some (y, z) ∧ k y z = some x := by
  cases o with
  | none => cases h
  | some a => exact ⟨a.1, a.2, rfl, h⟩
theorem mu_noneF {α : Type} {x : α} {G : Prop} (h : (none : Option α) = some x) : G := by cases h
theorem TTg : ∀ w ∈ TT, (w.onTables && w.keeps) = true ∨ ∃ ty, w = .arrayClass ty := fun w hw => good_of_word (List.mem_filter.mp hw).2
def rmN (n : Nat) : Room := { frames := 2 * n, cells := 0, slots := 0, locals := 100 * n }
def tyA (cI cJ : ClassId) : List (ClassId × FieldType) := [(cI, .int), (cJ, .long)]
def WD (wl : WL) (D : va_G) (ad : Nat → Nat) (cI cJ : ClassId) (A : Nat → Prop) (s : State) (q : SS) (H : Heap) (locs : List Loc) : Prop :=
  va_K D vwCl (tyA cI cJ) s ∧ va_P D vwCl (wl ad cI cJ q) H ∧ va_D A (wl ad cI cJ q) ∧ va_S A s.heap H locs
abbrev JT : Type := List (Nat × Value) → List Value → SS → Nat → Prop
abbrev PT : Type := Option Value → SS → Prop
def QQ (wl : WL) (D : va_G) (ad : Nat → Nat) (cI cJ : ClassId) (A : Nat → Prop) (P : PT) : Array Value → State → Outcome → State → Prop := fun _ st oc t =>
  (∃ (v : Option Value) (q : SS), oc = .returned v ∧ P v q ∧ va_P D vwCl (wl ad cI cJ q) t.heap ∧ va_K D vwCl (tyA cI cJ) t ∧ va_D A (wl ad cI cJ q)) ∧ va_F A st t
/-- the one call of a nest mate's private method -/
def NW (U : State) : Prop := va_Nw (.methodLinkNest RX0 121 yX8_isLetter RX8) U
theorem NW.warm {s U : State} (hW : s.WarmedH U.vm) (h : NW s) : NW U := va_Nw.warmM hW h
theorem NW.calling {U : State} {g : JFrame} {mk : MethodId} {a : Array Value} (h : NW U) : NW (U.calling g mk a) := va_Nw.same rfl rfl h
def Rl (wl : WL) (n : Nat) (own : String) (cc : ByteArray) (nL : Nat) (ret : Option FieldType) (ad : Nat → Nat) (J : JT) (P : PT) : Prop :=
  ∃ (p : Program) (l : Launch) (e : Env) (s : State) (m : MethodId) (args : Array Value) (below : List Frame) (meth : Method) (c : Code) (D : va_G) (cI cJ : ClassId) (A : Nat → Prop),
    CallFix p m c cc nL s args TT own ∧ meth.sig.returnType = ret ∧ meth.locks = false ∧ (∀ q, s.heap.size ≤ q → A q) ∧ NW s ∧
    J = fun lv st q pc => ∀ (H : Heap) (locs : List Loc) (ls : Array Slot), WD wl D ad cI cJ A s q H locs → lv_has ls nL lv → W p l e (rmN n) s m args below meth c H locs 0 0 (MQ below (QQ wl D ad cI cJ A P) args s 0 0 A) (F0 m pc ls st)
/-- a method's contract: from the state q with these arguments it returns v and leaves the state q2 -/
def Ct (wl : WL) (n : Nat) (y : MethodName) (cc : ByteArray) (maxL : Nat) (ret : Option FieldType) (av : (Nat → Nat) → List Value) (q : SS) (v : (Nat → Nat) → Option Value) (q2 : SS) : Prop :=
  ∀ (l : Launch) (D : va_G) (ad : Nat → Nat) (cI cJ : ClassId) (sz : Nat), Met l y (.code y cc maxL ret :: TT) (rmN n)
    (va_Pc (av ad) (fun U => U.heap.size = sz ∧ va_K D vwCl (tyA cI cJ) U ∧ va_P D vwCl (wl ad cI cJ q) U.heap ∧ va_D (fun _ => True) (wl ad cI cJ q) ∧ NW U))
    (QQ wl D ad cI cJ (va_A (wl ad cI cJ q) sz) (fun v2 q3 => v2 = v ad ∧ q3 = q2)) 0 0 (va_A (wl ad cI cJ q) sz)
theorem ct_of {wl : WL} {n : Nat} {y : MethodName} {cc : ByteArray} {maxL : Nat} {ret : Option FieldType} {av : (Nat → Nat) → List Value} {q : SS} {v : (Nat → Nat) → Option Value} {q2 : SS} (hy : plainName y.cls = true)
    (hlen : ∀ ad, (lg_sl (av ad)).length ≤ maxL) (h : ∀ (ad : Nat → Nat) (J : JT), Rl wl n y.cls cc maxL ret ad J (fun v2 q3 => v2 = v ad ∧ q3 = q2) → J (lv_args 0 (av ad)) [] q 0) : Ct wl n y cc maxL ret av q v q2 := by
  intro l D ad cI cJ sz
  refine Met.ofW (cc := cc) (maxL := maxL) (ret := ret) hy rfl ?_
  intro p e s m args below meth c s₁ B hml hv
  obtain ⟨rfl, hsz, hK, hP, hD0, hN⟩ := hv
  have hts := atoms_spec (ws := .code y cc maxL ret :: TT) B.pre
  have hown : s.vm.findClass y.cls = some m.cls := findClass_of_methodNamed B.named
  subst hsz
  have hD := hD0.self (sz := s.heap.size)
  have hl := lv_entry (av ad) (n := maxL) (hlen ad)
  rw [lg_entry_eq]
  exact h ad _ ⟨p, l, e, s, m, (av ad).toArray, below, meth, c, D, cI, cJ, va_A (wl ad cI cJ q) s.heap.size, ⟨B.exec, B.bytes, hml, hown, fun w hw => hts w (List.mem_cons_of_mem _ hw)⟩, B.returns, B.notSynchronized, fun q h => Or.inr h, hN, rfl⟩ s.heap [] _ ⟨hK, hP, hD, va_S.rf⟩ hl
/-- what a call needs of the tables -/
def Cf (own : String) (n n2 np idx : Nat) (y : MethodName) (bytes : ByteArray) (maxL : Nat) (rt : Option FieldType) : Prop :=
  Cond.methodLink own idx y ∈ TT ∧ Cond.initialized y.cls ∈ TT ∧ Cond.code y bytes maxL rt ∈ TT ∧ (y.cls ≠ "java/lang/invoke/MethodHandle" ∧ y.cls ≠ "java/lang/invoke/VarHandle" ∧ (parseMethodDescriptor y.desc).map (fun d => d.parameters.length) = some np) ∧ n2 + 1 ≤ n ∧ maxL ≤ 60
section LayerCall
variable {wl : WL} {n : Nat} {own : String} {cc : ByteArray} {nL : Nat} {ret : Option FieldType} {ad : Nat → Nat} {J : JT} {P : PT}
variable {lv lv' : List (Nat × Value)} {st : List Value} {q q1 : SS} {pc : Nat}
theorem call_go {p : Program} {l : Launch} {e : Env} {s : State} {m : MethodId} {args : Array Value} {below : List Frame} {meth : Method} {c : Code} {D : va_G} {cI cJ : ClassId} {A : Nat → Prop} {H : Heap} {locs : List Loc} {ls : Array Slot} {Qr : State → Prop} {R : Room} {a : Array Value} {v : Option Value} {stk : List Value}
    (hr : va_Run p l e R s m args below meth c H locs 0 0 0 0 (F0 m pc ls stk) st (QQ wl D ad cI cJ (va_A (wl ad cI cJ q) H.size) (fun v2 q3 => v2 = v ∧ q3 = q1) a) (va_A (wl ad cI cJ q) H.size)) (hw : WD wl D ad cI cJ A s q H locs) (hA : ∀ x, s.heap.size ≤ x → A x)
    (kk : ∀ (H1 : Heap) (locs1 : List Loc), WD wl D ad cI cJ A s q1 H1 locs1 → W p l e R s m args below meth c H1 locs1 0 0 Qr (F0 m (pc + 3) ls (v.toList ++ st))) : W p l e R s m args below meth c H locs 0 0 Qr (F0 m pc ls stk) := by
  obtain ⟨hK, hP, hD, hS⟩ := hw
  have hF : ∀ x, va_A (wl ad cI cJ q) H.size x → A x := fun x h => by
    rcases h with ⟨k, e1, h⟩ | h
    · exact hD.2 k (x, e1) h
    · exact hA x (Nat.le_trans hS.1 h)
  intro T hT X
  obtain ⟨v1, st₀, t, T', L, h0, X', hL, e1, e2, ⟨⟨v2, q3, hv, ⟨rfl, rfl⟩, hP1, hK1, hD1⟩, hz, hk⟩, stp⟩ := hr T hT X
  cases hv
  rw [h0] at hz hk
  obtain ⟨t2, a1, b1⟩ := kk T'.heap (locs ++ L) ⟨hK, by rw [e1]; exact hP1, hD1.weaken (fun k x _ h => hF x.1 h), Nat.le_trans hS.1 (by rw [e1]; exact hz), fun x h1 h2 => by rw [e1, hk x (Nat.lt_of_lt_of_le h1 hS.1) (fun z => h2 (hF x z))]; exact hS.2.1 x h1 h2, fun x hx => by
    rcases List.mem_append.mp hx with h | h
    · exact hS.2.2 x h
    · exact hF _ (hL x h)⟩ T' rfl X'
  exact ⟨t2, stp t2 a1, b1⟩
theorem r_callV (hR : Rl wl n own cc nL ret ad J P) {n2 np idx maxL : Nat} {y : MethodName} {bytes : ByteArray} {rt : Option FieldType} {av : (Nat → Nat) → List Value} {v : (Nat → Nat) → Option Value} (hC : Ct wl n2 y bytes maxL rt av q v q1) (hcf : Cf own n n2 np idx y bytes maxL rt)
    (hi : Cond.instanceMethod y ∈ TT ∧ Cond.selects y.cls y y ∈ TT) {a : Nat} {As stk : List Value} (hav : av ad = .ref a :: As) (hlen : As.length = np) {q0 ci : Nat} {qc : vw_C} (hq : vwCl[ci]? = some qc) (hqn : qc.1 = y.cls) (hrc : ∀ cI cJ, ∃ fs, (wl ad cI cJ q)[q0]? = some (a, .inr (ci, fs)))
    (hst : (st.map fun v => v.category).sum ≤ 8) (hs : stk = As.reverse ++ .ref a :: st) (hdg : decode cc pc = .ok (.invokevirtual idx, 3)) (k : J lv ((v ad).toList ++ st) q1 (pc + 3)) : J lv stk q pc := by
  obtain ⟨p, l, e, s, m, args, below, meth, c, D, cI, cJ, A, hfix, hret, hlk, hA, hN, rfl⟩ := hR
  intro H locs ls hw hl
  have hw' := hw
  obtain ⟨hK, hP, hD, hS⟩ := hw'
  obtain ⟨h1, h2, h3, h4, h5, h6⟩ := hcf
  have hts := hfix.2.2.2.2
  obtain ⟨fs, he⟩ := hrc cI cJ
  have hG : GoodIn TT (.code y bytes maxL rt :: TT) := fun w h => by
    rcases List.mem_cons.mp h with rfl | h
    · exact ⟨h3, TTg _ h3⟩
    · exact ⟨h, TTg w h⟩
  have hM := hC l D ad cI cJ H.size
  have hcb : CallB (rmN n) s args own idx y bytes maxL rt (.code y bytes maxL rt :: TT) (rmN n2) 0 0 np := callB_of np hts hG rfl rfl rfl (hts _ h2) (hts _ h1) h4 ⟨show 2 * n2 + 1 ≤ 2 * n by omega, show 8 + (maxL + 11) + 100 * n2 ≤ 100 * n by omega⟩
  refine call_go (v := v ad) (a := (Value.ref a :: As).toArray) (va_runV (As := As) (rest := st) (C := y.cls) hfix hM ⟨hcb, hts _ hi.1, hts _ hi.2⟩ ⟨fun a U g mk z => ?_, ?_, fun U hU hW => ?_⟩ rfl hlen hl.1 hs (lv_room (m := m) (pc := pc) (ls := ls) (rest := st) hst) hdg ⟨Nat.le_refl 0, Nat.le_refl 0⟩) hw hA (fun H1 locs1 hw1 => k H1 locs1 ls hw1 hl)
  · obtain ⟨z0, z1, z2, z3, z4, z5⟩ := z
    exact ⟨z0, z1, va_K.moved (u := U) (U := U.calling g mk a) (Vm.Alike.refl U.vm) z2, z3, z4, z5.calling⟩
  · obtain ⟨cell, g1, g2, g3⟩ := va_recv hK hP hq he
    exact ⟨cell, g1, g2, by rw [← hqn]; exact g3⟩
  · exact ⟨by rw [hav], by rw [hU], va_K.moved hW.alike hK, by rw [hU]; exact hP, hD.weaken (fun _ _ _ _ => trivial), hN.warm hW⟩
theorem r_callS (hR : Rl wl n own cc nL ret ad J P) {n2 np idx maxL : Nat} {y : MethodName} {bytes : ByteArray} {rt : Option FieldType} {av : (Nat → Nat) → List Value} {v : (Nat → Nat) → Option Value} (hC : Ct wl n2 y bytes maxL rt av q v q1) (hcf : Cf own n n2 np idx y bytes maxL rt)
    (hi : Cond.static y ∈ TT) {As stk : List Value} (hav : av ad = As) (hlen : As.length = np) (hst : (st.map fun v => v.category).sum ≤ 8) (hs : stk = As.reverse ++ st) (hdg : decode cc pc = .ok (.invokestatic idx, 3)) (k : J lv ((v ad).toList ++ st) q1 (pc + 3)) : J lv stk q pc := by
  obtain ⟨p, l, e, s, m, args, below, meth, c, D, cI, cJ, A, hfix, hret, hlk, hA, hN, rfl⟩ := hR
  intro H locs ls hw hl
  have hw' := hw
  obtain ⟨hK, hP, hD, hS⟩ := hw'
  obtain ⟨h1, h2, h3, h4, h5, h6⟩ := hcf
  have hts := hfix.2.2.2.2
  have hG : GoodIn TT (.code y bytes maxL rt :: TT) := fun w h => by
    rcases List.mem_cons.mp h with rfl | h
    · exact ⟨h3, TTg _ h3⟩
    · exact ⟨h, TTg w h⟩
  have hM := hC l D ad cI cJ H.size
  have hcb : CallB (rmN n) s args own idx y bytes maxL rt (.code y bytes maxL rt :: TT) (rmN n2) 0 0 np := callB_of np hts hG rfl rfl rfl (hts _ h2) (hts _ h1) h4 ⟨show 2 * n2 + 1 ≤ 2 * n by omega, show 8 + (maxL + 11) + 100 * n2 ≤ 100 * n by omega⟩
  refine call_go (v := v ad) (a := As.toArray) (va_runS (As := As) (rest := st) hfix hM ⟨hcb, hts _ hi⟩ ⟨fun a U g mk z => ?_, fun U hU hW => ?_⟩ rfl hlen hl.1 hs (lv_room (m := m) (pc := pc) (ls := ls) (rest := st) hst) hdg ⟨Nat.le_refl 0, Nat.le_refl 0⟩) hw hA (fun H1 locs1 hw1 => k H1 locs1 ls hw1 hl)
  · obtain ⟨z0, z1, z2, z3, z4, z5⟩ := z
    exact ⟨z0, z1, va_K.moved (u := U) (U := U.calling g mk a) (Vm.Alike.refl U.vm) z2, z3, z4, z5.calling⟩
  · exact ⟨by rw [hav], by rw [hU], va_K.moved hW.alike hK, by rw [hU]; exact hP, hD.weaken (fun _ _ _ _ => trivial), hN.warm hW⟩
theorem r_callN (hR : Rl wl n RX0 cc nL ret ad J P) {n2 np maxL : Nat} {bytes : ByteArray} {rt : Option FieldType} {av : (Nat → Nat) → List Value} {v : (Nat → Nat) → Option Value} (hC : Ct wl n2 yX8_isLetter bytes maxL rt av q v q1) (hcf : Cond.initialized RX8 ∈ TT ∧ Cond.code yX8_isLetter bytes maxL rt ∈ TT ∧ (yX8_isLetter.cls ≠ "java/lang/invoke/MethodHandle" ∧ yX8_isLetter.cls ≠ "java/lang/invoke/VarHandle" ∧ (parseMethodDescriptor yX8_isLetter.desc).map (fun d => d.parameters.length) = some np) ∧ n2 + 1 ≤ n ∧ maxL ≤ 60)
    (hi : Cond.static yX8_isLetter ∈ TT) {As stk : List Value} (hav : av ad = As) (hlen : As.length = np) (hst : (st.map fun v => v.category).sum ≤ 8) (hs : stk = As.reverse ++ st) (hdg : decode cc pc = .ok (.invokestatic 121, 3)) (k : J lv ((v ad).toList ++ st) q1 (pc + 3)) : J lv stk q pc := by
  obtain ⟨p, l, e, s, m, args, below, meth, c, D, cI, cJ, A, hfix, hret, hlk, hA, hN, rfl⟩ := hR
  intro H locs ls hw hl
  have hw' := hw
  obtain ⟨hK, hP, hD, hS⟩ := hw'
  obtain ⟨h2, h3, h4, h5, h6⟩ := hcf
  have hts := hfix.2.2.2.2
  have hG : GoodIn TT (.code yX8_isLetter bytes maxL rt :: TT) := fun w h => by
    rcases List.mem_cons.mp h with rfl | h
    · exact ⟨h3, TTg _ h3⟩
    · exact ⟨h, TTg w h⟩
  have hM := hC l D ad cI cJ H.size
  have hcb : va_CN (rmN n) s args RX0 121 yX8_isLetter RX8 bytes maxL rt (.code yX8_isLetter bytes maxL rt :: TT) (rmN n2) 0 0 np := va_cnB np hts hG rfl rfl rfl hN (hts _ h2) h4 ⟨show 2 * n2 + 1 ≤ 2 * n by omega, show 8 + (maxL + 11) + 100 * n2 ≤ 100 * n by omega⟩
  refine call_go (v := v ad) (a := As.toArray) (va_runSN (As := As) (rest := st) hfix hM ⟨hcb, hts _ hi, trivial⟩ ⟨fun a U g mk z => ?_, fun U hU hW => ?_⟩ rfl hlen hl.1 hs (lv_room (m := m) (pc := pc) (ls := ls) (rest := st) hst) hdg ⟨Nat.le_refl 0, Nat.le_refl 0⟩) hw hA (fun H1 locs1 hw1 => k H1 locs1 ls hw1 hl)
  · obtain ⟨z0, z1, z2, z3, z4, z5⟩ := z
    exact ⟨z0, z1, va_K.moved (u := U) (U := U.calling g mk a) (Vm.Alike.refl U.vm) z2, z3, z4, z5.calling⟩
  · exact ⟨by rw [hav], by rw [hU], va_K.moved hW.alike hK, by rw [hU]; exact hP, hD.weaken (fun _ _ _ _ => trivial), hN.warm hW⟩
end LayerCall
section LayerRows
variable {wl : WL} {n : Nat} {own : String} {cc : ByteArray} {nL : Nat} {ret : Option FieldType} {ad : Nat → Nat} {J : JT} {P : PT}
variable {lv lv' : List (Nat × Value)} {st : List Value} {q q1 : SS} {pc : Nat}
theorem r_iadd (hR : Rl wl n own cc nL ret ad J P) {x y : Int32} (hdg : decode cc pc = .ok (.iadd, 1))  (k : J lv (.int (x + y) :: st) q (pc + 1)) : J lv (.int y :: .int x :: st) q pc := by
  obtain ⟨p, l, e, s, m, args, below, meth, c, D, cI, cJ, A, hfix, hret, hlk, hA, hN, rfl⟩ := hR
  intro H locs ls hw hl
  exact lv_iadd hfix.1 hfix.2.1 hdg  (k H locs ls hw hl)
theorem r_isub (hR : Rl wl n own cc nL ret ad J P) {x y : Int32} (hdg : decode cc pc = .ok (.isub, 1))  (k : J lv (.int (x - y) :: st) q (pc + 1)) : J lv (.int y :: .int x :: st) q pc := by
  obtain ⟨p, l, e, s, m, args, below, meth, c, D, cI, cJ, A, hfix, hret, hlk, hA, hN, rfl⟩ := hR
  intro H locs ls hw hl
  exact lv_isub hfix.1 hfix.2.1 hdg  (k H locs ls hw hl)
theorem r_imul (hR : Rl wl n own cc nL ret ad J P) {x y : Int32} (hdg : decode cc pc = .ok (.imul, 1))  (k : J lv (.int (x * y) :: st) q (pc + 1)) : J lv (.int y :: .int x :: st) q pc := by
  obtain ⟨p, l, e, s, m, args, below, meth, c, D, cI, cJ, A, hfix, hret, hlk, hA, hN, rfl⟩ := hR
  intro H locs ls hw hl
  exact lv_imul hfix.1 hfix.2.1 hdg  (k H locs ls hw hl)
theorem r_iand (hR : Rl wl n own cc nL ret ad J P) {x y : Int32} (hdg : decode cc pc = .ok (.iand, 1))  (k : J lv (.int (x &&& y) :: st) q (pc + 1)) : J lv (.int y :: .int x :: st) q pc := by
  obtain ⟨p, l, e, s, m, args, below, meth, c, D, cI, cJ, A, hfix, hret, hlk, hA, hN, rfl⟩ := hR
  intro H locs ls hw hl
  exact lv_iand hfix.1 hfix.2.1 hdg  (k H locs ls hw hl)
theorem r_ior (hR : Rl wl n own cc nL ret ad J P) {x y : Int32} (hdg : decode cc pc = .ok (.ior, 1))  (k : J lv (.int (x ||| y) :: st) q (pc + 1)) : J lv (.int y :: .int x :: st) q pc := by
  obtain ⟨p, l, e, s, m, args, below, meth, c, D, cI, cJ, A, hfix, hret, hlk, hA, hN, rfl⟩ := hR
  intro H locs ls hw hl
  exact lv_ior hfix.1 hfix.2.1 hdg  (k H locs ls hw hl)
theorem r_ixor (hR : Rl wl n own cc nL ret ad J P) {x y : Int32} (hdg : decode cc pc = .ok (.ixor, 1))  (k : J lv (.int (x ^^^ y) :: st) q (pc + 1)) : J lv (.int y :: .int x :: st) q pc := by
  obtain ⟨p, l, e, s, m, args, below, meth, c, D, cI, cJ, A, hfix, hret, hlk, hA, hN, rfl⟩ := hR
  intro H locs ls hw hl
  exact lv_ixor hfix.1 hfix.2.1 hdg  (k H locs ls hw hl)
theorem r_ishl (hR : Rl wl n own cc nL ret ad J P) {x y : Int32} (hdg : decode cc pc = .ok (.ishl, 1))  (k : J lv (.int (jshl x y) :: st) q (pc + 1)) : J lv (.int y :: .int x :: st) q pc := by
  obtain ⟨p, l, e, s, m, args, below, meth, c, D, cI, cJ, A, hfix, hret, hlk, hA, hN, rfl⟩ := hR
  intro H locs ls hw hl
  exact lv_ishl hfix.1 hfix.2.1 hdg  (k H locs ls hw hl)
theorem r_ishr (hR : Rl wl n own cc nL ret ad J P) {x y : Int32} (hdg : decode cc pc = .ok (.ishr, 1))  (k : J lv (.int (jshr x y) :: st) q (pc + 1)) : J lv (.int y :: .int x :: st) q pc := by
  obtain ⟨p, l, e, s, m, args, below, meth, c, D, cI, cJ, A, hfix, hret, hlk, hA, hN, rfl⟩ := hR
  intro H locs ls hw hl
  exact lv_ishr hfix.1 hfix.2.1 hdg  (k H locs ls hw hl)
theorem r_iushr (hR : Rl wl n own cc nL ret ad J P) {x y : Int32} (hdg : decode cc pc = .ok (.iushr, 1))  (k : J lv (.int (jushr x y) :: st) q (pc + 1)) : J lv (.int y :: .int x :: st) q pc := by
  obtain ⟨p, l, e, s, m, args, below, meth, c, D, cI, cJ, A, hfix, hret, hlk, hA, hN, rfl⟩ := hR
  intro H locs ls hw hl
  exact lv_iushr hfix.1 hfix.2.1 hdg rfl (k H locs ls hw hl)
theorem r_idiv (hR : Rl wl n own cc nL ret ad J P) {x y : Int32} (hdg : decode cc pc = .ok (.idiv, 1)) (hne : ¬ y = 0) (k : J lv (.int (x / y) :: st) q (pc + 1)) : J lv (.int y :: .int x :: st) q pc := by
  obtain ⟨p, l, e, s, m, args, below, meth, c, D, cI, cJ, A, hfix, hret, hlk, hA, hN, rfl⟩ := hR
  intro H locs ls hw hl
  exact lv_idiv hfix.1 hfix.2.1 hdg hne (k H locs ls hw hl)
theorem r_ladd (hR : Rl wl n own cc nL ret ad J P) {x y : Int64} (hdg : decode cc pc = .ok (.ladd, 1))  (k : J lv (.long (x + y) :: st) q (pc + 1)) : J lv (.long y :: .long x :: st) q pc := by
  obtain ⟨p, l, e, s, m, args, below, meth, c, D, cI, cJ, A, hfix, hret, hlk, hA, hN, rfl⟩ := hR
  intro H locs ls hw hl
  exact lv_ladd hfix.1 hfix.2.1 hdg  (k H locs ls hw hl)
theorem r_lsub (hR : Rl wl n own cc nL ret ad J P) {x y : Int64} (hdg : decode cc pc = .ok (.lsub, 1))  (k : J lv (.long (x - y) :: st) q (pc + 1)) : J lv (.long y :: .long x :: st) q pc := by
  obtain ⟨p, l, e, s, m, args, below, meth, c, D, cI, cJ, A, hfix, hret, hlk, hA, hN, rfl⟩ := hR
  intro H locs ls hw hl
  exact lv_lsub hfix.1 hfix.2.1 hdg  (k H locs ls hw hl)
theorem r_lmul (hR : Rl wl n own cc nL ret ad J P) {x y : Int64} (hdg : decode cc pc = .ok (.lmul, 1))  (k : J lv (.long (x * y) :: st) q (pc + 1)) : J lv (.long y :: .long x :: st) q pc := by
  obtain ⟨p, l, e, s, m, args, below, meth, c, D, cI, cJ, A, hfix, hret, hlk, hA, hN, rfl⟩ := hR
  intro H locs ls hw hl
  exact lv_lmul hfix.1 hfix.2.1 hdg  (k H locs ls hw hl)
theorem r_land (hR : Rl wl n own cc nL ret ad J P) {x y : Int64} (hdg : decode cc pc = .ok (.land, 1))  (k : J lv (.long (x &&& y) :: st) q (pc + 1)) : J lv (.long y :: .long x :: st) q pc := by
  obtain ⟨p, l, e, s, m, args, below, meth, c, D, cI, cJ, A, hfix, hret, hlk, hA, hN, rfl⟩ := hR
  intro H locs ls hw hl
  exact lv_land hfix.1 hfix.2.1 hdg  (k H locs ls hw hl)
theorem r_lor (hR : Rl wl n own cc nL ret ad J P) {x y : Int64} (hdg : decode cc pc = .ok (.lor, 1))  (k : J lv (.long (x ||| y) :: st) q (pc + 1)) : J lv (.long y :: .long x :: st) q pc := by
  obtain ⟨p, l, e, s, m, args, below, meth, c, D, cI, cJ, A, hfix, hret, hlk, hA, hN, rfl⟩ := hR
  intro H locs ls hw hl
  exact lv_lor hfix.1 hfix.2.1 hdg  (k H locs ls hw hl)
theorem r_ldiv (hR : Rl wl n own cc nL ret ad J P) {x y : Int64} (hdg : decode cc pc = .ok (.ldiv, 1)) (hne : ¬ y = 0) (k : J lv (.long (x / y) :: st) q (pc + 1)) : J lv (.long y :: .long x :: st) q pc := by
  obtain ⟨p, l, e, s, m, args, below, meth, c, D, cI, cJ, A, hfix, hret, hlk, hA, hN, rfl⟩ := hR
  intro H locs ls hw hl
  exact lv_ldiv hfix.1 hfix.2.1 hdg hne (k H locs ls hw hl)
theorem r_lrem (hR : Rl wl n own cc nL ret ad J P) {x y : Int64} (hdg : decode cc pc = .ok (.lrem, 1)) (hne : ¬ y = 0) (k : J lv (.long (jlrem x y) :: st) q (pc + 1)) : J lv (.long y :: .long x :: st) q pc := by
  obtain ⟨p, l, e, s, m, args, below, meth, c, D, cI, cJ, A, hfix, hret, hlk, hA, hN, rfl⟩ := hR
  intro H locs ls hw hl
  exact lv_lrem hfix.1 hfix.2.1 hdg hne (k H locs ls hw hl)
theorem r_lushr (hR : Rl wl n own cc nL ret ad J P) {x : Int64} {y : Int32} (hdg : decode cc pc = .ok (.lushr, 1))  (k : J lv (.long (jlushr x y) :: st) q (pc + 1)) : J lv (.int y :: .long x :: st) q pc := by
  obtain ⟨p, l, e, s, m, args, below, meth, c, D, cI, cJ, A, hfix, hret, hlk, hA, hN, rfl⟩ := hR
  intro H locs ls hw hl
  exact lv_lushr hfix.1 hfix.2.1 hdg rfl (k H locs ls hw hl)
theorem r_lshl (hR : Rl wl n own cc nL ret ad J P) {x : Int64} {y : Int32} (hdg : decode cc pc = .ok (.lshl, 1))  (k : J lv (.long (jlshl x y) :: st) q (pc + 1)) : J lv (.int y :: .long x :: st) q pc := by
  obtain ⟨p, l, e, s, m, args, below, meth, c, D, cI, cJ, A, hfix, hret, hlk, hA, hN, rfl⟩ := hR
  intro H locs ls hw hl
  exact lv_lshl hfix.1 hfix.2.1 hdg rfl (k H locs ls hw hl)
theorem r_i2l (hR : Rl wl n own cc nL ret ad J P) {x : Int32} (hdg : decode cc pc = .ok (.i2l, 1))  (k : J lv (.long x.toInt64 :: st) q (pc + 1)) : J lv (.int x :: st) q pc := by
  obtain ⟨p, l, e, s, m, args, below, meth, c, D, cI, cJ, A, hfix, hret, hlk, hA, hN, rfl⟩ := hR
  intro H locs ls hw hl
  exact lv_i2l hfix.1 hfix.2.1 hdg rfl (k H locs ls hw hl)
theorem r_l2i (hR : Rl wl n own cc nL ret ad J P) {x : Int64} (hdg : decode cc pc = .ok (.l2i, 1))  (k : J lv (.int x.toInt32 :: st) q (pc + 1)) : J lv (.long x :: st) q pc := by
  obtain ⟨p, l, e, s, m, args, below, meth, c, D, cI, cJ, A, hfix, hret, hlk, hA, hN, rfl⟩ := hR
  intro H locs ls hw hl
  exact lv_l2i hfix.1 hfix.2.1 hdg rfl (k H locs ls hw hl)
theorem r_lcmp (hR : Rl wl n own cc nL ret ad J P) {x y : Int64} (hdg : decode cc pc = .ok (.lcmp, 1))  (k : J lv (.int (lg_cmp x y) :: st) q (pc + 1)) : J lv (.long y :: .long x :: st) q pc := by
  obtain ⟨p, l, e, s, m, args, below, meth, c, D, cI, cJ, A, hfix, hret, hlk, hA, hN, rfl⟩ := hR
  intro H locs ls hw hl
  exact W.lcmp hfix.1 hfix.2.1 hdg  (k H locs ls hw hl)
theorem r_dup (hR : Rl wl n own cc nL ret ad J P) {va : Value} (hdg : decode cc pc = .ok (.dup, 1)) (hva : va.category = 1) (k : J lv (va :: va :: st) q (pc + 1)) : J lv (va :: st) q pc := by
  obtain ⟨p, l, e, s, m, args, below, meth, c, D, cI, cJ, A, hfix, hret, hlk, hA, hN, rfl⟩ := hR
  intro H locs ls hw hl
  exact lv_dup hfix.1 hfix.2.1 hdg hva (k H locs ls hw hl)
theorem r_pop (hR : Rl wl n own cc nL ret ad J P) {va : Value} (hdg : decode cc pc = .ok (.pop, 1)) (hva : va.category = 1) (k : J lv (st) q (pc + 1)) : J lv (va :: st) q pc := by
  obtain ⟨p, l, e, s, m, args, below, meth, c, D, cI, cJ, A, hfix, hret, hlk, hA, hN, rfl⟩ := hR
  intro H locs ls hw hl
  exact lv_pop hfix.1 hfix.2.1 hdg hva (k H locs ls hw hl)
theorem r_dup2 (hR : Rl wl n own cc nL ret ad J P) {va vb : Value} (hdg : decode cc pc = .ok (.dup2, 1)) (hva : va.category = 1) (hvb : vb.category = 1) (k : J lv (va :: vb :: va :: vb :: st) q (pc + 1)) : J lv (va :: vb :: st) q pc := by
  obtain ⟨p, l, e, s, m, args, below, meth, c, D, cI, cJ, A, hfix, hret, hlk, hA, hN, rfl⟩ := hR
  intro H locs ls hw hl
  exact lv_dup2_11 hfix.1 hfix.2.1 hdg hva hvb (k H locs ls hw hl)
theorem r_iconst (hR : Rl wl n own cc nL ret ad J P) {i : Int} {v : Int32} (hdg : decode cc pc = .ok (.iconst i, 1)) (hv : Int32.ofInt i = v) (k : J lv (.int v :: st) q (pc + 1)) : J lv (st) q pc := by
  obtain ⟨p, l, e, s, m, args, below, meth, c, D, cI, cJ, A, hfix, hret, hlk, hA, hN, rfl⟩ := hR
  intro H locs ls hw hl
  exact lv_iconst hfix.1 hfix.2.1 hdg hv (k H locs ls hw hl)
theorem r_bipush (hR : Rl wl n own cc nL ret ad J P) {i : Int} {v : Int32} (hdg : decode cc pc = .ok (.bipush i, 2)) (hv : (Int8.ofInt i).toInt32 = v) (k : J lv (.int v :: st) q (pc + 2)) : J lv (st) q pc := by
  obtain ⟨p, l, e, s, m, args, below, meth, c, D, cI, cJ, A, hfix, hret, hlk, hA, hN, rfl⟩ := hR
  intro H locs ls hw hl
  exact lv_bipush hfix.1 hfix.2.1 hdg hv (k H locs ls hw hl)
theorem r_sipush (hR : Rl wl n own cc nL ret ad J P) {i : Int} {v : Int32} (hdg : decode cc pc = .ok (.sipush i, 3)) (hv : (Int16.ofInt i).toInt32 = v) (k : J lv (.int v :: st) q (pc + 3)) : J lv (st) q pc := by
  obtain ⟨p, l, e, s, m, args, below, meth, c, D, cI, cJ, A, hfix, hret, hlk, hA, hN, rfl⟩ := hR
  intro H locs ls hw hl
  exact lv_sipush hfix.1 hfix.2.1 hdg hv (k H locs ls hw hl)
theorem r_lconst (hR : Rl wl n own cc nL ret ad J P) {i : Fin 2} {v : Int64} (hdg : decode cc pc = .ok (.lconst i, 1)) (hv : Int64.ofNat (i : Nat) = v) (k : J lv (.long v :: st) q (pc + 1)) : J lv (st) q pc := by
  obtain ⟨p, l, e, s, m, args, below, meth, c, D, cI, cJ, A, hfix, hret, hlk, hA, hN, rfl⟩ := hR
  intro H locs ls hw hl
  exact lv_lconst hfix.1 hfix.2.1 hdg hv (k H locs ls hw hl)
theorem r_ldcw (hR : Rl wl n own cc nL ret ad J P) {i : Nat} {v : Int32} (hdg : decode cc pc = .ok (.ldc_w i, 3)) (hm : Cond.constant own i v ∈ TT) (k : J lv (.int v :: st) q (pc + 3)) : J lv st q pc := by
  obtain ⟨p, l, e, s, m, args, below, meth, c, D, cI, cJ, A, hfix, hret, hlk, hA, hN, rfl⟩ := hR
  intro H locs ls hw hl
  exact lv_ldcw hfix.1 hfix.2.1 hfix.2.2.2.1 (hfix.2.2.2.2 _ hm) hdg (k H locs ls hw hl)
theorem r_ldc2 (hR : Rl wl n own cc nL ret ad J P) {i : Nat} {v : Int64} (hdg : decode cc pc = .ok (.ldc2_w i, 3)) (hm : Cond.constantLong own i v ∈ TT) (k : J lv (.long v :: st) q (pc + 3)) : J lv st q pc := by
  obtain ⟨p, l, e, s, m, args, below, meth, c, D, cI, cJ, A, hfix, hret, hlk, hA, hN, rfl⟩ := hR
  intro H locs ls hw hl
  exact lv_ldc2 hfix.1 hfix.2.1 hfix.2.2.2.1 (hfix.2.2.2.2 _ hm) hdg (k H locs ls hw hl)
theorem r_iload_n (hR : Rl wl n own cc nL ret ad J P) {kk : Fin 4} {i : Nat} {x : Int32} (hdg : decode cc pc = .ok (.iload_n kk, 1)) (hi : (kk : Nat) = i) (j : Nat) (hj : lv[j]? = some (i, .int x)) (k : J lv (.int x :: st) q (pc + 1)) : J lv st q pc := by
  obtain ⟨p, l, e, s, m, args, below, meth, c, D, cI, cJ, A, hfix, hret, hlk, hA, hN, rfl⟩ := hR
  intro H locs ls hw hl
  exact lv_iload_n hfix.1 hfix.2.1 hdg hi (lv_at hl j hj) (k H locs ls hw hl)
theorem r_iload (hR : Rl wl n own cc nL ret ad J P) {i : Nat} {x : Int32} (hdg : decode cc pc = .ok (.iload i, 2)) (j : Nat) (hj : lv[j]? = some (i, .int x)) (k : J lv (.int x :: st) q (pc + 2)) : J lv st q pc := by
  obtain ⟨p, l, e, s, m, args, below, meth, c, D, cI, cJ, A, hfix, hret, hlk, hA, hN, rfl⟩ := hR
  intro H locs ls hw hl
  exact lv_iload hfix.1 hfix.2.1 hdg (lv_at hl j hj) (k H locs ls hw hl)
theorem r_lload_n (hR : Rl wl n own cc nL ret ad J P) {kk : Fin 4} {i : Nat} {x : Int64} (hdg : decode cc pc = .ok (.lload_n kk, 1)) (hi : (kk : Nat) = i) (j : Nat) (hj : lv[j]? = some (i, .long x)) (k : J lv (.long x :: st) q (pc + 1)) : J lv st q pc := by
  obtain ⟨p, l, e, s, m, args, below, meth, c, D, cI, cJ, A, hfix, hret, hlk, hA, hN, rfl⟩ := hR
  intro H locs ls hw hl
  exact lv_lload_n hfix.1 hfix.2.1 hdg hi (lv_at hl j hj) (k H locs ls hw hl)
theorem r_lload (hR : Rl wl n own cc nL ret ad J P) {i : Nat} {x : Int64} (hdg : decode cc pc = .ok (.lload i, 2)) (j : Nat) (hj : lv[j]? = some (i, .long x)) (k : J lv (.long x :: st) q (pc + 2)) : J lv st q pc := by
  obtain ⟨p, l, e, s, m, args, below, meth, c, D, cI, cJ, A, hfix, hret, hlk, hA, hN, rfl⟩ := hR
  intro H locs ls hw hl
  exact lv_lload hfix.1 hfix.2.1 hdg (lv_at hl j hj) (k H locs ls hw hl)
theorem r_aload_n (hR : Rl wl n own cc nL ret ad J P) {kk : Fin 4} {i : Nat} {x : Nat} (hdg : decode cc pc = .ok (.aload_n kk, 1)) (hi : (kk : Nat) = i) (j : Nat) (hj : lv[j]? = some (i, .ref x)) (k : J lv (.ref x :: st) q (pc + 1)) : J lv st q pc := by
  obtain ⟨p, l, e, s, m, args, below, meth, c, D, cI, cJ, A, hfix, hret, hlk, hA, hN, rfl⟩ := hR
  intro H locs ls hw hl
  exact lv_aload_n hfix.1 hfix.2.1 hdg hi (lv_at hl j hj) (k H locs ls hw hl)
theorem r_aload (hR : Rl wl n own cc nL ret ad J P) {i : Nat} {x : Nat} (hdg : decode cc pc = .ok (.aload i, 2)) (j : Nat) (hj : lv[j]? = some (i, .ref x)) (k : J lv (.ref x :: st) q (pc + 2)) : J lv st q pc := by
  obtain ⟨p, l, e, s, m, args, below, meth, c, D, cI, cJ, A, hfix, hret, hlk, hA, hN, rfl⟩ := hR
  intro H locs ls hw hl
  exact lv_aload hfix.1 hfix.2.1 hdg (lv_at hl j hj) (k H locs ls hw hl)
theorem r_istore_n (hR : Rl wl n own cc nL ret ad J P) {kk : Fin 4} {i : Nat} {x x0 : Int32} (hdg : decode cc pc = .ok (.istore_n kk, 1)) (hx : x = x0) (hi : (kk : Nat) = i) (hn : i < nL) (hlv : (i, Value.int x) :: lv.filter (fun q => !(q.1 == i) && !(q.1 + 1 == i && q.2.category == 2)) = lv') (k : J lv' st q (pc + 1)) : J lv (.int x0 :: st) q pc := by
  obtain ⟨p, l, e, s, m, args, below, meth, c, D, cI, cJ, A, hfix, hret, hlk, hA, hN, rfl⟩ := hR
  intro H locs ls hw hl
  exact lv_istore_n hfix.1 hfix.2.1 hdg hi hl hn (hx ▸ hlv) (fun ls2 hl2 => k H locs ls2 hw hl2)
theorem r_istore (hR : Rl wl n own cc nL ret ad J P) {i : Nat} {x x0 : Int32} (hdg : decode cc pc = .ok (.istore i, 2)) (hx : x = x0) (hn : i < nL) (hlv : (i, Value.int x) :: lv.filter (fun q => !(q.1 == i) && !(q.1 + 1 == i && q.2.category == 2)) = lv') (k : J lv' st q (pc + 2)) : J lv (.int x0 :: st) q pc := by
  obtain ⟨p, l, e, s, m, args, below, meth, c, D, cI, cJ, A, hfix, hret, hlk, hA, hN, rfl⟩ := hR
  intro H locs ls hw hl
  exact lv_istore hfix.1 hfix.2.1 hdg hl hn (hx ▸ hlv) (fun ls2 hl2 => k H locs ls2 hw hl2)
theorem r_lstore_n (hR : Rl wl n own cc nL ret ad J P) {kk : Fin 4} {i : Nat} {x x0 : Int64} (hdg : decode cc pc = .ok (.lstore_n kk, 1)) (hx : x = x0) (hi : (kk : Nat) = i) (hn : i + 1 < nL) (hlv : (i, Value.long x) :: lv.filter (fun q => !(q.1 == i) && (!(q.1 == i + 1) && !(q.1 + 1 == i && q.2.category == 2))) = lv') (k : J lv' st q (pc + 1)) : J lv (.long x0 :: st) q pc := by
  obtain ⟨p, l, e, s, m, args, below, meth, c, D, cI, cJ, A, hfix, hret, hlk, hA, hN, rfl⟩ := hR
  intro H locs ls hw hl
  exact lv_lstore_n hfix.1 hfix.2.1 hdg hi hl hn (hx ▸ hlv) (fun ls2 hl2 => k H locs ls2 hw hl2)
theorem r_lstore (hR : Rl wl n own cc nL ret ad J P) {i : Nat} {x x0 : Int64} (hdg : decode cc pc = .ok (.lstore i, 2)) (hx : x = x0) (hn : i + 1 < nL) (hlv : (i, Value.long x) :: lv.filter (fun q => !(q.1 == i) && (!(q.1 == i + 1) && !(q.1 + 1 == i && q.2.category == 2))) = lv') (k : J lv' st q (pc + 2)) : J lv (.long x0 :: st) q pc := by
  obtain ⟨p, l, e, s, m, args, below, meth, c, D, cI, cJ, A, hfix, hret, hlk, hA, hN, rfl⟩ := hR
  intro H locs ls hw hl
  exact lv_lstore hfix.1 hfix.2.1 hdg hl hn (hx ▸ hlv) (fun ls2 hl2 => k H locs ls2 hw hl2)
theorem r_astore_n (hR : Rl wl n own cc nL ret ad J P) {kk : Fin 4} {i : Nat} {x x0 : Nat} (hdg : decode cc pc = .ok (.astore_n kk, 1)) (hx : x = x0) (hi : (kk : Nat) = i) (hn : i < nL) (hlv : (i, Value.ref x) :: lv.filter (fun q => !(q.1 == i) && !(q.1 + 1 == i && q.2.category == 2)) = lv') (k : J lv' st q (pc + 1)) : J lv (.ref x0 :: st) q pc := by
  obtain ⟨p, l, e, s, m, args, below, meth, c, D, cI, cJ, A, hfix, hret, hlk, hA, hN, rfl⟩ := hR
  intro H locs ls hw hl
  exact lv_astore_n hfix.1 hfix.2.1 hdg hi hl hn (hx ▸ hlv) (fun ls2 hl2 => k H locs ls2 hw hl2)
theorem r_astore (hR : Rl wl n own cc nL ret ad J P) {i : Nat} {x x0 : Nat} (hdg : decode cc pc = .ok (.astore i, 2)) (hx : x = x0) (hn : i < nL) (hlv : (i, Value.ref x) :: lv.filter (fun q => !(q.1 == i) && !(q.1 + 1 == i && q.2.category == 2)) = lv') (k : J lv' st q (pc + 2)) : J lv (.ref x0 :: st) q pc := by
  obtain ⟨p, l, e, s, m, args, below, meth, c, D, cI, cJ, A, hfix, hret, hlk, hA, hN, rfl⟩ := hR
  intro H locs ls hw hl
  exact lv_astore hfix.1 hfix.2.1 hdg hl hn (hx ▸ hlv) (fun ls2 hl2 => k H locs ls2 hw hl2)
theorem r_iinc (hR : Rl wl n own cc nL ret ad J P) {i : Nat} {d : Int} {x v : Int32} (hdg : decode cc pc = .ok (.iinc i d, 3)) (j : Nat) (hj : lv[j]? = some (i, .int x)) (hv : x + Int32.ofInt d = v) (hn : i < nL) (hlv : (i, Value.int v) :: lv.filter (fun q => !(q.1 == i) && !(q.1 + 1 == i && q.2.category == 2)) = lv') (k : J lv' st q (pc + 3)) : J lv st q pc := by
  obtain ⟨p, l, e, s, m, args, below, meth, c, D, cI, cJ, A, hfix, hret, hlk, hA, hN, rfl⟩ := hR
  intro H locs ls hw hl
  exact lv_iinc hfix.1 hfix.2.1 hdg hl hj hv hn hlv (fun ls2 hl2 => k H locs ls2 hw hl2)
theorem r_if_eq (hR : Rl wl n own cc nL ret ad J P) {x : Int32} {off : Int} {tgt : Nat} (hdg : decode cc pc = .ok (.ifCond .eq off, 3)) (ht : (pc : Int) + off = (tgt : Int)) (kt : x = 0 → J lv st q tgt) (kf : ¬ x = 0 → J lv st q (pc + 3)) : J lv (.int x :: st) q pc := by
  obtain ⟨p, l, e, s, m, args, below, meth, c, D, cI, cJ, A, hfix, hret, hlk, hA, hN, rfl⟩ := hR
  intro H locs ls hw hl
  exact lv_if_eq hfix.1 hfix.2.1 hdg ht (fun c => kt c H locs ls hw hl) (fun c => kf c H locs ls hw hl)
theorem r_icmp_eq (hR : Rl wl n own cc nL ret ad J P) {x y : Int32} {off : Int} {tgt : Nat} (hdg : decode cc pc = .ok (.if_icmp .eq off, 3)) (ht : (pc : Int) + off = (tgt : Int)) (kt : x = y → J lv st q tgt) (kf : ¬ x = y → J lv st q (pc + 3)) : J lv (.int y :: .int x :: st) q pc := by
  obtain ⟨p, l, e, s, m, args, below, meth, c, D, cI, cJ, A, hfix, hret, hlk, hA, hN, rfl⟩ := hR
  intro H locs ls hw hl
  exact lv_icmp_eq hfix.1 hfix.2.1 hdg ht (fun c => kt c H locs ls hw hl) (fun c => kf c H locs ls hw hl)
theorem r_if_ne (hR : Rl wl n own cc nL ret ad J P) {x : Int32} {off : Int} {tgt : Nat} (hdg : decode cc pc = .ok (.ifCond .ne off, 3)) (ht : (pc : Int) + off = (tgt : Int)) (kt : ¬ x = 0 → J lv st q tgt) (kf : x = 0 → J lv st q (pc + 3)) : J lv (.int x :: st) q pc := by
  obtain ⟨p, l, e, s, m, args, below, meth, c, D, cI, cJ, A, hfix, hret, hlk, hA, hN, rfl⟩ := hR
  intro H locs ls hw hl
  exact lv_if_ne hfix.1 hfix.2.1 hdg ht (fun c => kt c H locs ls hw hl) (fun c => kf c H locs ls hw hl)
theorem r_icmp_ne (hR : Rl wl n own cc nL ret ad J P) {x y : Int32} {off : Int} {tgt : Nat} (hdg : decode cc pc = .ok (.if_icmp .ne off, 3)) (ht : (pc : Int) + off = (tgt : Int)) (kt : ¬ x = y → J lv st q tgt) (kf : x = y → J lv st q (pc + 3)) : J lv (.int y :: .int x :: st) q pc := by
  obtain ⟨p, l, e, s, m, args, below, meth, c, D, cI, cJ, A, hfix, hret, hlk, hA, hN, rfl⟩ := hR
  intro H locs ls hw hl
  exact lv_icmp_ne hfix.1 hfix.2.1 hdg ht (fun c => kt c H locs ls hw hl) (fun c => kf c H locs ls hw hl)
theorem r_if_lt (hR : Rl wl n own cc nL ret ad J P) {x : Int32} {off : Int} {tgt : Nat} (hdg : decode cc pc = .ok (.ifCond .lt off, 3)) (ht : (pc : Int) + off = (tgt : Int)) (kt : x < 0 → J lv st q tgt) (kf : ¬ x < 0 → J lv st q (pc + 3)) : J lv (.int x :: st) q pc := by
  obtain ⟨p, l, e, s, m, args, below, meth, c, D, cI, cJ, A, hfix, hret, hlk, hA, hN, rfl⟩ := hR
  intro H locs ls hw hl
  exact lv_if_lt hfix.1 hfix.2.1 hdg ht (fun c => kt c H locs ls hw hl) (fun c => kf c H locs ls hw hl)
theorem r_icmp_lt (hR : Rl wl n own cc nL ret ad J P) {x y : Int32} {off : Int} {tgt : Nat} (hdg : decode cc pc = .ok (.if_icmp .lt off, 3)) (ht : (pc : Int) + off = (tgt : Int)) (kt : x < y → J lv st q tgt) (kf : ¬ x < y → J lv st q (pc + 3)) : J lv (.int y :: .int x :: st) q pc := by
  obtain ⟨p, l, e, s, m, args, below, meth, c, D, cI, cJ, A, hfix, hret, hlk, hA, hN, rfl⟩ := hR
  intro H locs ls hw hl
  exact lv_icmp_lt hfix.1 hfix.2.1 hdg ht (fun c => kt c H locs ls hw hl) (fun c => kf c H locs ls hw hl)
theorem r_if_ge (hR : Rl wl n own cc nL ret ad J P) {x : Int32} {off : Int} {tgt : Nat} (hdg : decode cc pc = .ok (.ifCond .ge off, 3)) (ht : (pc : Int) + off = (tgt : Int)) (kt : 0 ≤ x → J lv st q tgt) (kf : ¬ 0 ≤ x → J lv st q (pc + 3)) : J lv (.int x :: st) q pc := by
  obtain ⟨p, l, e, s, m, args, below, meth, c, D, cI, cJ, A, hfix, hret, hlk, hA, hN, rfl⟩ := hR
  intro H locs ls hw hl
  exact lv_if_ge hfix.1 hfix.2.1 hdg ht (fun c => kt c H locs ls hw hl) (fun c => kf c H locs ls hw hl)
theorem r_icmp_ge (hR : Rl wl n own cc nL ret ad J P) {x y : Int32} {off : Int} {tgt : Nat} (hdg : decode cc pc = .ok (.if_icmp .ge off, 3)) (ht : (pc : Int) + off = (tgt : Int)) (kt : y ≤ x → J lv st q tgt) (kf : ¬ y ≤ x → J lv st q (pc + 3)) : J lv (.int y :: .int x :: st) q pc := by
  obtain ⟨p, l, e, s, m, args, below, meth, c, D, cI, cJ, A, hfix, hret, hlk, hA, hN, rfl⟩ := hR
  intro H locs ls hw hl
  exact lv_icmp_ge hfix.1 hfix.2.1 hdg ht (fun c => kt c H locs ls hw hl) (fun c => kf c H locs ls hw hl)
theorem r_if_gt (hR : Rl wl n own cc nL ret ad J P) {x : Int32} {off : Int} {tgt : Nat} (hdg : decode cc pc = .ok (.ifCond .gt off, 3)) (ht : (pc : Int) + off = (tgt : Int)) (kt : 0 < x → J lv st q tgt) (kf : ¬ 0 < x → J lv st q (pc + 3)) : J lv (.int x :: st) q pc := by
  obtain ⟨p, l, e, s, m, args, below, meth, c, D, cI, cJ, A, hfix, hret, hlk, hA, hN, rfl⟩ := hR
  intro H locs ls hw hl
  exact lv_if_gt hfix.1 hfix.2.1 hdg ht (fun c => kt c H locs ls hw hl) (fun c => kf c H locs ls hw hl)
theorem r_icmp_gt (hR : Rl wl n own cc nL ret ad J P) {x y : Int32} {off : Int} {tgt : Nat} (hdg : decode cc pc = .ok (.if_icmp .gt off, 3)) (ht : (pc : Int) + off = (tgt : Int)) (kt : y < x → J lv st q tgt) (kf : ¬ y < x → J lv st q (pc + 3)) : J lv (.int y :: .int x :: st) q pc := by
  obtain ⟨p, l, e, s, m, args, below, meth, c, D, cI, cJ, A, hfix, hret, hlk, hA, hN, rfl⟩ := hR
  intro H locs ls hw hl
  exact lv_icmp_gt hfix.1 hfix.2.1 hdg ht (fun c => kt c H locs ls hw hl) (fun c => kf c H locs ls hw hl)
theorem r_if_le (hR : Rl wl n own cc nL ret ad J P) {x : Int32} {off : Int} {tgt : Nat} (hdg : decode cc pc = .ok (.ifCond .le off, 3)) (ht : (pc : Int) + off = (tgt : Int)) (kt : x ≤ 0 → J lv st q tgt) (kf : ¬ x ≤ 0 → J lv st q (pc + 3)) : J lv (.int x :: st) q pc := by
  obtain ⟨p, l, e, s, m, args, below, meth, c, D, cI, cJ, A, hfix, hret, hlk, hA, hN, rfl⟩ := hR
  intro H locs ls hw hl
  exact lv_if_le hfix.1 hfix.2.1 hdg ht (fun c => kt c H locs ls hw hl) (fun c => kf c H locs ls hw hl)
theorem r_icmp_le (hR : Rl wl n own cc nL ret ad J P) {x y : Int32} {off : Int} {tgt : Nat} (hdg : decode cc pc = .ok (.if_icmp .le off, 3)) (ht : (pc : Int) + off = (tgt : Int)) (kt : x ≤ y → J lv st q tgt) (kf : ¬ x ≤ y → J lv st q (pc + 3)) : J lv (.int y :: .int x :: st) q pc := by
  obtain ⟨p, l, e, s, m, args, below, meth, c, D, cI, cJ, A, hfix, hret, hlk, hA, hN, rfl⟩ := hR
  intro H locs ls hw hl
  exact lv_icmp_le hfix.1 hfix.2.1 hdg ht (fun c => kt c H locs ls hw hl) (fun c => kf c H locs ls hw hl)
theorem r_goto (hR : Rl wl n own cc nL ret ad J P) {off : Int} {tgt : Nat} (hdg : decode cc pc = .ok (.goto off, 3)) (ht : (pc : Int) + off = (tgt : Int)) (k : J lv st q tgt) : J lv st q pc := by
  obtain ⟨p, l, e, s, m, args, below, meth, c, D, cI, cJ, A, hfix, hret, hlk, hA, hN, rfl⟩ := hR
  intro H locs ls hw hl
  exact lv_goto hfix.1 hfix.2.1 hdg ht (k H locs ls hw hl)
theorem r_tableOut (hR : Rl wl n own cc nL ret ad J P) {dflt lo hi : Int} {offs : Array Int} {len : Nat} {x : Int32} {tgt : Nat} (hdg : decode cc pc = .ok (.tableswitch dflt lo hi offs, len)) (h : x.toInt < lo ∨ hi < x.toInt) (ht : (pc : Int) + dflt = (tgt : Int)) (k : J lv st q tgt) : J lv (.int x :: st) q pc := by
  obtain ⟨p, l, e, s, m, args, below, meth, c, D, cI, cJ, A, hfix, hret, hlk, hA, hN, rfl⟩ := hR
  intro H locs ls hw hl
  exact lv_tableOut hfix.1 hfix.2.1 hdg h ht (k H locs ls hw hl)
theorem r_tableIn (hR : Rl wl n own cc nL ret ad J P) {dflt lo hi : Int} {offs : Array Int} {len : Nat} {x : Int32} {off : Int} {tgt : Nat} (hdg : decode cc pc = .ok (.tableswitch dflt lo hi offs, len)) (h1 : ¬ x.toInt < lo) (h2 : ¬ hi < x.toInt) (ho : offs[(x.toInt - lo).toNat]? = some off) (ht : (pc : Int) + off = (tgt : Int)) (k : J lv st q tgt) : J lv (.int x :: st) q pc := by
  obtain ⟨p, l, e, s, m, args, below, meth, c, D, cI, cJ, A, hfix, hret, hlk, hA, hN, rfl⟩ := hR
  intro H locs ls hw hl
  exact lv_tableIn hfix.1 hfix.2.1 hdg h1 h2 ho ht (k H locs ls hw hl)
theorem r_lookup (hR : Rl wl n own cc nL ret ad J P) {dflt : Int} {ps : Array (Int × Int)} {len : Nat} {x : Int32} {off : Int} {tgt : Nat} (hdg : decode cc pc = .ok (.lookupswitch dflt ps, len)) (hp : (ps.toList.zip (ps.toList.drop 1)).all (fun (a, next) => a.1 < next.1) = true) (ho : Op.lookupswitch.offset ps.toList dflt x.toInt = off) (ht : (pc : Int) + off = (tgt : Int)) (k : J lv st q tgt) : J lv (.int x :: st) q pc := by
  obtain ⟨p, l, e, s, m, args, below, meth, c, D, cI, cJ, A, hfix, hret, hlk, hA, hN, rfl⟩ := hR
  intro H locs ls hw hl
  exact lv_lookup hfix.1 hfix.2.1 hdg hp ho ht (k H locs ls hw hl)
theorem r_sub (hR : Rl wl n own cc nL ret ad J P) (ks : List Nat) (hlv : lv_pick lv ks = lv') (k : J lv' st q pc) : J lv st q pc := by
  obtain ⟨p, l, e, s, m, args, below, meth, c, D, cI, cJ, A, hfix, hret, hlk, hA, hN, rfl⟩ := hR
  intro H locs ls hw hl
  exact k H locs ls hw (lv_sub hl ks hlv)
theorem r_iret (hR : Rl wl n own cc nL ret ad J P) {v : Int32} (hdg : decode cc pc = .ok (.ireturn, 1)) (hrt : ret = some .int) (hP : P (some (.int v)) q)  : J lv [.int v] q pc := by
  obtain ⟨p, l, e, s, m, args, below, meth, c, D, cI, cJ, A, hfix, hret, hlk, hA, hN, rfl⟩ := hR
  intro H locs ls hw hl
  exact W.iret hfix.1 hfix.2.1 (hret.trans hrt) (fun t ht hW => ⟨⟨_, q, rfl, hP, by rw [ht]; exact hw.2.1, va_K.moved hW.alike hw.1, hw.2.2.1⟩, hw.2.2.2.F ht⟩) hw.2.2.2.2.2 hdg hlk
theorem r_zret (hR : Rl wl n own cc nL ret ad J P) {v : Int32} (hdg : decode cc pc = .ok (.ireturn, 1)) (hrt : ret = some .boolean) (hz : v = 0 ∨ v = 1) (hP : P (some (.int v)) q)  : J lv [.int v] q pc := by
  obtain ⟨p, l, e, s, m, args, below, meth, c, D, cI, cJ, A, hfix, hret, hlk, hA, hN, rfl⟩ := hR
  intro H locs ls hw hl
  exact W.zret hfix.1 hfix.2.1 (hret.trans hrt) (by rcases hz with rfl | rfl <;> rfl) (fun t ht hW => ⟨⟨_, q, rfl, hP, by rw [ht]; exact hw.2.1, va_K.moved hW.alike hw.1, hw.2.2.1⟩, hw.2.2.2.F ht⟩) hw.2.2.2.2.2 hdg hlk
theorem r_lret (hR : Rl wl n own cc nL ret ad J P) {v : Int64} (hdg : decode cc pc = .ok (.lreturn, 1)) (hrt : ret = some .long) (hP : P (some (.long v)) q)  : J lv [.long v] q pc := by
  obtain ⟨p, l, e, s, m, args, below, meth, c, D, cI, cJ, A, hfix, hret, hlk, hA, hN, rfl⟩ := hR
  intro H locs ls hw hl
  exact W.lret hfix.1 hfix.2.1 (hret.trans hrt) (fun t ht hW => ⟨⟨_, q, rfl, hP, by rw [ht]; exact hw.2.1, va_K.moved hW.alike hw.1, hw.2.2.1⟩, hw.2.2.2.F ht⟩) hw.2.2.2.2.2 hdg hlk
theorem r_vret (hR : Rl wl n own cc nL ret ad J P)  (hdg : decode cc pc = .ok (.return_, 1)) (hrt : ret = none) (hP : P none q)  : J lv [] q pc := by
  obtain ⟨p, l, e, s, m, args, below, meth, c, D, cI, cJ, A, hfix, hret, hlk, hA, hN, rfl⟩ := hR
  intro H locs ls hw hl
  exact W.vret hfix.1 hfix.2.1 (hret.trans hrt) (fun t ht hW => ⟨⟨_, q, rfl, hP, by rw [ht]; exact hw.2.1, va_K.moved hW.alike hw.1, hw.2.2.1⟩, hw.2.2.2.F ht⟩) hw.2.2.2.2.2 hdg hlk
theorem r_aret (hR : Rl wl n own cc nL ret ad J P) {a : Nat} {ty : FieldType} (hdg : decode cc pc = .ok (.areturn, 1)) (hrt : ret = some (.array ty)) (hP : P (some (.ref a)) q)  : J lv [.ref a] q pc := by
  obtain ⟨p, l, e, s, m, args, below, meth, c, D, cI, cJ, A, hfix, hret, hlk, hA, hN, rfl⟩ := hR
  intro H locs ls hw hl
  exact W.aret hfix.1 hfix.2.1 (hret.trans hrt) (Or.inr ⟨ty, rfl⟩) (Or.inr ⟨a, rfl⟩) (fun t ht hW => ⟨⟨_, q, rfl, hP, by rw [ht]; exact hw.2.1, va_K.moved hW.alike hw.1, hw.2.2.1⟩, hw.2.2.2.F ht⟩) hw.2.2.2.2.2 hdg hlk
theorem r_get (hR : Rl wl n own cc nL ret ad J P) {q0 ci idx a : Nat} {fs : List Value} {C : String} {T : u_T} {N : Nat} {v : Value} (hdg : decode cc pc = .ok (.getfield idx, 3)) (he : ∀ cI cJ, (wl ad cI cJ q)[q0]? = some (a, .inr (ci, fs))) (hc : vwCl[ci]? = some (C, T, N)) (hin : ∀ w ∈ u_ws C T N, w ∈ TT) (j : Nat) (hj : j < N) (hlink : Cond.fieldLink own idx (T j).1 (T j).2.1 (T j).2.2.1 ∈ TT) (hv : fs[j]? = some v) (k : J lv (v :: st) q (pc + 3)) : J lv (.ref a :: st) q pc := by
  obtain ⟨p, l, e, s, m, args, below, meth, c, D, cI, cJ, A, hfix, hret, hlk, hA, hN, rfl⟩ := hR
  intro H locs ls hw hl
  exact va_get hfix.1 hfix.2.1 hfix.2.2.2.2 hin hfix.2.2.2.1 hw.1 hw.2.1 q0 (he cI cJ) hc j hj (hfix.2.2.2.2 _ hlink) (fun _ h9 => h9) hv hdg (k H locs ls hw hl)
theorem r_put (hR : Rl wl n own cc nL ret ad J P) {q0 ci idx a : Nat} {fs : List Value} {C : String} {T : u_T} {N : Nat} {v : Value} {ty : FieldType} (hdg : decode cc pc = .ok (.putfield idx, 3)) (he : ∀ cI cJ, (wl ad cI cJ q)[q0]? = some (a, .inr (ci, fs))) (hc : vwCl[ci]? = some (C, T, N)) (hin : ∀ w ∈ u_ws C T N, w ∈ TT) (ty0 : Nat → FieldType) (hty : ∀ k, k < N → parseFieldDescriptor (T k).2.2.1 = some (ty0 k)) (hnm : ∀ a, a < N → ∀ b, b < N → a ≠ b → (T a).2.1 ≠ (T b).2.1) (j : Nat) (hj : j < N) (hlink : Cond.fieldLink own idx (T j).1 (T j).2.1 (T j).2.2.1 ∈ TT) (hfin : (T j).2.2.2 = false) (hd : parseFieldDescriptor (T j).2.2.1 = some ty) (hn : narrow ty v = v) (hfit : fits ty v = true) (hfl : j < fs.length) (hset : ∀ cI cJ, (wl ad cI cJ q).set q0 (a, .inr (ci, fs.set j v)) = wl ad cI cJ q1) (k : J lv st q1 (pc + 3)) : J lv (v :: .ref a :: st) q pc := by
  obtain ⟨p, l, e, s, m, args, below, meth, c, D, cI, cJ, A, hfix, hret, hlk, hA, hN, rfl⟩ := hR
  intro H locs ls hw hl
  exact va_put hfix.1 hfix.2.1 hfix.2.2.2.2 hin ty0 hty hnm hfix.2.2.2.1 hw.1 hw.2.1 hw.2.2.1 hw.2.2.2 q0 (he cI cJ) hc j hj (hfix.2.2.2.2 _ hlink) (fun _ h9 => h9) hfin hd hn hfit hfl hdg (fun H1 locs1 a1 a2 a3 => k H1 locs1 ls ⟨hw.1, hset cI cJ ▸ a1, hset cI cJ ▸ a2, a3⟩ hl)
theorem r_iald (hR : Rl wl n own cc nL ret ad J P) {q0 a len : Nat} {f : Nat → Int32} {i : Int32} (hdg : decode cc pc = .ok (.iaload, 1)) (he : ∀ cI cJ, (wl ad cI cJ q)[q0]? = some (a, .inl (cI, len, .inl f))) (hin : vp_in i len) (k : J lv (.int (f (ix i)) :: st) q (pc + 1)) : J lv (.int i :: .ref a :: st) q pc := by
  obtain ⟨p, l, e, s, m, args, below, meth, c, D, cI, cJ, A, hfix, hret, hlk, hA, hN, rfl⟩ := hR
  intro H locs ls hw hl
  exact va_iald hfix.1 hfix.2.1 hw.1 hw.2.1 q0 0 (he cI cJ) rfl hin hdg (k H locs ls hw hl)
theorem r_lald (hR : Rl wl n own cc nL ret ad J P) {q0 a len : Nat} {f : Nat → Int64} {i : Int32} (hdg : decode cc pc = .ok (.laload, 1)) (he : ∀ cI cJ, (wl ad cI cJ q)[q0]? = some (a, .inl (cJ, len, .inr (.inl f)))) (hin : vp_in i len) (k : J lv (.long (f (ix i)) :: st) q (pc + 1)) : J lv (.int i :: .ref a :: st) q pc := by
  obtain ⟨p, l, e, s, m, args, below, meth, c, D, cI, cJ, A, hfix, hret, hlk, hA, hN, rfl⟩ := hR
  intro H locs ls hw hl
  exact va_lald hfix.1 hfix.2.1 hw.1 hw.2.1 q0 1 (he cI cJ) rfl hin hdg (k H locs ls hw hl)
theorem r_iast (hR : Rl wl n own cc nL ret ad J P) {q0 a len : Nat} {f : Nat → Int32} {i x : Int32} (hdg : decode cc pc = .ok (.iastore, 1)) (he : ∀ cI cJ, (wl ad cI cJ q)[q0]? = some (a, .inl (cI, len, .inl f))) (hset : ∀ cI cJ, (wl ad cI cJ q).set q0 (a, .inl (cI, len, .inl (upd f (ix i) x))) = wl ad cI cJ q1) (hin : vp_in i len) (k : J lv st q1 (pc + 1)) : J lv (.int x :: .int i :: .ref a :: st) q pc := by
  obtain ⟨p, l, e, s, m, args, below, meth, c, D, cI, cJ, A, hfix, hret, hlk, hA, hN, rfl⟩ := hR
  intro H locs ls hw hl
  exact va_iast hfix.1 hfix.2.1 hw.1 hw.2.1 hw.2.2.1 hw.2.2.2 q0 0 (he cI cJ) rfl hin hdg (fun H1 locs1 a1 a2 a3 => k H1 locs1 ls ⟨hw.1, hset cI cJ ▸ a1, hset cI cJ ▸ a2, a3⟩ hl)
theorem r_last (hR : Rl wl n own cc nL ret ad J P) {q0 a len : Nat} {f : Nat → Int64} {i : Int32} {x : Int64} (hdg : decode cc pc = .ok (.lastore, 1)) (he : ∀ cI cJ, (wl ad cI cJ q)[q0]? = some (a, .inl (cJ, len, .inr (.inl f)))) (hset : ∀ cI cJ, (wl ad cI cJ q).set q0 (a, .inl (cJ, len, .inr (.inl (vp_updL f (ix i) x)))) = wl ad cI cJ q1) (hin : vp_in i len) (k : J lv st q1 (pc + 1)) : J lv (.long x :: .int i :: .ref a :: st) q pc := by
  obtain ⟨p, l, e, s, m, args, below, meth, c, D, cI, cJ, A, hfix, hret, hlk, hA, hN, rfl⟩ := hR
  intro H locs ls hw hl
  exact va_last hfix.1 hfix.2.1 hw.1 hw.2.1 hw.2.2.1 hw.2.2.2 q0 1 (he cI cJ) rfl hin hdg (fun H1 locs1 a1 a2 a3 => k H1 locs1 ls ⟨hw.1, hset cI cJ ▸ a1, hset cI cJ ▸ a2, a3⟩ hl)
theorem r_alen (hR : Rl wl n own cc nL ret ad J P) {q0 a : Nat} {x : ClassId → ClassId → ClassId × vp_A} {v : Int32} (hdg : decode cc pc = .ok (.arraylength, 1)) (he : ∀ cI cJ, (wl ad cI cJ q)[q0]? = some (a, .inl (x cI cJ))) (t0 : Nat) {ty : FieldType} (ht : ∀ cI cJ, (tyA cI cJ)[t0]? = some ((x cI cJ).1, ty)) (hv : ∀ cI cJ, Int32.ofNat (x cI cJ).2.1 = v) (k : J lv (.int v :: st) q (pc + 1)) : J lv (.ref a :: st) q pc := by
  obtain ⟨p, l, e, s, m, args, below, meth, c, D, cI, cJ, A, hfix, hret, hlk, hA, hN, rfl⟩ := hR
  intro H locs ls hw hl
  exact va_alen hfix.1 hfix.2.1 hw.1 hw.2.1 q0 t0 (he cI cJ) (ht cI cJ) (hv cI cJ) hdg (k H locs ls hw hl)
theorem r_mmin (hR : Rl wl n own cc nL ret ad J P) {x y : Int32} {idx : Nat} (hdg : decode cc pc = .ok (.invokestatic idx, 3)) (hl1 : Cond.methodLink own idx Lib.Math.min.name ∈ TT) (hl2 : Cond.static Lib.Math.min.name ∈ TT) (hl3 : Cond.initialized "java/lang/Math" ∈ TT) (hl4 : Cond.code Lib.Math.min.name Lib.Math.min.code 2 (some .int) ∈ TT) (hn : 1 ≤ n) (hst : (st.map fun v => v.category).sum ≤ 8) (k : J lv (.int (jmin x y) :: st) q (pc + 3)) : J lv (.int y :: .int x :: st) q pc := by
  obtain ⟨p, l, e, s, m, args, below, meth, c, D, cI, cJ, A, hfix, hret, hlk, hA, hN, rfl⟩ := hR
  intro H locs ls hw hl
  exact va_mmin hfix.1 hfix.2.1 (hfix.2.2.1.trans hl.1.symm) hfix.2.2.2.1 (hfix.2.2.2.2 _ hl1) (hfix.2.2.2.2 _ hl2) (hfix.2.2.2.2 _ hl3) (hfix.2.2.2.2 _ hl4) (show 1 ≤ 2 * n by omega) (show _ + 13 ≤ 100 * n by omega) (Nat.le_refl 0) (Nat.le_refl 0) hdg (k H locs ls hw hl)
theorem r_callVi (hR : Rl wl n own cc nL ret ad J P) {n2 np idx maxL : Nat} {y : MethodName} {bytes : ByteArray} {rt : Option FieldType} {av : (Nat → Nat) → List Value} {r : Int32} (hC : Ct wl n2 y bytes maxL rt av q (fun ad => some (.int r)) q1) (hcf : Cf own n n2 np idx y bytes maxL rt) (hi : Cond.instanceMethod y ∈ TT ∧ Cond.selects y.cls y y ∈ TT) {a : Nat} {q0 ci : Nat} {qc : vw_C} {As stk : List Value} (hav : av ad = .ref a :: As) (hlen : As.length = np) (hq : vwCl[ci]? = some qc) (hqn : qc.1 = y.cls) (hrc : ∀ cI cJ, ∃ fs, (wl ad cI cJ q)[q0]? = some (a, .inr (ci, fs))) (hst : (st.map fun v => v.category).sum ≤ 8) (hs : stk = As.reverse ++ .ref a :: st) (hdg : decode cc pc = .ok (.invokevirtual idx, 3)) (k : J lv (.int r :: st) q1 (pc + 3)) : J lv stk q pc := r_callV hR hC hcf hi hav hlen hq hqn hrc hst hs hdg k
theorem r_callVl (hR : Rl wl n own cc nL ret ad J P) {n2 np idx maxL : Nat} {y : MethodName} {bytes : ByteArray} {rt : Option FieldType} {av : (Nat → Nat) → List Value} {r : Int64} (hC : Ct wl n2 y bytes maxL rt av q (fun ad => some (.long r)) q1) (hcf : Cf own n n2 np idx y bytes maxL rt) (hi : Cond.instanceMethod y ∈ TT ∧ Cond.selects y.cls y y ∈ TT) {a : Nat} {q0 ci : Nat} {qc : vw_C} {As stk : List Value} (hav : av ad = .ref a :: As) (hlen : As.length = np) (hq : vwCl[ci]? = some qc) (hqn : qc.1 = y.cls) (hrc : ∀ cI cJ, ∃ fs, (wl ad cI cJ q)[q0]? = some (a, .inr (ci, fs))) (hst : (st.map fun v => v.category).sum ≤ 8) (hs : stk = As.reverse ++ .ref a :: st) (hdg : decode cc pc = .ok (.invokevirtual idx, 3)) (k : J lv (.long r :: st) q1 (pc + 3)) : J lv stk q pc := r_callV hR hC hcf hi hav hlen hq hqn hrc hst hs hdg k
theorem r_callVv (hR : Rl wl n own cc nL ret ad J P) {n2 np idx maxL : Nat} {y : MethodName} {bytes : ByteArray} {rt : Option FieldType} {av : (Nat → Nat) → List Value}  (hC : Ct wl n2 y bytes maxL rt av q (fun _ => none) q1) (hcf : Cf own n n2 np idx y bytes maxL rt) (hi : Cond.instanceMethod y ∈ TT ∧ Cond.selects y.cls y y ∈ TT) {a : Nat} {q0 ci : Nat} {qc : vw_C} {As stk : List Value} (hav : av ad = .ref a :: As) (hlen : As.length = np) (hq : vwCl[ci]? = some qc) (hqn : qc.1 = y.cls) (hrc : ∀ cI cJ, ∃ fs, (wl ad cI cJ q)[q0]? = some (a, .inr (ci, fs))) (hst : (st.map fun v => v.category).sum ≤ 8) (hs : stk = As.reverse ++ .ref a :: st) (hdg : decode cc pc = .ok (.invokevirtual idx, 3)) (k : J lv (st) q1 (pc + 3)) : J lv stk q pc := r_callV hR hC hcf hi hav hlen hq hqn hrc hst hs hdg k
theorem r_callVa (hR : Rl wl n own cc nL ret ad J P) {n2 np idx maxL : Nat} {y : MethodName} {bytes : ByteArray} {rt : Option FieldType} {av : (Nat → Nat) → List Value} {r : Nat} (hC : Ct wl n2 y bytes maxL rt av q (fun ad => some (.ref (ad r))) q1) (hcf : Cf own n n2 np idx y bytes maxL rt) (hi : Cond.instanceMethod y ∈ TT ∧ Cond.selects y.cls y y ∈ TT) {a : Nat} {q0 ci : Nat} {qc : vw_C} {As stk : List Value} (hav : av ad = .ref a :: As) (hlen : As.length = np) (hq : vwCl[ci]? = some qc) (hqn : qc.1 = y.cls) (hrc : ∀ cI cJ, ∃ fs, (wl ad cI cJ q)[q0]? = some (a, .inr (ci, fs))) (hst : (st.map fun v => v.category).sum ≤ 8) (hs : stk = As.reverse ++ .ref a :: st) (hdg : decode cc pc = .ok (.invokevirtual idx, 3)) (k : J lv (.ref (ad r) :: st) q1 (pc + 3)) : J lv stk q pc := r_callV hR hC hcf hi hav hlen hq hqn hrc hst hs hdg k
theorem r_callSi (hR : Rl wl n own cc nL ret ad J P) {n2 np idx maxL : Nat} {y : MethodName} {bytes : ByteArray} {rt : Option FieldType} {av : (Nat → Nat) → List Value} {r : Int32} (hC : Ct wl n2 y bytes maxL rt av q (fun ad => some (.int r)) q1) (hcf : Cf own n n2 np idx y bytes maxL rt) (hi : Cond.static y ∈ TT)  {As stk : List Value} (hav : av ad = As) (hlen : As.length = np) (hst : (st.map fun v => v.category).sum ≤ 8) (hs : stk = As.reverse ++ st) (hdg : decode cc pc = .ok (.invokestatic idx, 3)) (k : J lv (.int r :: st) q1 (pc + 3)) : J lv stk q pc := r_callS hR hC hcf hi hav hlen hst hs hdg k
theorem r_callSl (hR : Rl wl n own cc nL ret ad J P) {n2 np idx maxL : Nat} {y : MethodName} {bytes : ByteArray} {rt : Option FieldType} {av : (Nat → Nat) → List Value} {r : Int64} (hC : Ct wl n2 y bytes maxL rt av q (fun ad => some (.long r)) q1) (hcf : Cf own n n2 np idx y bytes maxL rt) (hi : Cond.static y ∈ TT)  {As stk : List Value} (hav : av ad = As) (hlen : As.length = np) (hst : (st.map fun v => v.category).sum ≤ 8) (hs : stk = As.reverse ++ st) (hdg : decode cc pc = .ok (.invokestatic idx, 3)) (k : J lv (.long r :: st) q1 (pc + 3)) : J lv stk q pc := r_callS hR hC hcf hi hav hlen hst hs hdg k
theorem r_callSv (hR : Rl wl n own cc nL ret ad J P) {n2 np idx maxL : Nat} {y : MethodName} {bytes : ByteArray} {rt : Option FieldType} {av : (Nat → Nat) → List Value}  (hC : Ct wl n2 y bytes maxL rt av q (fun _ => none) q1) (hcf : Cf own n n2 np idx y bytes maxL rt) (hi : Cond.static y ∈ TT)  {As stk : List Value} (hav : av ad = As) (hlen : As.length = np) (hst : (st.map fun v => v.category).sum ≤ 8) (hs : stk = As.reverse ++ st) (hdg : decode cc pc = .ok (.invokestatic idx, 3)) (k : J lv (st) q1 (pc + 3)) : J lv stk q pc := r_callS hR hC hcf hi hav hlen hst hs hdg k
theorem r_callSa (hR : Rl wl n own cc nL ret ad J P) {n2 np idx maxL : Nat} {y : MethodName} {bytes : ByteArray} {rt : Option FieldType} {av : (Nat → Nat) → List Value} {r : Nat} (hC : Ct wl n2 y bytes maxL rt av q (fun ad => some (.ref (ad r))) q1) (hcf : Cf own n n2 np idx y bytes maxL rt) (hi : Cond.static y ∈ TT)  {As stk : List Value} (hav : av ad = As) (hlen : As.length = np) (hst : (st.map fun v => v.category).sum ≤ 8) (hs : stk = As.reverse ++ st) (hdg : decode cc pc = .ok (.invokestatic idx, 3)) (k : J lv (.ref (ad r) :: st) q1 (pc + 3)) : J lv stk q pc := r_callS hR hC hcf hi hav hlen hst hs hdg k
theorem r_callNi (hR : Rl wl n RX0 cc nL ret ad J P) {n2 np maxL : Nat} {bytes : ByteArray} {rt : Option FieldType} {av : (Nat → Nat) → List Value} {r : Int32} (hC : Ct wl n2 yX8_isLetter bytes maxL rt av q (fun ad => some (.int r)) q1) (hcf : Cond.initialized RX8 ∈ TT ∧ Cond.code yX8_isLetter bytes maxL rt ∈ TT ∧ (yX8_isLetter.cls ≠ "java/lang/invoke/MethodHandle" ∧ yX8_isLetter.cls ≠ "java/lang/invoke/VarHandle" ∧ (parseMethodDescriptor yX8_isLetter.desc).map (fun d => d.parameters.length) = some np) ∧ n2 + 1 ≤ n ∧ maxL ≤ 60) (hi : Cond.static yX8_isLetter ∈ TT) {As stk : List Value} (hav : av ad = As) (hlen : As.length = np) (hst : (st.map fun v => v.category).sum ≤ 8) (hs : stk = As.reverse ++ st) (hdg : decode cc pc = .ok (.invokestatic 121, 3)) (k : J lv (.int r :: st) q1 (pc + 3)) : J lv stk q pc := r_callN hR hC hcf hi hav hlen hst hs hdg k
end LayerRows
