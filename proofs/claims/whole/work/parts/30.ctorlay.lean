/-! constructors: worlds that grow, at addresses that follow the heap's size -/
abbrev KT : Type := List (Nat × Value) → List Value → va_W → Nat → Nat → Nat → Nat → Prop
def rmK (n mc ms : Nat) : Room := { frames := 2 * n, cells := mc, slots := ms, locals := 100 * n }
def WDk (D : va_G) (cI cJ : ClassId) (A : Nat → Prop) (s : State) (ws : va_W) (sz : Nat) (H : Heap) (locs : List Loc) : Prop :=
  H.size = sz ∧ va_K D vwCl (tyA cI cJ) s ∧ va_P D vwCl ws H ∧ va_D A ws ∧ va_S A s.heap H locs
def QK (D : va_G) (cI cJ : ClassId) (A : Nat → Prop) (ws2 : va_W) (sz2 : Nat) : Array Value → State → Outcome → State → Prop := fun _ st oc t =>
  oc = .returned none ∧ t.heap.size = sz2 ∧ va_P D vwCl ws2 t.heap ∧ va_K D vwCl (tyA cI cJ) t ∧ va_D A ws2 ∧ va_F A st t
def N8 (U : State) : Prop := va_Nw (.methodLinkNest RX8 9 yX7_init RX8) U ∧ va_Nw (.methodLinkNest RX8 27 yX6_init RX8) U
theorem N8.warm {s U : State} (hW : s.WarmedH U.vm) (h : N8 s) : N8 U := ⟨va_Nw.warmM hW h.1, va_Nw.warmM hW h.2⟩
theorem N8.calling {U : State} {g : JFrame} {mk : MethodId} {a : Array Value} (h : N8 U) : N8 (U.calling g mk a) := ⟨va_Nw.same rfl rfl h.1, va_Nw.same rfl rfl h.2⟩
def Rk (mc ms rl : Nat) (own : String) (cc : ByteArray) (nL : Nat) (D : va_G) (cI cJ : ClassId) (ws2 : va_W) (sz2 : Nat) (J : KT) : Prop :=
  ∃ (p : Program) (l : Launch) (e : Env) (s : State) (m : MethodId) (args : Array Value) (below : List Frame) (meth : Method) (c : Code) (A : Nat → Prop),
    CallFix p m c cc nL s args TT own ∧ meth.sig.returnType = none ∧ meth.locks = false ∧ (∀ q, s.heap.size ≤ q → A q) ∧ meth.name = "<init>" ∧ N8 s ∧ 1 ≤ rl ∧
    J = fun lv st ws sz k n pc => ∀ (H : Heap) (locs : List Loc) (ls : Array Slot), WDk D cI cJ A s ws sz H locs → lv_has ls nL lv → W p l e (rmK rl mc ms) s m args below meth c H locs k n (MQ below (QK D cI cJ A ws2 sz2) args s mc ms A) (F0 m pc ls st)
def CtK (mc ms rl : Nat) (y : MethodName) (cc : ByteArray) (maxL : Nat) (cI cJ : ClassId) (av : List Value) (ws : va_W) (sz : Nat) (ws2 : va_W) (sz2 : Nat) : Prop :=
  ∀ (l : Launch) (D : va_G), Met l y (.code y cc maxL none :: TT) (rmK rl mc ms)
    (va_Pc av (fun U => U.heap.size = sz ∧ va_K D vwCl (tyA cI cJ) U ∧ va_P D vwCl ws U.heap ∧ va_D (fun _ => True) ws ∧ N8 U))
    (QK D cI cJ (va_A ws sz) ws2 sz2) mc ms (va_A ws sz)
theorem ctk_of {mc ms rl : Nat} {y : MethodName} {cc : ByteArray} {maxL : Nat} {cI cJ : ClassId} {av : List Value} {ws : va_W} {sz : Nat} {ws2 : va_W} {sz2 : Nat} (hy : plainName y.cls = true) (hyn : y.name = "<init>") (hrl : 1 ≤ rl)
    (hlen : (lg_sl av).length ≤ maxL) (h : ∀ (D : va_G) (J : KT), Rk mc ms rl y.cls cc maxL D cI cJ ws2 sz2 J → J (lv_args 0 av) [] ws sz 0 0 0) : CtK mc ms rl y cc maxL cI cJ av ws sz ws2 sz2 := by
  intro l D
  refine Met.ofW (cc := cc) (maxL := maxL) (ret := none) hy rfl ?_
  intro p e s m args below meth c s₁ B hml hv
  obtain ⟨rfl, hsz, hK, hP, hD0, hN⟩ := hv
  have hts := atoms_spec (ws := .code y cc maxL none :: TT) B.pre
  have hown : s.vm.findClass y.cls = some m.cls := findClass_of_methodNamed B.named
  have hin : meth.name = "<init>" := (name_of_methodNamed B.named B.method).1.trans hyn
  have hD := hD0.self (sz := sz)
  have hl := lv_entry av (n := maxL) hlen
  rw [lg_entry_eq]
  exact h D _ ⟨p, l, e, s, m, av.toArray, below, meth, c, va_A ws sz, ⟨B.exec, B.bytes, hml, hown, fun w hw => hts w (List.mem_cons_of_mem _ hw)⟩, B.returns, B.notSynchronized, fun q h => Or.inr (hsz ▸ h), hin, hN, hrl, rfl⟩ s.heap [] _ ⟨hsz, hK, hP, hD, va_S.rf⟩ hl
theorem put_sz {p : Program} {l : Launch} {e : Env} {R : Room} {s : State} {m : MethodId} {args : Array Value} {below : List Frame} {meth : Method} {c : Code} {H : Heap} {locs : List Loc} {cells slots : Nat} {Q : State → Prop} {cc : ByteArray} {pc nL sz : Nat} {ls : Array Slot} {rest : List Value} {D : va_G} {A : Nat → Prop} {a : Nat} {ws : va_W} {cI cJ : ClassId} {own C : String} {T : u_T} {N ci idx : Nat}
    (hfix : CallFix p m c cc nL s args TT own) (hK : va_K D vwCl (tyA cI cJ) s) (hP : va_P D vwCl ws H) (hD : va_D A ws) (hS0 : va_S A s.heap H locs) (hfl : ∀ w ∈ u_ws C T N, w ∈ TT) (ty0 : Nat → FieldType) (hty : ∀ k, k < N → parseFieldDescriptor (T k).2.2.1 = some (ty0 k)) (hnm : ∀ a, a < N → ∀ b, b < N → a ≠ b → (T a).2.1 ≠ (T b).2.1) (q0 : Nat) {fs : List Value} (he : ws[q0]? = some (a, .inr (ci, fs))) (hc : vwCl[ci]? = some (C, T, N)) (k : Nat) (hk : k < N) (hlink : Cond.fieldLink own idx (T k).1 (T k).2.1 (T k).2.2.1 ∈ TT) (hin2 : meth.name = "<init>") (hdecl : (T k).1 = own) {ty : FieldType} {v : Value} (hd : parseFieldDescriptor (T k).2.2.1 = some ty) (hn : narrow ty v = v) (hfit : fits ty v = true) (hl : k < fs.length)
    (hdg : decode cc pc = .ok (.putfield idx, 3)) (hz : H.size = sz) (kk : ∀ (H1 : Heap) (locs1 : List Loc), H1.size = sz → va_P D vwCl (ws.set q0 (a, .inr (ci, fs.set k v))) H1 → va_D A (ws.set q0 (a, .inr (ci, fs.set k v))) → va_S A s.heap H1 locs1 → W p l e R s m args below meth c H1 locs1 cells slots Q (F0 m (pc + 3) ls rest)) : W p l e R s m args below meth c H locs cells slots Q (F0 m pc ls (v :: .ref a :: rest)) := by
  have hts := hfix.2.2.2.2
  have hown := hfix.2.2.2.1
  have hap := va_apart (own := own) hts hfl ty0 hty hnm hK hc
  obtain ⟨r, h1, cell, q1, q2, q3, q4⟩ := hP q0 _ he
  have hr : r = (C, T, N) := Option.some.inj (h1.symm.trans hc)
  subst hr
  obtain ⟨hS, hfc, kC, hkC, hkind⟩ := hK.1 ci _ hc
  obtain ⟨cf, kf, fi, f, hi, hsl⟩ := hS k hk
  have hlay := hts _ (hfl _ (u_in_lay hk))
  unfold u_lay at hlay
  have hst := (u_facts hfc hkC (u_lays hts hfl hk) hi).1
  have fin : ∀ H' : Heap, H'[a]? = some (cell.setSlot f.slot v) → H'.size = H.size → (∀ q, q ≠ a → H'[q]? = H[q]?) → W p l e R s m args below meth c H' (locs ++ [⟨a, f.slot⟩]) cells slots Q (F0 m (pc + 3) ls rest) := by
    intro H' e1 e2 e3
    rw [hsl] at e1 ⊢
    exact kk H' _ (e2.trans hz) (hP.set hD he ⟨_, hc, t_OB.to (V := updV (vp_V fs) k v) ⟨_, e1, q2, q3, t_set q4 hap hk v⟩ (fun j _ => vp_updV_set hl v j)⟩ e3) (hD.set he) (hS0.put e2 e3 (hD.2 q0 _ he))
  cases hf : (T k).2.2.2 with
  | true =>
    rw [if_pos hf] at hlay
    have hcf : m.cls = cf := by
      obtain ⟨_, _, c', _, _, _, -, -, hf', -, -, -, hown2, -⟩ := Cond.laysFinal_spec hlay
      have e1 : c' = cf := by have := hi.symm.trans hf'; simp at this; exact this.1.symm
      rw [hdecl] at hown2
      rw [← e1]; exact Option.some.inj (hown.symm.trans hown2)
    have h6 := u_fits hfc hkC hkind (Or.inr hlay) hi hd hn hfit
    exact W.putFinK hfix.1 hfix.2.1 hown (hts _ hlink) hi hst hcf hin2 (by rw [q2]; exact h6) q1 q3 (by rw [hsl]; exact k2_hasslot (q4 k hk)) rfl rfl hdg fin
  | false =>
    rw [if_neg (by rw [hf]; decide)] at hlay
    have h6 := u_store hfc hkC hkind hlay hi hd hn hfit
    exact W.putK hfix.1 hfix.2.1 (f := f) ⟨hown, hts _ hlink, ⟨_, _, _, hi⟩, hst⟩ (by rw [q2]; exact h6) q1 q3 (by rw [hsl]; exact k2_hasslot (q4 k hk)) rfl rfl hdg fin
section CtorRows
variable {mc ms rl : Nat} {own : String} {cc : ByteArray} {nL : Nat} {D : va_G} {cI cJ : ClassId} {ws2 : va_W} {sz2 : Nat} {J : KT}
variable {lv : List (Nat × Value)} {st : List Value} {ws ws1 : va_W} {sz k n pc : Nat}
theorem k_aload (hR : Rk mc ms rl own cc nL D cI cJ ws2 sz2 J) {kk : Fin 4} {i x : Nat} (hdg : decode cc pc = .ok (.aload_n kk, 1)) (hi : (kk : Nat) = i) (j : Nat) (hj : lv[j]? = some (i, .ref x)) (h : J lv (.ref x :: st) ws sz k n (pc + 1)) : J lv st ws sz k n pc := by
  obtain ⟨p, l, e, s, m, args, below, meth, c, A, hfix, hret, hlk, hA, hin, hN, hrl, rfl⟩ := hR
  intro H locs ls hw hl
  exact lv_aload_n hfix.1 hfix.2.1 hdg hi (lv_at hl j hj) (h H locs ls hw hl)
theorem k_bipush (hR : Rk mc ms rl own cc nL D cI cJ ws2 sz2 J) {i : Int} {v : Int32} (hdg : decode cc pc = .ok (.bipush i, 2)) (hv : (Int8.ofInt i).toInt32 = v) (h : J lv (.int v :: st) ws sz k n (pc + 2)) : J lv st ws sz k n pc := by
  obtain ⟨p, l, e, s, m, args, below, meth, c, A, hfix, hret, hlk, hA, hin, hN, hrl, rfl⟩ := hR
  intro H locs ls hw hl
  exact lv_bipush hfix.1 hfix.2.1 hdg hv (h H locs ls hw hl)
theorem k_sipush (hR : Rk mc ms rl own cc nL D cI cJ ws2 sz2 J) {i : Int} {v : Int32} (hdg : decode cc pc = .ok (.sipush i, 3)) (hv : (Int16.ofInt i).toInt32 = v) (h : J lv (.int v :: st) ws sz k n (pc + 3)) : J lv st ws sz k n pc := by
  obtain ⟨p, l, e, s, m, args, below, meth, c, A, hfix, hret, hlk, hA, hin, hN, hrl, rfl⟩ := hR
  intro H locs ls hw hl
  exact lv_sipush hfix.1 hfix.2.1 hdg hv (h H locs ls hw hl)
theorem k_iconst (hR : Rk mc ms rl own cc nL D cI cJ ws2 sz2 J) {i : Int} {v : Int32} (hdg : decode cc pc = .ok (.iconst i, 1)) (hv : Int32.ofInt i = v) (h : J lv (.int v :: st) ws sz k n (pc + 1)) : J lv st ws sz k n pc := by
  obtain ⟨p, l, e, s, m, args, below, meth, c, A, hfix, hret, hlk, hA, hin, hN, hrl, rfl⟩ := hR
  intro H locs ls hw hl
  exact lv_iconst hfix.1 hfix.2.1 hdg hv (h H locs ls hw hl)
theorem k_dup (hR : Rk mc ms rl own cc nL D cI cJ ws2 sz2 J) {x : Nat} (hdg : decode cc pc = .ok (.dup, 1)) (h : J lv (.ref x :: .ref x :: st) ws sz k n (pc + 1)) : J lv (.ref x :: st) ws sz k n pc := by
  obtain ⟨p, l, e, s, m, args, below, meth, c, A, hfix, hret, hlk, hA, hin, hN, hrl, rfl⟩ := hR
  intro H locs ls hw hl
  exact lv_dup hfix.1 hfix.2.1 hdg rfl (h H locs ls hw hl)
theorem k_obj (hR : Rk mc ms rl own cc nL D cI cJ ws2 sz2 J) {idx x : Nat} (hdg : decode cc pc = .ok (.invokespecial idx, 3)) (hl1 : Cond.methodLink own idx Lib.objectInit ∈ TT) (h : J lv [] ws sz k n (pc + 3)) : J lv [.ref x] ws sz k n pc := by
  obtain ⟨p, l, e, s, m, args, below, meth, c, A, hfix, hret, hlk, hA, hin, hN, hrl, rfl⟩ := hR
  intro H locs ls hw hl
  exact W.objInit hfix.1 hfix.2.1 hfix.2.2.2.1 (hfix.2.2.2.2 _ hl1) (hfix.2.2.2.2 _ (mw1 20 (by decide +kernel) (by decide +kernel))) (hfix.2.2.2.2 _ (mw1 21 (by decide +kernel) (by decide +kernel))) rfl (hl.1.trans hfix.2.2.1.symm) rfl hdg (show 1 ≤ 2 * rl by omega) (show 2 * 0 + 0 + 12 ≤ 100 * rl by omega) (h H locs ls hw hl)
theorem arr_eqI {U : State} {cA : ClassId} (hK : va_K D vwCl (tyA cI cJ) U) (h : U.vm.findClass ("[" ++ (newarray.typeOf .int).toString) = some cA) : cA = cI := by
  have h1 := (hK.2 0 (cI, .int) rfl).2
  exact Option.some.inj (h.symm.trans h1)
theorem arr_eqJ {U : State} {cA : ClassId} (hK : va_K D vwCl (tyA cI cJ) U) (h : U.vm.findClass ("[" ++ (newarray.typeOf .long).toString) = some cA) : cA = cJ := by
  have h1 := (hK.2 1 (cJ, .long) rfl).2
  exact Option.some.inj (h.symm.trans h1)
theorem k_newI (hR : Rk mc ms rl own cc nL D cI cJ ws2 sz2 J) {v : Int32} {N' : Nat} (hdg : decode cc pc = .ok (.newarray .int, 2)) (hn : ¬ v < 0) (hN : v.toNatClampNeg = N') (hb : N' * 4 ≤ 536870912) (hc : k + 1 ≤ mc) (hs : n + N' ≤ ms)
    (h : J lv (.ref sz :: st) (ws ++ [(sz, .inl (cI, N', .inl (fun _ => 0)))]) (sz + 1) (k + 1) (n + N') (pc + 2)) : J lv (.int v :: st) ws sz k n pc := by
  obtain ⟨p, l, e, s, m, args, below, meth, c, A, hfix, hret, hlk, hA, hin, hN8, hrl, rfl⟩ := hR
  intro H locs ls hw hl
  obtain ⟨hz, hK, hP, hD, hS⟩ := hw
  refine va_newaK hfix.1 hfix.2.1 (hfix.2.2.2.2 _ (mw1 53 (by decide +kernel) (by decide +kernel))) rfl hdg rfl hn hN hb hc hs hz fun H1 cA e1 z1 o1 hAr hNm => ?_
  have hcA := arr_eqI hK hNm
  subst hcA
  have hk : ∀ (k : Nat) (x : Nat × va_E), ws[k]? = some x → H1[x.1]? = H[x.1]? := fun k x hx => o1 x.1 (hz ▸ (hP k x hx).lt)
  refine h H1 locs ls ⟨z1, hK, (hP.kept hk).app (fun k x hx => ?_), hD.push hP hz.symm (hA _ (hz ▸ hS.1)), Nat.le_trans hS.1 (by omega), fun x h1 h2 => (o1 x (by have := hS.1; omega)).trans (hS.2.1 x h1 h2), hS.2.2⟩ hl
  have hz1 : k < 1 := (List.getElem?_eq_some_iff.mp hx).1
  rw [show k = 0 by omega] at hx
  cases hx
  exact e1
theorem k_newL (hR : Rk mc ms rl own cc nL D cI cJ ws2 sz2 J) {v : Int32} {N' : Nat} (hdg : decode cc pc = .ok (.newarray .long, 2)) (hn : ¬ v < 0) (hN : v.toNatClampNeg = N') (hb : N' * 8 ≤ 536870912) (hc : k + 1 ≤ mc) (hs : n + N' ≤ ms)
    (h : J lv (.ref sz :: st) (ws ++ [(sz, .inl (cJ, N', .inr (.inl (fun _ => 0))))]) (sz + 1) (k + 1) (n + N') (pc + 2)) : J lv (.int v :: st) ws sz k n pc := by
  obtain ⟨p, l, e, s, m, args, below, meth, c, A, hfix, hret, hlk, hA, hin, hN8, hrl, rfl⟩ := hR
  intro H locs ls hw hl
  obtain ⟨hz, hK, hP, hD, hS⟩ := hw
  refine va_newaK hfix.1 hfix.2.1 (hfix.2.2.2.2 _ (mw1 175 (by decide +kernel) (by decide +kernel))) rfl hdg rfl hn hN hb hc hs hz fun H1 cA e1 z1 o1 hAr hNm => ?_
  have hcA := arr_eqJ hK hNm
  subst hcA
  have hk : ∀ (k : Nat) (x : Nat × va_E), ws[k]? = some x → H1[x.1]? = H[x.1]? := fun k x hx => o1 x.1 (hz ▸ (hP k x hx).lt)
  refine h H1 locs ls ⟨z1, hK, (hP.kept hk).app (fun k x hx => ?_), hD.push hP hz.symm (hA _ (hz ▸ hS.1)), Nat.le_trans hS.1 (by omega), fun x h1 h2 => (o1 x (by have := hS.1; omega)).trans (hS.2.1 x h1 h2), hS.2.2⟩ hl
  have hz1 : k < 1 := (List.getElem?_eq_some_iff.mp hx).1
  rw [show k = 0 by omega] at hx
  cases hx
  exact e1
theorem k_new (hR : Rk mc ms rl own cc nL D cI cJ ws2 sz2 J) {idx ci N : Nat} {C : String} {T : u_T} {fs : List Value} (hdg : decode cc pc = .ok (.new idx, 3)) (hfl : ∀ w ∈ u_ws C T N, w ∈ TT) (ty : Nat → FieldType) (hty : ∀ k, k < N → parseFieldDescriptor (T k).2.2.1 = some (ty k))
    (hcl : Cond.classLink own idx C ∈ TT) (hinst : Cond.instantiable C N ∈ TT) (hini : Cond.initialized C ∈ TT) (hc : vwCl[ci]? = some (C, T, N)) (hfs : ∀ j, j < N → defaultValue (ty j) = vp_V fs j) (hcc : k + 1 ≤ mc) (hss : n + N ≤ ms)
    (h : J lv (.ref sz :: st) (ws ++ [(sz, .inr (ci, fs))]) (sz + 1) (k + 1) (n + N) (pc + 3)) : J lv st ws sz k n pc := by
  obtain ⟨p, l, e, s, m, args, below, meth, c, A, hfix, hret, hlk, hA, hin, hN8, hrl, rfl⟩ := hR
  intro H locs ls hw hl
  obtain ⟨hz, hK, hP, hD, hS⟩ := hw
  have hKn := hK.1 ci _ hc
  refine W.newcK hfix.1 hfix.2.1 hfix.2.2.2.1 (hfix.2.2.2.2 _ hcl) (hfix.2.2.2.2 _ hinst) (hfix.2.2.2.2 _ hini) rfl hdg hcc hss hKn.2.1 hz fun H1 kC hkC e1 z1 o1 => ?_
  have hk : ∀ (k : Nat) (x : Nat × va_E), ws[k]? = some x → H1[x.1]? = H[x.1]? := fun k x hx => o1 x.1 (hz ▸ (hP k x hx).lt)
  refine h H1 locs ls ⟨z1, hK, (hP.kept hk).app (fun k x hx => ?_), hD.push hP hz.symm (hA _ (hz ▸ hS.1)), Nat.le_trans hS.1 (by omega), fun x h1 h2 => (o1 x (by have := hS.1; omega)).trans (hS.2.1 x h1 h2), hS.2.2⟩ hl
  have hz1 : k < 1 := (List.getElem?_eq_some_iff.mp hx).1
  rw [show k = 0 by omega] at hx
  cases hx
  exact ⟨_, hc, (u_born ty hfix.2.2.2.2 hfl hKn hkC e1 hty).to hfs⟩
theorem k_get (hR : Rk mc ms rl own cc nL D cI cJ ws2 sz2 J) {q0 ci idx a : Nat} {fs : List Value} {C : String} {T : u_T} {N : Nat} {v : Value} (hdg : decode cc pc = .ok (.getfield idx, 3)) (he : ws[q0]? = some (a, .inr (ci, fs))) (hc : vwCl[ci]? = some (C, T, N)) (hfl : ∀ w ∈ u_ws C T N, w ∈ TT) (j : Nat) (hj : j < N) (hlink : Cond.fieldLink own idx (T j).1 (T j).2.1 (T j).2.2.1 ∈ TT) (hv : fs[j]? = some v)
    (h : J lv (v :: st) ws sz k n (pc + 3)) : J lv (.ref a :: st) ws sz k n pc := by
  obtain ⟨p, l, e, s, m, args, below, meth, c, A, hfix, hret, hlk, hA, hin, hN8, hrl, rfl⟩ := hR
  intro H locs ls hw hl
  obtain ⟨hz, hK, hP, hD, hS⟩ := id hw
  exact va_get hfix.1 hfix.2.1 hfix.2.2.2.2 hfl hfix.2.2.2.1 hK hP q0 he hc j hj (hfix.2.2.2.2 _ hlink) (fun _ h9 => h9) hv hdg (h H locs ls hw hl)
theorem k_put (hR : Rk mc ms rl own cc nL D cI cJ ws2 sz2 J) {q0 ci idx a : Nat} {fs : List Value} {C : String} {T : u_T} {N : Nat} {v : Value} {ty : FieldType} (hdg : decode cc pc = .ok (.putfield idx, 3)) (he : ws[q0]? = some (a, .inr (ci, fs))) (hc : vwCl[ci]? = some (C, T, N)) (hfl : ∀ w ∈ u_ws C T N, w ∈ TT) (ty0 : Nat → FieldType) (hty : ∀ k, k < N → parseFieldDescriptor (T k).2.2.1 = some (ty0 k)) (hnm : ∀ a, a < N → ∀ b, b < N → a ≠ b → (T a).2.1 ≠ (T b).2.1) (j : Nat) (hj : j < N) (hlink : Cond.fieldLink own idx (T j).1 (T j).2.1 (T j).2.2.1 ∈ TT) (hdecl : (T j).1 = own) (hd : parseFieldDescriptor (T j).2.2.1 = some ty) (hn : narrow ty v = v) (hfit : fits ty v = true) (hln : j < fs.length) (hset : ws.set q0 (a, .inr (ci, fs.set j v)) = ws1)
    (h : J lv st ws1 sz k n (pc + 3)) : J lv (v :: .ref a :: st) ws sz k n pc := by
  obtain ⟨p, l, e, s, m, args, below, meth, c, A, hfix, hret, hlk, hA, hin, hN8, hrl, rfl⟩ := hR
  intro H locs ls hw hl
  obtain ⟨hz, hK, hP, hD, hS⟩ := id hw
  subst hset
  exact put_sz hfix hK hP hD hS hfl ty0 hty hnm q0 he hc j hj hlink hin hdecl hd hn hfit hln hdg hz (fun H1 locs1 z a1 a2 a3 => h H1 locs1 ls ⟨z, hK, a1, a2, a3⟩ hl)
theorem k_vret (hR : Rk mc ms rl own cc nL D cI cJ ws2 sz2 J) (hdg : decode cc pc = .ok (.return_, 1)) (hk : k = mc) (hn : n = ms) (hws : ws = ws2) (hsz : sz = sz2) : J lv [] ws sz k n pc := by
  obtain ⟨p, l, e, s, m, args, below, meth, c, A, hfix, hret, hlk, hA, hin, hN8, hrl, rfl⟩ := hR
  subst hk; subst hn; subst hws; subst hsz
  intro H locs ls hw hl
  obtain ⟨hz, hK, hP, hD, hS⟩ := hw
  exact W.vret hfix.1 hfix.2.1 hret (fun t ht hW => ⟨rfl, by rw [ht]; exact hz, by rw [ht]; exact hP, va_K.moved hW.alike hK, hD, hS.F ht⟩) hS.2.2 hdg hlk
/-- what a constructor's call needs of the tables -/
def Cfk (n n2 mc1 ms1 : Nat) (y : MethodName) (bytes : ByteArray) (maxL np : Nat) : Prop :=
  Cond.initialized y.cls ∈ TT ∧ Cond.code y bytes maxL none ∈ TT ∧ Cond.instanceMethod y ∈ TT ∧ y.name = "<init>" ∧ (y.cls ≠ "java/lang/invoke/MethodHandle" ∧ y.cls ≠ "java/lang/invoke/VarHandle" ∧ (parseMethodDescriptor y.desc).map (fun d => d.parameters.length) = some np) ∧ n2 + 1 ≤ n ∧ maxL ≤ 60
theorem kcall_go {p : Program} {l : Launch} {e : Env} {R : Room} {s : State} {m : MethodId} {args : Array Value} {below : List Frame} {meth : Method} {c : Code} {A : Nat → Prop} {H : Heap} {locs : List Loc} {ls : Array Slot} {Qr : State → Prop} {a : Array Value} {stk : List Value} {wsc wr w1 : va_W} {sz1 mc1 ms1 : Nat}
    (hr : va_Run p l e R s m args below meth c H locs k n mc1 ms1 (F0 m pc ls stk) st (QK D cI cJ (va_A wsc sz) w1 sz1 a) (va_A wsc sz)) (hw : WDk D cI cJ A s ws sz H locs) (hA : ∀ x, s.heap.size ≤ x → A x) (isC isR : List Nat) (hC : isC.map (fun i => ws[i]?) = wsc.map some) (hRr : isR.map (fun i => ws[i]?) = wr.map some) (hn : va_nd isR = true) (hdis : ∀ i ∈ isR, i ∉ isC)
    (kk : ∀ (H1 : Heap) (locs1 : List Loc), WDk D cI cJ A s (wr ++ w1) sz1 H1 locs1 → W p l e R s m args below meth c H1 locs1 (k + mc1) (n + ms1) Qr (F0 m (pc + 3) ls st)) : W p l e R s m args below meth c H locs k n Qr (F0 m pc ls stk) := by
  obtain ⟨hz, hK, hP, hD, hS⟩ := hw
  subst hz
  have hF := va_free (wc := wsc) hD hS hA isC hC
  intro T hT X
  obtain ⟨v, st₀, t, T', L, h0, X', hL, e1, e2, ⟨hv, hz1, hP1, hK1, hD1, hzz, hk⟩, stp⟩ := hr T hT X
  cases hv
  rw [h0] at hzz hk
  rw [← e1] at hz1 hP1 hzz
  have hk' : ∀ q : Nat, q < H.size → ¬ va_A wsc H.size q → T'.heap[q]? = H[q]? := fun q h1 h2 => by rw [e1]; exact hk q h1 h2
  obtain ⟨hPj, hDj⟩ := va_join hP hD isC isR hC hRr hn hdis hk' hF hP1 hD1
  obtain ⟨t2, a1, b1⟩ := kk T'.heap (locs ++ L) ⟨hz1, hK, hPj, hDj, Nat.le_trans hS.1 hzz, fun x h1 h2 => by rw [hk' x (Nat.lt_of_lt_of_le h1 hS.1) (fun z => h2 (hF x z))]; exact hS.2.1 x h1 h2, fun x hx => by
    rcases List.mem_append.mp hx with h | h
    · exact hS.2.2 x h
    · exact hF _ (hL x h)⟩ T' rfl X'
  exact ⟨t2, stp t2 a1, b1⟩
theorem k_call (hR : Rk mc ms rl own cc nL D cI cJ ws2 sz2 J) {n2 mc1 ms1 np maxL idx a sz1 : Nat} {y : MethodName} {bytes : ByteArray} {As stk : List Value} {wsc wr w1 : va_W} (hCt : CtK mc1 ms1 n2 y bytes maxL cI cJ (.ref a :: As) wsc sz w1 sz1) (hcf : Cfk rl n2 mc1 ms1 y bytes maxL np)
    (hl : (Cond.methodLink own idx y ∈ TT) ∨ (own = RX8 ∧ ((idx = 9 ∧ y = yX7_init) ∨ (idx = 27 ∧ y = yX6_init)))) (hlen : As.length = np) (isC isR : List Nat) (hC : isC.map (fun i => ws[i]?) = wsc.map some) (hRr : isR.map (fun i => ws[i]?) = wr.map some) (hnd : va_nd isR = true) (hdis : ∀ i ∈ isR, i ∉ isC) (hndC : va_nd isC = true)
    (hst : (st.map fun v => v.category).sum ≤ 8) (hs : stk = As.reverse ++ .ref a :: st) (hdg : decode cc pc = .ok (.invokespecial idx, 3)) (hc1 : k + mc1 ≤ mc) (hs1 : n + ms1 ≤ ms) (h : J lv st (wr ++ w1) sz1 (k + mc1) (n + ms1) (pc + 3)) : J lv stk ws sz k n pc := by
  obtain ⟨p, l, e, s, m, args, below, meth, c, A, hfix, hret, hlk, hA, hin, hN8, hrl, rfl⟩ := hR
  intro H locs ls hw hlv
  obtain ⟨hz, hK, hP, hD, hS⟩ := id hw
  obtain ⟨g2, g3, g4, g5, g6, g7, g8⟩ := hcf
  have hts := hfix.2.2.2.2
  have hG : GoodIn TT (.code y bytes maxL none :: TT) := fun w h => by
    rcases List.mem_cons.mp h with rfl | h
    · exact ⟨g3, TTg _ g3⟩
    · exact ⟨h, TTg w h⟩
  have hM := hCt l D
  have hPc : va_P D vwCl wsc H := by
    refine hP.sub isC ?_
    have : (isC.map (fun i => ws[i]?)).filterMap id = (wsc.map some).filterMap id := by rw [hC]
    simpa [List.filterMap_map] using this
  have hDc : va_D A wsc := hD.sub isC hndC hC
  have hpre : PreS s H (va_Pc (.ref a :: As) (fun U => U.heap.size = sz ∧ va_K D vwCl (tyA cI cJ) U ∧ va_P D vwCl wsc U.heap ∧ va_D (fun _ => True) wsc ∧ N8 U)) (.ref a :: As) := by
    refine ⟨fun a U g mk z => ?_, fun U hU hW => ?_⟩
    · obtain ⟨z0, z1, z2, z3, z4, z5⟩ := z
      exact ⟨z0, z1, va_K.moved (u := U) (U := U.calling g mk a) (Vm.Alike.refl U.vm) z2, z3, z4, z5.calling⟩
    · exact ⟨rfl, by rw [hU]; exact hz, va_K.moved hW.alike hK, by rw [hU]; exact hPc, hDc.weaken (fun _ _ _ _ => trivial), hN8.warm hW⟩
  have hrun : va_Run p l e (rmK rl mc ms) s m args below meth c H locs k n mc1 ms1 (F0 m pc ls stk) st (QK D cI cJ (va_A wsc sz) w1 sz1 (Value.ref a :: As).toArray) (va_A wsc sz) := by
    rcases hl with hl | ⟨ho, hh⟩
    · exact va_runI (As := As) (rest := st) hfix hM ⟨callB_of np hts hG rfl rfl rfl (hts _ g2) (hts _ hl) g6 ⟨show 2 * n2 + 1 ≤ 2 * rl by omega, show 8 + (maxL + 11) + 100 * n2 ≤ 100 * rl by omega⟩, g5, hts _ g4⟩ hpre rfl hlen hlv.1 hs (lv_room (m := m) (pc := pc) (ls := ls) (rest := st) hst) hdg ⟨hc1, hs1⟩
    · subst ho
      have hnest : va_Nw (.methodLinkNest RX8 idx y RX8) s := by
        rcases hh with ⟨rfl, rfl⟩ | ⟨rfl, rfl⟩
        · exact hN8.1
        · exact hN8.2
      exact va_runIN (As := As) (rest := st) hfix hM ⟨va_cnB np hts hG rfl rfl rfl hnest (hts _ g2) g6 ⟨show 2 * n2 + 1 ≤ 2 * rl by omega, show 8 + (maxL + 11) + 100 * n2 ≤ 100 * rl by omega⟩, g5, hts _ g4⟩ hpre rfl hlen hlv.1 hs (lv_room (m := m) (pc := pc) (ls := ls) (rest := st) hst) hdg ⟨hc1, hs1⟩
  exact kcall_go hrun hw hA isC isR hC hRr hnd hdis (fun H1 locs1 hw1 => h H1 locs1 ls hw1 hlv)
end CtorRows
