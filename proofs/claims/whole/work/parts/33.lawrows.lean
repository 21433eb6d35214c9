/-! THE CLAIM OUT OF ONE WALK OF THE LAW'S BODY. Your part is whole_start (and what it stands on); all else here is the same for every law, but numbers. -/
def R_law : String := "JoinWaysLaw"
def lw_P (b : Addr) (xs : List Int32) (args : Array Value) (s : State) : Prop := args = #[.ref b] ∧ s.IntsAt b xs ∧ xs.length ≤ 3072 ∧ (Jvm.Cond.and given_1 narrow_1).before args s = true
def lw_Q (_ : Array Value) (s : State) (o : Outcome) (t : State) : Prop := o = .returned (some (.int 1)) ∧ Framed s o t [] 600000 7302250
def lw_Z (below : List Frame) (a : Array Value) (s : State) : State → Prop := fun t => ∃ o, t.status = .running ∧ Ended t below o ∧ lw_Q a s o t
/-- the law's own end, with 1 on the stack, nothing written that was there before, its room as the claim has it -/
theorem lw_ret {p : Program} {l : Launch} {e : Env} {s : State} {m : MethodId} {below : List Frame} {meth : Method} {c : Code} {b : Nat} (hx : p.tables.exec = Jvm.exec) (hb : c.code = code) (hr : meth.sig.returnType = ret) (hlocks : meth.locks = false) {pc : Nat} {H : Heap} {ls : Array Slot} (hdg : decode code pc = .ok (.ireturn, 1)) : W p l e room_1 s m #[Value.ref b] below meth c H [] 600000 7302250 (lw_Z below #[Value.ref b] s) (F0 m pc ls [.int 1]) := by
  intro T hT X
  obtain ⟨fs, hret, hrun, hended, hW, hframe⟩ := X.leave (v := some (.int 1)) (hlocks := hlocks) (fun h => by rw [hr] at h; cases h)
  have hmeth' : T.vm.method? m = some meth := X.method'
  refine ⟨T.setFrames fs, ?_, .returned (some (.int 1)), hrun, hended, rfl, ⟨_, rfl⟩, hW, hframe⟩
  jvm_step X.here [X.here.top, hx, hb, hdg, hmeth', hr, ret, narrow_b1]
  (try refine ⟨rfl, ?_⟩); (try refine ⟨rfl, ?_⟩)
  first | (intro acts; rw [hret _ acts rfl rfl rfl]) | rw [hret _ _ rfl rfl rfl]
  exact Steps.refl _
/-- what holds at the law's entry: the machine, the code, the tables' words (any of lw_tbl by 'hts w (by decide +kernel)'), the script of L ints xs at the cell b, what the Statement gives of the start (any of its parts by flat_of_before) -/
def lw_At (p : Program) (s : State) (m : MethodId) (meth : Method) (c : Code) (b L : Nat) (xs : Nat → Int32) : Prop :=
  p.tables.exec = Jvm.exec ∧ c.code = code ∧ meth.sig.returnType = ret ∧ c.maxLocals = 4 ∧ s.vm.findClass R_law = some m.cls ∧ (∀ w ∈ lw_tbl, w.before #[Value.ref b] s = true) ∧ va_X b L xs s s.heap ∧ b < s.heap.size ∧ meth.locks = false ∧ (Jvm.Cond.and given_1 narrow_1).before #[Value.ref b] s = true
/-! the law over the two worlds -/
abbrev LT : Type := List (Nat × Value) → List Value → SS → SS → Nat → Prop
def WDL (D : va_G) (adC adM : Nat → Nat) (cI cJ : ClassId) (A : Nat → Prop) (s : State) (qC qM : SS) (H : Heap) (locs : List Loc) : Prop :=
  va_K D vwCl (tyA cI cJ) s ∧ va_P D vwCl (wC adC cI cJ qC) H ∧ va_P D vwCl (wM adM cI cJ qM) H ∧ va_D A (wC adC cI cJ qC ++ wM adM cI cJ qM) ∧ va_S A s.heap H locs
def RLw (adC adM : Nat → Nat) (b L : Nat) (xs : Nat → Int32) (J : LT) : Prop :=
  ∃ (p : Program) (l : Launch) (e : Env) (s : State) (m : MethodId) (below : List Frame) (meth : Method) (c : Code) (D : va_G) (cI cJ : ClassId),
    CallFix p m c cL_law 4 s #[Value.ref b] TT RL ∧ meth.sig.returnType = ret ∧ meth.locks = false ∧ va_X b L xs s s.heap ∧ b < s.heap.size ∧ NW s ∧
    J = fun lv st qC qM pc => ∀ (H : Heap) (locs : List Loc) (ls : Array Slot), WDL D adC adM cI cJ (fun q => s.heap.size ≤ q) s qC qM H locs → lv_has ls 4 lv → W p l e room_1 s m #[Value.ref b] below meth c H locs 55 15215 (lw_Z below #[Value.ref b] s) (F0 m pc ls st)
section LawRows
variable {adC adM : Nat → Nat} {b L : Nat} {xs : Nat → Int32} {J : LT}
variable {lv lv' : List (Nat × Value)} {st : List Value} {qC qM q1 : SS} {pc : Nat}
theorem l_iadd (hR : RLw adC adM b L xs J) {x y : Int32} (hdg : decode cL_law pc = .ok (.iadd, 1))  (k : J lv (.int (x + y) :: st) qC qM (pc + 1)) : J lv (.int y :: .int x :: st) qC qM pc := by
  obtain ⟨p, l, e, s, m, below, meth, c, D, cI, cJ, hfix, hret, hlk, hX, hbl, hN, rfl⟩ := hR
  intro H locs ls hw hl
  exact lv_iadd hfix.1 hfix.2.1 hdg  (k H locs ls hw hl)
theorem l_isub (hR : RLw adC adM b L xs J) {x y : Int32} (hdg : decode cL_law pc = .ok (.isub, 1))  (k : J lv (.int (x - y) :: st) qC qM (pc + 1)) : J lv (.int y :: .int x :: st) qC qM pc := by
  obtain ⟨p, l, e, s, m, below, meth, c, D, cI, cJ, hfix, hret, hlk, hX, hbl, hN, rfl⟩ := hR
  intro H locs ls hw hl
  exact lv_isub hfix.1 hfix.2.1 hdg  (k H locs ls hw hl)
theorem l_iand (hR : RLw adC adM b L xs J) {x y : Int32} (hdg : decode cL_law pc = .ok (.iand, 1))  (k : J lv (.int (x &&& y) :: st) qC qM (pc + 1)) : J lv (.int y :: .int x :: st) qC qM pc := by
  obtain ⟨p, l, e, s, m, below, meth, c, D, cI, cJ, hfix, hret, hlk, hX, hbl, hN, rfl⟩ := hR
  intro H locs ls hw hl
  exact lv_iand hfix.1 hfix.2.1 hdg  (k H locs ls hw hl)
theorem l_land (hR : RLw adC adM b L xs J) {x y : Int64} (hdg : decode cL_law pc = .ok (.land, 1))  (k : J lv (.long (x &&& y) :: st) qC qM (pc + 1)) : J lv (.long y :: .long x :: st) qC qM pc := by
  obtain ⟨p, l, e, s, m, below, meth, c, D, cI, cJ, hfix, hret, hlk, hX, hbl, hN, rfl⟩ := hR
  intro H locs ls hw hl
  exact lv_land hfix.1 hfix.2.1 hdg  (k H locs ls hw hl)
theorem l_lor (hR : RLw adC adM b L xs J) {x y : Int64} (hdg : decode cL_law pc = .ok (.lor, 1))  (k : J lv (.long (x ||| y) :: st) qC qM (pc + 1)) : J lv (.long y :: .long x :: st) qC qM pc := by
  obtain ⟨p, l, e, s, m, below, meth, c, D, cI, cJ, hfix, hret, hlk, hX, hbl, hN, rfl⟩ := hR
  intro H locs ls hw hl
  exact lv_lor hfix.1 hfix.2.1 hdg  (k H locs ls hw hl)
theorem l_i2l (hR : RLw adC adM b L xs J) {x : Int32} (hdg : decode cL_law pc = .ok (.i2l, 1))  (k : J lv (.long x.toInt64 :: st) qC qM (pc + 1)) : J lv (.int x :: st) qC qM pc := by
  obtain ⟨p, l, e, s, m, below, meth, c, D, cI, cJ, hfix, hret, hlk, hX, hbl, hN, rfl⟩ := hR
  intro H locs ls hw hl
  exact lv_i2l hfix.1 hfix.2.1 hdg rfl (k H locs ls hw hl)
theorem l_lshl (hR : RLw adC adM b L xs J) {x : Int64} {y : Int32} (hdg : decode cL_law pc = .ok (.lshl, 1))  (k : J lv (.long (jlshl x y) :: st) qC qM (pc + 1)) : J lv (.int y :: .long x :: st) qC qM pc := by
  obtain ⟨p, l, e, s, m, below, meth, c, D, cI, cJ, hfix, hret, hlk, hX, hbl, hN, rfl⟩ := hR
  intro H locs ls hw hl
  exact lv_lshl hfix.1 hfix.2.1 hdg rfl (k H locs ls hw hl)
theorem l_lcmp (hR : RLw adC adM b L xs J) {x y : Int64} (hdg : decode cL_law pc = .ok (.lcmp, 1))  (k : J lv (.int (lg_cmp x y) :: st) qC qM (pc + 1)) : J lv (.long y :: .long x :: st) qC qM pc := by
  obtain ⟨p, l, e, s, m, below, meth, c, D, cI, cJ, hfix, hret, hlk, hX, hbl, hN, rfl⟩ := hR
  intro H locs ls hw hl
  exact W.lcmp hfix.1 hfix.2.1 hdg  (k H locs ls hw hl)
theorem l_iconst (hR : RLw adC adM b L xs J) {i : Int} {v : Int32} (hdg : decode cL_law pc = .ok (.iconst i, 1)) (hv : Int32.ofInt i = v) (k : J lv (.int v :: st) qC qM (pc + 1)) : J lv (st) qC qM pc := by
  obtain ⟨p, l, e, s, m, below, meth, c, D, cI, cJ, hfix, hret, hlk, hX, hbl, hN, rfl⟩ := hR
  intro H locs ls hw hl
  exact lv_iconst hfix.1 hfix.2.1 hdg hv (k H locs ls hw hl)
theorem l_bipush (hR : RLw adC adM b L xs J) {i : Int} {v : Int32} (hdg : decode cL_law pc = .ok (.bipush i, 2)) (hv : (Int8.ofInt i).toInt32 = v) (k : J lv (.int v :: st) qC qM (pc + 2)) : J lv (st) qC qM pc := by
  obtain ⟨p, l, e, s, m, below, meth, c, D, cI, cJ, hfix, hret, hlk, hX, hbl, hN, rfl⟩ := hR
  intro H locs ls hw hl
  exact lv_bipush hfix.1 hfix.2.1 hdg hv (k H locs ls hw hl)
theorem l_ldc2 (hR : RLw adC adM b L xs J) {i : Nat} {v : Int64} (hdg : decode cL_law pc = .ok (.ldc2_w i, 3)) (hm : Cond.constantLong RL i v ∈ TT) (k : J lv (.long v :: st) qC qM (pc + 3)) : J lv st qC qM pc := by
  obtain ⟨p, l, e, s, m, below, meth, c, D, cI, cJ, hfix, hret, hlk, hX, hbl, hN, rfl⟩ := hR
  intro H locs ls hw hl
  exact lv_ldc2 hfix.1 hfix.2.1 hfix.2.2.2.1 (hfix.2.2.2.2 _ hm) hdg (k H locs ls hw hl)
theorem l_iload (hR : RLw adC adM b L xs J) {kk : Fin 4} {i : Nat} {x : Int32} (hdg : decode cL_law pc = .ok (.iload_n kk, 1)) (hi : (kk : Nat) = i) (j : Nat) (hj : lv[j]? = some (i, .int x)) (k : J lv (.int x :: st) qC qM (pc + 1)) : J lv st qC qM pc := by
  obtain ⟨p, l, e, s, m, below, meth, c, D, cI, cJ, hfix, hret, hlk, hX, hbl, hN, rfl⟩ := hR
  intro H locs ls hw hl
  exact lv_iload_n hfix.1 hfix.2.1 hdg hi (lv_at hl j hj) (k H locs ls hw hl)
theorem l_aload (hR : RLw adC adM b L xs J) {kk : Fin 4} {i x : Nat} (hdg : decode cL_law pc = .ok (.aload_n kk, 1)) (hi : (kk : Nat) = i) (j : Nat) (hj : lv[j]? = some (i, .ref x)) (k : J lv (.ref x :: st) qC qM (pc + 1)) : J lv st qC qM pc := by
  obtain ⟨p, l, e, s, m, below, meth, c, D, cI, cJ, hfix, hret, hlk, hX, hbl, hN, rfl⟩ := hR
  intro H locs ls hw hl
  exact lv_aload_n hfix.1 hfix.2.1 hdg hi (lv_at hl j hj) (k H locs ls hw hl)
theorem l_iinc (hR : RLw adC adM b L xs J) {i : Nat} {d : Int} {x v : Int32} (hdg : decode cL_law pc = .ok (.iinc i d, 3)) (j : Nat) (hj : lv[j]? = some (i, .int x)) (hv : x + Int32.ofInt d = v) (hn : i < 4) (hlv : (i, Value.int v) :: lv.filter (fun q => !(q.1 == i) && !(q.1 + 1 == i && q.2.category == 2)) = lv') (k : J lv' st qC qM (pc + 3)) : J lv st qC qM pc := by
  obtain ⟨p, l, e, s, m, below, meth, c, D, cI, cJ, hfix, hret, hlk, hX, hbl, hN, rfl⟩ := hR
  intro H locs ls hw hl
  exact lv_iinc hfix.1 hfix.2.1 hdg hl hj hv hn hlv (fun ls2 hl2 => k H locs ls2 hw hl2)
theorem l_goto (hR : RLw adC adM b L xs J) {off : Int} {tgt : Nat} (hdg : decode cL_law pc = .ok (.goto off, 3)) (ht : (pc : Int) + off = (tgt : Int)) (k : J lv st qC qM tgt) : J lv st qC qM pc := by
  obtain ⟨p, l, e, s, m, below, meth, c, D, cI, cJ, hfix, hret, hlk, hX, hbl, hN, rfl⟩ := hR
  intro H locs ls hw hl
  exact lv_goto hfix.1 hfix.2.1 hdg ht (k H locs ls hw hl)
theorem l_icmp_gt (hR : RLw adC adM b L xs J) {x y : Int32} {off : Int} {tgt : Nat} (hdg : decode cL_law pc = .ok (.if_icmp .gt off, 3)) (ht : (pc : Int) + off = (tgt : Int)) (kt : y < x → J lv st qC qM tgt) (kf : ¬ y < x → J lv st qC qM (pc + 3)) : J lv (.int y :: .int x :: st) qC qM pc := by
  obtain ⟨p, l, e, s, m, below, meth, c, D, cI, cJ, hfix, hret, hlk, hX, hbl, hN, rfl⟩ := hR
  intro H locs ls hw hl
  exact lv_icmp_gt hfix.1 hfix.2.1 hdg ht (fun c => kt c H locs ls hw hl) (fun c => kf c H locs ls hw hl)
theorem l_icmp_eq (hR : RLw adC adM b L xs J) {x : Int32} {off : Int} {tgt : Nat} (hdg : decode cL_law pc = .ok (.if_icmp .eq off, 3)) (ht : (pc : Int) + off = (tgt : Int)) (kt : J lv st qC qM tgt) : J lv (.int x :: .int x :: st) qC qM pc := by
  obtain ⟨p, l, e, s, m, below, meth, c, D, cI, cJ, hfix, hret, hlk, hX, hbl, hN, rfl⟩ := hR
  intro H locs ls hw hl
  exact lv_icmp_eq hfix.1 hfix.2.1 hdg ht (fun _ => kt H locs ls hw hl) (fun c => absurd rfl c)
theorem l_if_eq (hR : RLw adC adM b L xs J) {x : Int32} {off : Int} {tgt : Nat} (hdg : decode cL_law pc = .ok (.ifCond .eq off, 3)) (ht : (pc : Int) + off = (tgt : Int)) (hx : x = 0) (kt : J lv st qC qM tgt) : J lv (.int x :: st) qC qM pc := by
  obtain ⟨p, l, e, s, m, below, meth, c, D, cI, cJ, hfix, hret, hlk, hX, hbl, hN, rfl⟩ := hR
  intro H locs ls hw hl
  exact lv_if_eq hfix.1 hfix.2.1 hdg ht (fun _ => kt H locs ls hw hl) (fun c => absurd hx c)
theorem l_tableOut (hR : RLw adC adM b L xs J) {dflt lo hi : Int} {offs : Array Int} {len : Nat} {x : Int32} {tgt : Nat} (hdg : decode cL_law pc = .ok (.tableswitch dflt lo hi offs, len)) (h : x.toInt < lo ∨ hi < x.toInt) (ht : (pc : Int) + dflt = (tgt : Int)) (k : J lv st qC qM tgt) : J lv (.int x :: st) qC qM pc := by
  obtain ⟨p, l, e, s, m, below, meth, c, D, cI, cJ, hfix, hret, hlk, hX, hbl, hN, rfl⟩ := hR
  intro H locs ls hw hl
  exact lv_tableOut hfix.1 hfix.2.1 hdg h ht (k H locs ls hw hl)
theorem l_tableIn (hR : RLw adC adM b L xs J) {dflt lo hi : Int} {offs : Array Int} {len : Nat} {x : Int32} {off : Int} {tgt : Nat} (hdg : decode cL_law pc = .ok (.tableswitch dflt lo hi offs, len)) (h1 : ¬ x.toInt < lo) (h2 : ¬ hi < x.toInt) (ho : offs[(x.toInt - lo).toNat]? = some off) (ht : (pc : Int) + off = (tgt : Int)) (k : J lv st qC qM tgt) : J lv (.int x :: st) qC qM pc := by
  obtain ⟨p, l, e, s, m, below, meth, c, D, cI, cJ, hfix, hret, hlk, hX, hbl, hN, rfl⟩ := hR
  intro H locs ls hw hl
  exact lv_tableIn hfix.1 hfix.2.1 hdg h1 h2 ho ht (k H locs ls hw hl)
theorem l_slen (hR : RLw adC adM b L xs J)  (hdg : decode cL_law pc = .ok (.arraylength, 1))  (k : J lv (.int (nI L) :: st) qC qM (pc + 1)) : J lv (.ref b :: st) qC qM pc := by
  obtain ⟨p, l, e, s, m, below, meth, c, D, cI, cJ, hfix, hret, hlk, hX, hbl, hN, rfl⟩ := hR
  intro H locs ls hw hl
  exact va_slen hfix.1 hfix.2.1 hX hbl (Nat.not_le.mpr hbl) hw.2.2.2.2 hdg (k H locs ls hw hl)
theorem l_sld (hR : RLw adC adM b L xs J) {i : Int32} (hdg : decode cL_law pc = .ok (.iaload, 1)) (hin : vp_in i L) (k : J lv (.int (xs (ix i)) :: st) qC qM (pc + 1)) : J lv (.int i :: .ref b :: st) qC qM pc := by
  obtain ⟨p, l, e, s, m, below, meth, c, D, cI, cJ, hfix, hret, hlk, hX, hbl, hN, rfl⟩ := hR
  intro H locs ls hw hl
  exact va_sld hfix.1 hfix.2.1 hX hbl (Nat.not_le.mpr hbl) hw.2.2.2.2 hin hdg (k H locs ls hw hl)
theorem l_ret (hR : RLw adC adM b L xs J) (hdg : decode cL_law pc = .ok (.ireturn, 1)) : J lv [.int 1] qC qM pc := by
  obtain ⟨p, l, e, s, m, below, meth, c, D, cI, cJ, hfix, hret, hlk, hX, hbl, hN, rfl⟩ := hR
  intro H locs ls hw hl
  refine va_forget (fun q hq => hw.2.2.2.2.2.2 q hq) ?_
  refine W.widen (k := 600000) (n := 7302250) (by decide) (by decide) ?_
  exact lw_ret hfix.1 hfix.2.1 hret hlk hdg
theorem l_left {A : Nat → Prop} {w1 w2 : va_W} (h : va_D A (w1 ++ w2)) : va_D A w1 := ⟨fun i j x y hi hj hxy => h.1 i j x y (by rw [List.getElem?_append_left (List.getElem?_eq_some_iff.mp hi).1]; exact hi) (by rw [List.getElem?_append_left (List.getElem?_eq_some_iff.mp hj).1]; exact hj) hxy, fun k x hk => h.2 k x (by rw [List.getElem?_append_left (List.getElem?_eq_some_iff.mp hk).1]; exact hk)⟩
theorem l_right {A : Nat → Prop} {w1 w2 : va_W} (h : va_D A (w1 ++ w2)) : va_D A w2 := by
  have key : ∀ (i : Nat) (x : Nat × va_E), w2[i]? = some x → (w1 ++ w2)[w1.length + i]? = some x := fun i x hx => by
    rw [List.getElem?_append_right (by omega), Nat.add_sub_cancel_left]; exact hx
  exact ⟨fun i j x y hi hj hxy => by have := h.1 _ _ x y (key i x hi) (key j y hj) hxy; omega, fun k x hk => h.2 _ x (key k x hk)⟩
theorem l_apart {A : Nat → Prop} {w1 w2 : va_W} (h : va_D A (w1 ++ w2)) {i j : Nat} {x y : Nat × va_E} (hx : w1[i]? = some x) (hy : w2[j]? = some y) (hxy : x.1 = y.1) : False := by
  have h1 : (w1 ++ w2)[i]? = some x := by rw [List.getElem?_append_left (List.getElem?_eq_some_iff.mp hx).1]; exact hx
  have h2 : (w1 ++ w2)[w1.length + j]? = some y := by rw [List.getElem?_append_right (by omega), Nat.add_sub_cancel_left]; exact hy
  have h3 := h.1 _ _ x y h1 h2 hxy
  have h4 := (List.getElem?_eq_some_iff.mp hx).1
  omega
theorem l_goC {p : Program} {l : Launch} {e : Env} {s : State} {m : MethodId} {args : Array Value} {below : List Frame} {meth : Method} {c : Code} {D : va_G} {cI cJ : ClassId} {A : Nat → Prop} {H : Heap} {locs : List Loc} {ls : Array Slot} {Qr : State → Prop} {R : Room} {a : Array Value} {v : Option Value} {stk : List Value} {ck cs : Nat}
    (hr : va_Run p l e R s m args below meth c H locs ck cs 0 0 (F0 m pc ls stk) st (QQ wC D adC cI cJ (va_A (wC adC cI cJ qC) H.size) (fun v2 q3 => v2 = v ∧ q3 = q1) a) (va_A (wC adC cI cJ qC) H.size)) (hw : WDL D adC adM cI cJ A s qC qM H locs) (hA : ∀ x, s.heap.size ≤ x → A x)
    (kk : ∀ (H1 : Heap) (locs1 : List Loc), WDL D adC adM cI cJ A s q1 qM H1 locs1 → W p l e R s m args below meth c H1 locs1 ck cs Qr (F0 m (pc + 3) ls (v.toList ++ st))) : W p l e R s m args below meth c H locs ck cs Qr (F0 m pc ls stk) := by
  obtain ⟨hK, hPC, hPM, hD, hS⟩ := hw
  have hF : ∀ x, va_A (wC adC cI cJ qC) H.size x → A x := fun x h => by
    rcases h with ⟨k, e1, h⟩ | h
    · obtain ⟨j, hj⟩ := List.getElem?_of_mem (List.mem_append_left (wM adM cI cJ qM) (List.mem_of_getElem? h))
      exact hD.2 j (x, e1) hj
    · exact hA x (Nat.le_trans hS.1 h)
  intro T hT X
  obtain ⟨v1, st₀, t, T', L, h0, X', hL, e1, e2, ⟨⟨v2, q3, hv, ⟨rfl, rfl⟩, hP1, hK1, hD1⟩, hz, hk⟩, stp⟩ := hr T hT X
  cases hv
  rw [h0] at hz hk
  have apart : ∀ (i : Nat) (x : Nat × va_E), (wM adM cI cJ qM)[i]? = some x → x.1 < H.size ∧ ¬ va_A (wC adC cI cJ qC) H.size x.1 := fun i x hx => by
    have hl := (hPM i x hx).lt
    refine ⟨hl, fun h => ?_⟩
    rcases h with ⟨k, e2, h⟩ | h
    · exact l_apart hD h hx rfl
    · omega
  obtain ⟨t2, a1, b1⟩ := kk T'.heap (locs ++ L) ⟨hK, by rw [e1]; exact hP1, hPM.kept (fun i x hx => by rw [e1]; exact hk x.1 (apart i x hx).1 (apart i x hx).2), va_D.app (hD1.weaken (fun k x _ h => hF x.1 h)) (l_right hD) (fun i j x y hx hy hxy => (apart j y hy).2 (by rw [← hxy]; exact hD1.2 i x hx)), Nat.le_trans hS.1 (by rw [e1]; exact hz), fun x h1 h2 => by rw [e1, hk x (Nat.lt_of_lt_of_le h1 hS.1) (fun z => h2 (hF x z))]; exact hS.2.1 x h1 h2, fun x hx => by
    rcases List.mem_append.mp hx with h | h
    · exact hS.2.2 x h
    · exact hF _ (hL x h)⟩ T' rfl X'
  exact ⟨t2, stp t2 a1, b1⟩
theorem l_callC (hR : RLw adC adM b L xs J) {n2 np idx maxL : Nat} {y : MethodName} {bytes : ByteArray} {rt : Option FieldType} {av : (Nat → Nat) → List Value} {v : (Nat → Nat) → Option Value} (hC : Ct wC n2 y bytes maxL rt av qC v q1) (hcf : Cf RL 40 n2 np idx y bytes maxL rt)
    (hi : Cond.instanceMethod y ∈ TT ∧ Cond.selects y.cls y y ∈ TT) {As stk : List Value} (hav : av adC = .ref (adC 0) :: As) (hlen : As.length = np) (hqn : y.cls = RX8)
    (hst : (st.map fun v => v.category).sum ≤ 8) (hs : stk = As.reverse ++ .ref (adC 0) :: st) (hdg : decode cL_law pc = .ok (.invokevirtual idx, 3)) (k : J lv ((v adC).toList ++ st) q1 qM (pc + 3)) : J lv stk qC qM pc := by
  obtain ⟨p, l, e, s, m, below, meth, c, D, cI, cJ, hfix, hret, hlk, hX, hbl, hN, rfl⟩ := hR
  intro H locs ls hw hl
  obtain ⟨h1, h2, h3, h4, h5, h6⟩ := hcf
  have hts := hfix.2.2.2.2
  have hP := hw.2.1
  obtain ⟨fs, he⟩ := rc_X8 adC qC cI cJ
  have hG : GoodIn TT (.code y bytes maxL rt :: TT) := fun w h => by
    rcases List.mem_cons.mp h with rfl | h
    · exact ⟨h3, TTg _ h3⟩
    · exact ⟨h, TTg w h⟩
  have hM := hC l D adC cI cJ H.size
  have hcb : CallB room_1 s #[Value.ref b] RL idx y bytes maxL rt (.code y bytes maxL rt :: TT) (rmN n2) 0 0 np := callB_of np hts hG rfl rfl rfl (hts _ h2) (hts _ h1) h4 ⟨show 2 * n2 + 1 ≤ 2048 by omega, show 8 + (maxL + 11) + 100 * n2 ≤ 84000 by omega⟩
  refine l_goC (v := v adC) (a := (Value.ref (adC 0) :: As).toArray) (va_runV (As := As) (rest := st) (C := y.cls) hfix hM ⟨hcb, hts _ hi.1, hts _ hi.2⟩ ⟨fun a U g mk z => ?_, ?_, fun U hU hW => ?_⟩ rfl hlen hl.1 hs (lv_room (m := m) (pc := pc) (ls := ls) (rest := st) hst) hdg ⟨by decide, by decide⟩) hw (fun _ h => h) (fun H1 locs1 hw1 => k H1 locs1 ls hw1 hl)
  · obtain ⟨z0, z1, z2, z3, z4, z5⟩ := z
    exact ⟨z0, z1, va_K.moved (u := U) (U := U.calling g mk a) (Vm.Alike.refl U.vm) z2, z3, z4, z5.calling⟩
  · obtain ⟨cell, g1, g2, g3⟩ := va_recv hw.1 hP (ci := 6) rfl he
    exact ⟨cell, g1, g2, by rw [hqn]; exact g3⟩
  · exact ⟨by rw [hav], by rw [hU], va_K.moved hW.alike hw.1, by rw [hU]; exact hP, (l_left hw.2.2.2.1).weaken (fun _ _ _ _ => trivial), hN.warm hW⟩
theorem l_goM {p : Program} {l : Launch} {e : Env} {s : State} {m : MethodId} {args : Array Value} {below : List Frame} {meth : Method} {c : Code} {D : va_G} {cI cJ : ClassId} {A : Nat → Prop} {H : Heap} {locs : List Loc} {ls : Array Slot} {Qr : State → Prop} {R : Room} {a : Array Value} {v : Option Value} {stk : List Value} {ck cs : Nat}
    (hr : va_Run p l e R s m args below meth c H locs ck cs 0 0 (F0 m pc ls stk) st (QQ wM D adM cI cJ (va_A (wM adM cI cJ qM) H.size) (fun v2 q3 => v2 = v ∧ q3 = q1) a) (va_A (wM adM cI cJ qM) H.size)) (hw : WDL D adC adM cI cJ A s qC qM H locs) (hA : ∀ x, s.heap.size ≤ x → A x)
    (kk : ∀ (H1 : Heap) (locs1 : List Loc), WDL D adC adM cI cJ A s qC q1 H1 locs1 → W p l e R s m args below meth c H1 locs1 ck cs Qr (F0 m (pc + 3) ls (v.toList ++ st))) : W p l e R s m args below meth c H locs ck cs Qr (F0 m pc ls stk) := by
  obtain ⟨hK, hPC, hPM, hD, hS⟩ := hw
  have hF : ∀ x, va_A (wM adM cI cJ qM) H.size x → A x := fun x h => by
    rcases h with ⟨k, e1, h⟩ | h
    · obtain ⟨j, hj⟩ := List.getElem?_of_mem (List.mem_append_right (wC adC cI cJ qC) (List.mem_of_getElem? h))
      exact hD.2 j (x, e1) hj
    · exact hA x (Nat.le_trans hS.1 h)
  intro T hT X
  obtain ⟨v1, st₀, t, T', L, h0, X', hL, e1, e2, ⟨⟨v2, q3, hv, ⟨rfl, rfl⟩, hP1, hK1, hD1⟩, hz, hk⟩, stp⟩ := hr T hT X
  cases hv
  rw [h0] at hz hk
  have apart : ∀ (i : Nat) (x : Nat × va_E), (wC adC cI cJ qC)[i]? = some x → x.1 < H.size ∧ ¬ va_A (wM adM cI cJ qM) H.size x.1 := fun i x hx => by
    have hl := (hPC i x hx).lt
    refine ⟨hl, fun h => ?_⟩
    rcases h with ⟨k, e2, h⟩ | h
    · exact l_apart hD hx h rfl
    · omega
  obtain ⟨t2, a1, b1⟩ := kk T'.heap (locs ++ L) ⟨hK, hPC.kept (fun i x hx => by rw [e1]; exact hk x.1 (apart i x hx).1 (apart i x hx).2), by rw [e1]; exact hP1, va_D.app (l_left hD) (hD1.weaken (fun k x _ h => hF x.1 h)) (fun i j x y hx hy hxy => (apart i x hx).2 (by rw [hxy]; exact hD1.2 j y hy)), Nat.le_trans hS.1 (by rw [e1]; exact hz), fun x h1 h2 => by rw [e1, hk x (Nat.lt_of_lt_of_le h1 hS.1) (fun z => h2 (hF x z))]; exact hS.2.1 x h1 h2, fun x hx => by
    rcases List.mem_append.mp hx with h | h
    · exact hS.2.2 x h
    · exact hF _ (hL x h)⟩ T' rfl X'
  exact ⟨t2, stp t2 a1, b1⟩
theorem l_callM (hR : RLw adC adM b L xs J) {n2 np idx maxL : Nat} {y : MethodName} {bytes : ByteArray} {rt : Option FieldType} {av : (Nat → Nat) → List Value} {v : (Nat → Nat) → Option Value} (hC : Ct wM n2 y bytes maxL rt av qM v q1) (hcf : Cf RL 40 n2 np idx y bytes maxL rt)
    (hi : Cond.instanceMethod y ∈ TT ∧ Cond.selects y.cls y y ∈ TT) {As stk : List Value} (hav : av adM = .ref (adM 0) :: As) (hlen : As.length = np) (hqn : y.cls = RX9)
    (hst : (st.map fun v => v.category).sum ≤ 8) (hs : stk = As.reverse ++ .ref (adM 0) :: st) (hdg : decode cL_law pc = .ok (.invokevirtual idx, 3)) (k : J lv ((v adM).toList ++ st) qC q1 (pc + 3)) : J lv stk qC qM pc := by
  obtain ⟨p, l, e, s, m, below, meth, c, D, cI, cJ, hfix, hret, hlk, hX, hbl, hN, rfl⟩ := hR
  intro H locs ls hw hl
  obtain ⟨h1, h2, h3, h4, h5, h6⟩ := hcf
  have hts := hfix.2.2.2.2
  have hP := hw.2.2.1
  obtain ⟨fs, he⟩ := rc_X9 adM qM cI cJ
  have hG : GoodIn TT (.code y bytes maxL rt :: TT) := fun w h => by
    rcases List.mem_cons.mp h with rfl | h
    · exact ⟨h3, TTg _ h3⟩
    · exact ⟨h, TTg w h⟩
  have hM := hC l D adM cI cJ H.size
  have hcb : CallB room_1 s #[Value.ref b] RL idx y bytes maxL rt (.code y bytes maxL rt :: TT) (rmN n2) 0 0 np := callB_of np hts hG rfl rfl rfl (hts _ h2) (hts _ h1) h4 ⟨show 2 * n2 + 1 ≤ 2048 by omega, show 8 + (maxL + 11) + 100 * n2 ≤ 84000 by omega⟩
  refine l_goM (v := v adM) (a := (Value.ref (adM 0) :: As).toArray) (va_runV (As := As) (rest := st) (C := y.cls) hfix hM ⟨hcb, hts _ hi.1, hts _ hi.2⟩ ⟨fun a U g mk z => ?_, ?_, fun U hU hW => ?_⟩ rfl hlen hl.1 hs (lv_room (m := m) (pc := pc) (ls := ls) (rest := st) hst) hdg ⟨by decide, by decide⟩) hw (fun _ h => h) (fun H1 locs1 hw1 => k H1 locs1 ls hw1 hl)
  · obtain ⟨z0, z1, z2, z3, z4, z5⟩ := z
    exact ⟨z0, z1, va_K.moved (u := U) (U := U.calling g mk a) (Vm.Alike.refl U.vm) z2, z3, z4, z5.calling⟩
  · obtain ⟨cell, g1, g2, g3⟩ := va_recv hw.1 hP (ci := 7) rfl he
    exact ⟨cell, g1, g2, by rw [hqn]; exact g3⟩
  · exact ⟨by rw [hav], by rw [hU], va_K.moved hW.alike hw.1, by rw [hU]; exact hP, (l_right hw.2.2.2.1).weaken (fun _ _ _ _ => trivial), hN.warm hW⟩
theorem l_callCi (hR : RLw adC adM b L xs J) {n2 np idx maxL : Nat} {y : MethodName} {bytes : ByteArray} {rt : Option FieldType} {av : (Nat → Nat) → List Value} {r : Int32} (hC : Ct wC n2 y bytes maxL rt av qC (fun _ => some (.int r)) q1) (hcf : Cf RL 40 n2 np idx y bytes maxL rt) (hi : Cond.instanceMethod y ∈ TT ∧ Cond.selects y.cls y y ∈ TT) {As stk : List Value} (hav : av adC = .ref (adC 0) :: As) (hlen : As.length = np) (hqn : y.cls = RX8) (hst : (st.map fun v => v.category).sum ≤ 8) (hs : stk = As.reverse ++ .ref (adC 0) :: st) (hdg : decode cL_law pc = .ok (.invokevirtual idx, 3)) (k : J lv (.int r :: st) q1 qM (pc + 3)) : J lv stk qC qM pc := l_callC hR hC hcf hi hav hlen hqn hst hs hdg k
theorem l_callCl (hR : RLw adC adM b L xs J) {n2 np idx maxL : Nat} {y : MethodName} {bytes : ByteArray} {rt : Option FieldType} {av : (Nat → Nat) → List Value} {r : Int64} (hC : Ct wC n2 y bytes maxL rt av qC (fun _ => some (.long r)) q1) (hcf : Cf RL 40 n2 np idx y bytes maxL rt) (hi : Cond.instanceMethod y ∈ TT ∧ Cond.selects y.cls y y ∈ TT) {As stk : List Value} (hav : av adC = .ref (adC 0) :: As) (hlen : As.length = np) (hqn : y.cls = RX8) (hst : (st.map fun v => v.category).sum ≤ 8) (hs : stk = As.reverse ++ .ref (adC 0) :: st) (hdg : decode cL_law pc = .ok (.invokevirtual idx, 3)) (k : J lv (.long r :: st) q1 qM (pc + 3)) : J lv stk qC qM pc := l_callC hR hC hcf hi hav hlen hqn hst hs hdg k
theorem l_callMi (hR : RLw adC adM b L xs J) {n2 np idx maxL : Nat} {y : MethodName} {bytes : ByteArray} {rt : Option FieldType} {av : (Nat → Nat) → List Value} {r : Int32} (hC : Ct wM n2 y bytes maxL rt av qM (fun _ => some (.int r)) q1) (hcf : Cf RL 40 n2 np idx y bytes maxL rt) (hi : Cond.instanceMethod y ∈ TT ∧ Cond.selects y.cls y y ∈ TT) {As stk : List Value} (hav : av adM = .ref (adM 0) :: As) (hlen : As.length = np) (hqn : y.cls = RX9) (hst : (st.map fun v => v.category).sum ≤ 8) (hs : stk = As.reverse ++ .ref (adM 0) :: st) (hdg : decode cL_law pc = .ok (.invokevirtual idx, 3)) (k : J lv (.int r :: st) qC q1 (pc + 3)) : J lv stk qC qM pc := l_callM hR hC hcf hi hav hlen hqn hst hs hdg k
theorem l_callMl (hR : RLw adC adM b L xs J) {n2 np idx maxL : Nat} {y : MethodName} {bytes : ByteArray} {rt : Option FieldType} {av : (Nat → Nat) → List Value} {r : Int64} (hC : Ct wM n2 y bytes maxL rt av qM (fun _ => some (.long r)) q1) (hcf : Cf RL 40 n2 np idx y bytes maxL rt) (hi : Cond.instanceMethod y ∈ TT ∧ Cond.selects y.cls y y ∈ TT) {As stk : List Value} (hav : av adM = .ref (adM 0) :: As) (hlen : As.length = np) (hqn : y.cls = RX9) (hst : (st.map fun v => v.category).sum ≤ 8) (hs : stk = As.reverse ++ .ref (adM 0) :: st) (hdg : decode cL_law pc = .ok (.invokevirtual idx, 3)) (k : J lv (.long r :: st) qC q1 (pc + 3)) : J lv stk qC qM pc := l_callM hR hC hcf hi hav hlen hqn hst hs hdg k
end LawRows
