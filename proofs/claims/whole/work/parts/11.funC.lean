def fJ6_bitCount (x0 : Int32) : Option Int32 :=
  bn (x0 - ((jushr x0 (1 : Int32)) &&& (1431655765 : Int32))) fun x0_9 => bn ((x0_9 &&& (858993459 : Int32)) + ((jushr x0_9 (2 : Int32)) &&& (858993459 : Int32))) fun x0_23 => bn ((x0_23 + (jushr x0_23 (4 : Int32))) &&& (252645135 : Int32)) fun x0_33 => bn (x0_33 + (jushr x0_33 (8 : Int32))) fun x0_40 => bn (x0_40 + (jushr x0_40 (16 : Int32))) fun x0_47 => some (x0_47 &&& (63 : Int32))
def f0_forget_l2_B (N : Nat) (bk2 : Int32 → Int32 → SS → Option SS) (x1 : Int32) (x2 : Int32) (q : SS) : Option SS :=
  if (9 : Int32) ≤ x2 then (some q) else (ck ((x1 * (9 : Int32)) + x2) 576 (bn (sa q 22 (ix ((x1 * (9 : Int32)) + x2)) (-1 : Int32)) fun q_19 => bn (x2 + (1 : Int32)) fun x2_20 => bk2 x1 x2_20 q_19))
def f0_forget_l2 (N : Nat) : Nat → Int32 → Int32 → SS → Option SS
  | 0 => fun _ _ _ => none
  | n + 1 => f0_forget_l2_B N (f0_forget_l2 N n)
def f0_forget (N : Nat) (x1 : Int32) (q : SS) : Option SS :=
  f0_forget_l2 N N x1 ((0 : Int32)) q
def fJ6_numberOfTrailingZeros_b74 (x0 : Int32) (x1 : Int32) : Option Int32 :=
  some (x1 + (jushr x0 (1 : Int32)))
def fJ6_numberOfTrailingZeros_b62 (x0 : Int32) (x1 : Int32) : Option Int32 :=
  if x0 ≤ (4 : Int32) then (fJ6_numberOfTrailingZeros_b74 x0 x1) else (bn (x1 + (2 : Int32)) fun x1_67 => bn (jushr x0 (2 : Int32)) fun x0_73 => fJ6_numberOfTrailingZeros_b74 x0_73 x1_67)
def fJ6_numberOfTrailingZeros_b49 (x0 : Int32) (x1 : Int32) : Option Int32 :=
  if x0 ≤ (16 : Int32) then (fJ6_numberOfTrailingZeros_b62 x0 x1) else (bn (x1 + (4 : Int32)) fun x1_55 => bn (jushr x0 (4 : Int32)) fun x0_61 => fJ6_numberOfTrailingZeros_b62 x0_61 x1_55)
def fJ6_numberOfTrailingZeros_b34 (x0 : Int32) (x1 : Int32) : Option Int32 :=
  if x0 ≤ (256 : Int32) then (fJ6_numberOfTrailingZeros_b49 x0 x1) else (bn (x1 + (8 : Int32)) fun x1_41 => bn (jushr x0 (8 : Int32)) fun x0_48 => fJ6_numberOfTrailingZeros_b49 x0_48 x1_41)
def fJ6_numberOfTrailingZeros (x0 : Int32) : Option Int32 :=
  bn ((x0 ^^^ (-1 : Int32)) &&& (x0 - (1 : Int32))) fun x0_7 => if 0 < x0_7 then (if x0_7 ≤ (65536 : Int32) then (fJ6_numberOfTrailingZeros_b34 x0_7 ((1 : Int32))) else (bn ((1 : Int32) + (16 : Int32)) fun x1_26 => bn (jushr x0_7 (16 : Int32)) fun x0_33 => fJ6_numberOfTrailingZeros_b34 x0_33 x1_26)) else (some (x0_7 &&& (32 : Int32)))
def f0_keySigns (x0 : Int32) : Option Int32 :=
  bd (fJ6_bitCount x0) fun r_2 => some (((3 : Int32) * r_2) - (2 : Int32))
def f0_keyOfStep (x0 : Int32) (x1 : Int64) (x3 : Int32) (x4 : Int32) (x5 : Int64) : Option Int64 :=
  bd (f0_keySigns x0) fun r_3 => bn ((jlshl (1 : Int64) ((4 : Int32) * r_3)) ||| x1) fun x7_10 => bd (f0_keySigns x4) fun r_22 => some ((jlshl ((jlshl x7_10 (4 : Int32)) ||| (Int32.toInt64 x3)) ((4 : Int32) * r_22)) ||| x5)
def f0_putIfBetter_b67 (x1 : Int32) (x2 : Int32) (x3 : Int64) (q : SS) : Option SS :=
  ck x1 576 (bn (sa q 22 (ix x1) x2) fun q_73 => ck x1 576 (bn (sl q_73 (ix x1) x3) fun q_80 => some q_80))
def f0_putIfBetter_b29 (x1 : Int32) (x2 : Int32) (x3 : Int64) (s0 : Int32) (q : SS) : Option SS :=
  if s0 = 0 then (ck x1 576 (if x2 < (ar q 22 (ix x1)) then (f0_putIfBetter_b67 x1 x2 x3 q) else (ck x1 576 (if x2 = (ar q 22 (ix x1)) then (ck x1 576 (if (lo q (ix x1)) ≤ x3 then (some q) else (f0_putIfBetter_b67 x1 x2 x3 q))) else (some q))))) else (f0_putIfBetter_b67 x1 x2 x3 q)
def f0_putIfBetter (x1 : Int32) (x2 : Int32) (x3 : Int64) (q : SS) : Option SS :=
  if x1 < 0 then (some q) else (if x1 < (576 : Int32) then (ck x1 576 (if (ar q 22 (ix x1)) = (-1 : Int32) then (f0_putIfBetter_b29 x1 x2 x3 ((1 : Int32)) q) else (f0_putIfBetter_b29 x1 x2 x3 ((0 : Int32)) q))) else (some q))
def f0_offer (x1 : Int32) (x2 : Int32) (x3 : Int32) (x4 : Int64) (q : SS) : Option SS :=
  bd (f0_putIfBetter ((x1 * (9 : Int32)) + x2) x3 x4 q) fun q_10 => bd (f0_putIfBetter ((x1 * (9 : Int32)) + (8 : Int32)) x3 x4 q_10) fun q_24 => some q_24
def f5_roundedUp (x0 : Int32) (x1 : Int32) : Option Int32 :=
  if (1 : Int32) ≤ x1 then (dz x1 (some (((x0 + x1) - (1 : Int32)) / x1))) else (some (0 : Int32))
def f5_loops (x0 : Int32) (x1 : Int32) (x2 : Int32) : Option Int32 :=
  bn (x2 - (2 : Int32)) fun x3_3 => if x0 ≤ x3_3 then (some (0 : Int32)) else (bd (f5_roundedUp x0 x3_3) fun r_12 => some (x1 * (r_12 - (1 : Int32))))
def f7_memory (q : SS) : Option Int32 :=
  some (fi q 3)
def f0_takeLoops_b112 (N : Nat) (bk42 : Int32 → Int32 → Int32 → Int32 → Int32 → SS → Option SS) (x1 : Int32) (x2 : Int32) (x3 : Int32) (x4 : Int32) (x5 : Int32) (q : SS) : Option SS :=
  bn (x5 + (1 : Int32)) fun x5_112 => bk42 x1 x2 x3 x4 x5_112 q
def f0_takeLoops_l42_B (N : Nat) (bk42 : Int32 → Int32 → Int32 → Int32 → Int32 → SS → Option SS) (x1 : Int32) (x2 : Int32) (x3 : Int32) (x4 : Int32) (x5 : Int32) (q : SS) : Option SS :=
  if (9 : Int32) ≤ x5 then (some q) else (bn ((x1 * (9 : Int32)) + x5) fun x6_56 => ck x6_56 576 (if (ar q 22 (ix x6_56)) = (-1 : Int32) then (f0_takeLoops_b112 N bk42 x1 x2 x3 x4 x5 q) else (ck x6_56 576 (ck x3 576 (bd (f0_keyOfStep x1 (lo q (ix x6_56)) (8 : Int32) x2 (lo q (ix x3))) fun r_86 => ck x6_56 576 (bd (f0_offer (x1 ||| x2) x5 ((ar q 22 (ix x6_56)) + x4) r_86 q) fun q_109 => f0_takeLoops_b112 N bk42 x1 x2 x3 x4 x5 q_109))))))
def f0_takeLoops_l42 (N : Nat) : Nat → Int32 → Int32 → Int32 → Int32 → Int32 → SS → Option SS
  | 0 => fun _ _ _ _ _ _ => none
  | n + 1 => f0_takeLoops_l42_B N (f0_takeLoops_l42 N n)
def f0_takeLoops (N : Nat) (x1 : Int32) (x2 : Int32) (q : SS) : Option SS :=
  bn ((x2 * (9 : Int32)) + (8 : Int32)) fun x3_7 => ck x3_7 576 (ck x1 64 (ck x2 64 (bd (f7_memory q) fun r_30 => bd (f5_loops (ar q 24 (ix x1)) (ar q 24 (ix x2)) r_30) fun r_33 => bn ((ar q 22 (ix x3_7)) + r_33) fun x4_37 => f0_takeLoops_l42 N N x1 x2 x3_7 x4_37 ((0 : Int32)) q)))
def f5_parts (x0 : Int32) (x1 : Int32) (x2 : Int32) : Option Int32 :=
  if (jmin x0 x1) ≤ (x2 - (2 : Int32)) then (some (0 : Int32)) else (some ((2 : Int32) * (x0 + x1)))
def f0_takeParts (x1 : Int32) (x2 : Int32) (q : SS) : Option SS :=
  bn ((x1 * (9 : Int32)) + (8 : Int32)) fun x3_7 => bn ((x2 * (9 : Int32)) + (8 : Int32)) fun x4_15 => ck x1 64 (ck x2 64 (bd (f7_memory q) fun r_33 => bd (f5_parts (ar q 24 (ix x1)) (ar q 24 (ix x2)) r_33) fun r_36 => ck x3_7 576 (ck x4_15 576 (bd (f0_keyOfStep x1 (lo q (ix x3_7)) (9 : Int32) x2 (lo q (ix x4_15))) fun r_58 => ck x3_7 576 (ck x4_15 576 (bd (f0_offer (x1 ||| x2) (8 : Int32) (((ar q 22 (ix x3_7)) + (ar q 22 (ix x4_15))) + r_36) r_58 q) fun q_88 => some q_88))))))
def f8_isLetter (x0 : Int32) : Option Int32 :=
  if x0 < 0 then (some (0 : Int32)) else (if (8 : Int32) ≤ x0 then (some (0 : Int32)) else (some (1 : Int32)))
def f0_slotFor_b119 (q : SS) (x2 : Int32) : Option Int32 :=
  some x2
def f0_slotFor_b100 (q : SS) (x2 : Int32) (x4 : Int32) (x5 : Int32) (s0 : Int32) : Option Int32 :=
  ck x4 576 (if (ar q 22 (ix x4)) < x5 then (f0_slotFor_b119 q x2) else (if s0 = 0 then (some (8 : Int32)) else (f0_slotFor_b119 q x2)))
def f0_slotFor_b99 (q : SS) (x2 : Int32) (x4 : Int32) (x5 : Int32) : Option Int32 :=
  f0_slotFor_b100 q x2 x4 x5 ((0 : Int32))
def f0_slotFor (q : SS) (x1 : Int32) (x2 : Int32) : Option Int32 :=
  if x1 < (1 : Int32) then (some (8 : Int32)) else (if (64 : Int32) ≤ x1 then (some (8 : Int32)) else (bd (f8_isLetter x2) fun r_12 => if r_12 = 0 then (some (8 : Int32)) else (bn ((x1 * (9 : Int32)) + (8 : Int32)) fun x3_28 => bn ((x1 * (9 : Int32)) + x2) fun x4_35 => ck x4_35 576 (if (ar q 22 (ix x4_35)) = (-1 : Int32) then (some (8 : Int32)) else (ck x3_28 576 (ck x1 64 (bn ((ar q 22 (ix x3_28)) + (ar q 25 (ix x1))) fun x5_64 => ck x4_35 576 (if (ar q 22 (ix x4_35)) = x5_64 then (ck x4_35 576 (ck x3_28 576 (if (lo q (ix x3_28)) < (lo q (ix x4_35)) then (f0_slotFor_b99 q x2 x4_35 x5_64) else (f0_slotFor_b100 q x2 x4_35 x5_64 ((1 : Int32)))))) else (f0_slotFor_b99 q x2 x4_35 x5_64)))))))))
def f0_costFor_b43 (q : SS) (x4 : Int32) : Option Int32 :=
  some x4
def f0_costFor (q : SS) (x1 : Int32) (x2 : Int32) : Option Int32 :=
  if x1 < (1 : Int32) then (some (0 : Int32)) else (if x1 < (64 : Int32) then (bd (f0_slotFor q x1 x2) fun r_16 => ck ((x1 * (9 : Int32)) + r_16) 576 (bn (ar q 22 (ix ((x1 * (9 : Int32)) + r_16))) fun x4_31 => if x2 = (-1 : Int32) then (f0_costFor_b43 q x4_31) else (if r_16 = x2 then (f0_costFor_b43 q x4_31) else (ck x1 64 (some (x4_31 + (ar q 25 (ix x1)))))))) else (some (0 : Int32)))
def f0_keyFor_b11 (q : SS) : Option Int64 :=
  some (0 : Int64)
def f0_keyFor (q : SS) (x1 : Int32) (x2 : Int32) : Option Int64 :=
  if x1 < (1 : Int32) then (f0_keyFor_b11 q) else (if x1 < (64 : Int32) then (bd (f0_slotFor q x1 x2) fun r_26 => ck ((x1 * (9 : Int32)) + r_26) 576 (some (lo q (ix ((x1 * (9 : Int32)) + r_26))))) else (f0_keyFor_b11 q))
def f0_takeSorted (x1 : Int32) (x2 : Int32) (x3 : Int32) (q : SS) : Option SS :=
  bd (f0_costFor q x1 x3) fun r_3 => bd (f0_costFor q x2 x3) fun r_9 => bn (r_3 + r_9) fun x4_13 => bd (f0_keyFor q x1 x3) fun r_19 => bd (f0_keyFor q x2 x3) fun r_28 => bd (f0_keyOfStep x1 r_19 (10 : Int32) x2 r_28) fun r_31 => bd (f0_offer (x1 ||| x2) x3 x4_13 r_31 q) fun q_45 => some q_45
def f7_lettersOfSet_b30 (N : Nat) (q : SS) (bk4 : Int32 → Int32 → Int32 → Option Int32) (x1 : Int32) (x2 : Int32) (x3 : Int32) : Option Int32 :=
  bn (x3 + (1 : Int32)) fun x3_30 => bk4 x1 x2 x3_30
def f7_lettersOfSet_l4_B (N : Nat) (q : SS) (bk4 : Int32 → Int32 → Int32 → Option Int32) (x1 : Int32) (x2 : Int32) (x3 : Int32) : Option Int32 :=
  if (fi q 1) ≤ x3 then (some x2) else (if ((jshr x1 x3) &&& (1 : Int32)) = (1 : Int32) then (ck x3 6 (bn (x2 ||| (ar q 7 (ix x3))) fun x2_29 => f7_lettersOfSet_b30 N q bk4 x1 x2_29 x3)) else (f7_lettersOfSet_b30 N q bk4 x1 x2 x3))
def f7_lettersOfSet_l4 (N : Nat) (q : SS) : Nat → Int32 → Int32 → Int32 → Option Int32
  | 0 => fun _ _ _ => none
  | n + 1 => f7_lettersOfSet_l4_B N q (f7_lettersOfSet_l4 N q n)
def f7_lettersOfSet (N : Nat) (q : SS) (x1 : Int32) : Option Int32 :=
  f7_lettersOfSet_l4 N q N x1 ((0 : Int32)) ((0 : Int32))
def f0_takeSteps_b98 (N : Nat) (bk2 : Int32 → Int32 → Int32 → SS → Option SS) (x1 : Int32) (x2 : Int32) (x3 : Int32) (q : SS) : Option SS :=
  bn (x3 + (1 : Int32)) fun x3_98 => bk2 x1 x2 x3_98 q
def f0_takeSteps_b32 (N : Nat) (bk2 : Int32 → Int32 → Int32 → SS → Option SS) (x1 : Int32) (x2 : Int32) (x3 : Int32) (x4 : Int32) (s0 : Int32) (q : SS) : Option SS :=
  if (x3 &&& (x1 ^^^ (-1 : Int32))) = 0 then (if s0 = 0 then (f0_takeSteps_b98 N bk2 x1 x2 x3 q) else (bd (f0_takeLoops N x3 x4 q) fun q_51 => bd (f7_lettersOfSet N q_51 x3) fun r_59 => bd (f7_lettersOfSet N q_51 x4) fun r_68 => bn (r_59 &&& r_68) fun x6_72 => if x6_72 = 0 then (f0_takeSteps_b98 N bk2 x1 x2 x3 q_51) else (bd (f0_takeParts x3 x4 q_51) fun q_83 => bd (fJ6_numberOfTrailingZeros x6_72) fun r_92 => bd (f0_takeSorted x3 x4 r_92 q_83) fun q_95 => f0_takeSteps_b98 N bk2 x1 x2 x3 q_95))) else (f0_takeSteps_b98 N bk2 x1 x2 x3 q)
def f0_takeSteps_b27 (N : Nat) (bk2 : Int32 → Int32 → Int32 → SS → Option SS) (x1 : Int32) (x2 : Int32) (x3 : Int32) (x4 : Int32) (q : SS) : Option SS :=
  f0_takeSteps_b32 N bk2 x1 x2 x3 x4 ((1 : Int32)) q
def f0_takeSteps_l2_B (N : Nat) (bk2 : Int32 → Int32 → Int32 → SS → Option SS) (x1 : Int32) (x2 : Int32) (x3 : Int32) (q : SS) : Option SS :=
  if x1 ≤ x3 then (some q) else (bn (x1 &&& (x3 ^^^ (-1 : Int32))) fun x4_12 => if x2 = 0 then (f0_takeSteps_b27 N bk2 x1 x2 x3 x4_12 q) else (bd (fJ6_bitCount x4_12) fun r_20 => if r_20 = (1 : Int32) then (f0_takeSteps_b27 N bk2 x1 x2 x3 x4_12 q) else (f0_takeSteps_b32 N bk2 x1 x2 x3 x4_12 ((0 : Int32)) q)))
def f0_takeSteps_l2 (N : Nat) : Nat → Int32 → Int32 → Int32 → SS → Option SS
  | 0 => fun _ _ _ _ => none
  | n + 1 => f0_takeSteps_l2_B N (f0_takeSteps_l2 N n)
def f0_takeSteps (N : Nat) (x1 : Int32) (x2 : Int32) (q : SS) : Option SS :=
  f0_takeSteps_l2 N N x1 x2 ((1 : Int32)) q
def f7_hasLetter (q : SS) (x1 : Int32) (x2 : Int32) : Option Int32 :=
  if x1 < 0 then (some (0 : Int32)) else (if (fi q 1) ≤ x1 then (some (0 : Int32)) else (if x2 < 0 then (some (0 : Int32)) else (if (8 : Int32) ≤ x2 then (some (0 : Int32)) else (ck x1 6 (if ((jshr (ar q 7 (ix x1)) x2) &&& (1 : Int32)) = (1 : Int32) then (some (1 : Int32)) else (some (0 : Int32)))))))
def f4_numberIn (x0 : Int32) (x1 : Int32) : Option Int32 :=
  some ((jushr x0 ((4 : Int32) * x1)) &&& (15 : Int32))
def f7_codeAt_b31 (q : SS) (x1 : Int32) (x2 : Int32) (s0 : Int32) : Option Int32 :=
  if s0 = 0 then (some (0 : Int32)) else (ck ((x1 * (8 : Int32)) + x2) 48 (some (ar q 10 (ix ((x1 * (8 : Int32)) + x2)))))
def f7_codeAt_b30 (q : SS) (x1 : Int32) (x2 : Int32) : Option Int32 :=
  f7_codeAt_b31 q x1 x2 ((0 : Int32))
def f7_codeAt (q : SS) (x1 : Int32) (x2 : Int32) : Option Int32 :=
  if x1 < 0 then (f7_codeAt_b30 q x1 x2) else (if (fi q 1) ≤ x1 then (f7_codeAt_b30 q x1 x2) else (if x2 < 0 then (f7_codeAt_b30 q x1 x2) else (ck x1 6 (if (ar q 9 (ix x1)) ≤ x2 then (f7_codeAt_b30 q x1 x2) else (f7_codeAt_b31 q x1 x2 ((1 : Int32)))))))
def f7_rowsOf (q : SS) (x1 : Int32) : Option Int32 :=
  if x1 < 0 then (some (0 : Int32)) else (if (fi q 1) ≤ x1 then (some (0 : Int32)) else (ck x1 6 (some (ar q 9 (ix x1)))))
def f7_rowsRise_l2_B (N : Nat) (q : SS) (bk2 : Int32 → Int32 → Int32 → Option Int32) (x1 : Int32) (x2 : Int32) (x3 : Int32) : Option Int32 :=
  bd (f7_rowsOf q x1) fun r_5 => if r_5 ≤ x3 then (some (1 : Int32)) else (bd (f7_codeAt q x1 x3) fun r_14 => bd (f4_numberIn r_14 x2) fun r_18 => bd (f7_codeAt q x1 (x3 - (1 : Int32))) fun r_26 => bd (f4_numberIn r_26 x2) fun r_30 => if r_30 ≤ r_18 then (bn (x3 + (1 : Int32)) fun x3_38 => bk2 x1 x2 x3_38) else (some (0 : Int32)))
def f7_rowsRise_l2 (N : Nat) (q : SS) : Nat → Int32 → Int32 → Int32 → Option Int32
  | 0 => fun _ _ _ => none
  | n + 1 => f7_rowsRise_l2_B N q (f7_rowsRise_l2 N q n)
def f7_rowsRise (N : Nat) (q : SS) (x1 : Int32) (x2 : Int32) : Option Int32 :=
  f7_rowsRise_l2 N q N x1 x2 ((1 : Int32))
def f7_sortedLetter_b28 (N : Nat) (q : SS) (bk2 : Int32 → Int32 → Option Int32) (x1 : Int32) (x2 : Int32) : Option Int32 :=
  bn (x2 + (1 : Int32)) fun x2_28 => bk2 x1 x2_28
def f7_sortedLetter_l2_B (N : Nat) (q : SS) (bk2 : Int32 → Int32 → Option Int32) (x1 : Int32) (x2 : Int32) : Option Int32 :=
  if (8 : Int32) ≤ x2 then (some (-1 : Int32)) else (bd (f7_hasLetter q x1 x2) fun r_11 => if r_11 = 0 then (f7_sortedLetter_b28 N q bk2 x1 x2) else (bd (f7_rowsRise N q x1 x2) fun r_20 => if r_20 = 0 then (f7_sortedLetter_b28 N q bk2 x1 x2) else (some x2)))
def f7_sortedLetter_l2 (N : Nat) (q : SS) : Nat → Int32 → Int32 → Option Int32
  | 0 => fun _ _ => none
  | n + 1 => f7_sortedLetter_l2_B N q (f7_sortedLetter_l2 N q n)
def f7_sortedLetter (N : Nat) (q : SS) (x1 : Int32) : Option Int32 :=
  f7_sortedLetter_l2 N q N x1 ((0 : Int32))
def f0_takeTable_b27 (N : Nat) (x1 : Int32) (x2 : Int32) (s0 : Int32) (s1 : Int32) (q : SS) : Option SS :=
  ck x1 64 (bd (f0_offer s1 s0 (ar q 24 (ix x1)) (Int32.toInt64 ((2 : Int32) + x2)) q) fun q_37 => some q_37)
def f0_takeTable (N : Nat) (x1 : Int32) (q : SS) : Option SS :=
  bd (fJ6_numberOfTrailingZeros x1) fun r_1 => bd (f7_sortedLetter N q r_1) fun r_10 => if r_10 = (-1 : Int32) then (f0_takeTable_b27 N x1 r_1 ((8 : Int32)) x1 q) else (f0_takeTable_b27 N x1 r_1 r_10 x1 q)
def fJ7_fill_v12_l5_B (N : Nat) (bk5 : Int32 → Int32 → Int32 → SS → Option SS) (x1 : Int32) (x2 : Int32) (x3 : Int32) (q : SS) : Option SS :=
  if x3 ≤ x2 then (some q) else (ck x2 6 (bn (sa q 12 (ix x2) x1) fun q_13 => bn (x2 + (1 : Int32)) fun x2_14 => bk5 x1 x2_14 x3 q_13))
def fJ7_fill_v12_l5 (N : Nat) : Nat → Int32 → Int32 → Int32 → SS → Option SS
  | 0 => fun _ _ _ _ => none
  | n + 1 => fJ7_fill_v12_l5_B N (fJ7_fill_v12_l5 N n)
def fJ7_fill_v12 (N : Nat) (x1 : Int32) (q : SS) : Option SS :=
  fJ7_fill_v12_l5 N N x1 ((0 : Int32)) ((6 : Int32)) q
def f3_allowAllRows (N : Nat) (q : SS) : Option SS :=
  bd (fJ7_fill_v12 N (255 : Int32) q) fun q_7 => some q_7
def f3_countFrom_b108 (N : Nat) (self : Int32 → Int32 → Int32 → Option Int32) (q : SS) (bk36 : Int32 → Int32 → Int32 → Int32 → Int32 → Option Int32) (x1 : Int32) (x2 : Int32) (x3 : Int32) (x4 : Int32) (x5 : Int32) : Option Int32 :=
  bn (x5 + (1 : Int32)) fun x5_108 => bk36 x1 x2 x3 x4 x5_108
def f3_countFrom_l36_B (N : Nat) (self : Int32 → Int32 → Int32 → Option Int32) (q : SS) (bk36 : Int32 → Int32 → Int32 → Int32 → Int32 → Option Int32) (x1 : Int32) (x2 : Int32) (x3 : Int32) (x4 : Int32) (x5 : Int32) : Option Int32 :=
  if (8 : Int32) ≤ x5 then (some x4) else (ck ((x2 * (8 : Int32)) + x5) 48 (bn (ar q 13 (ix ((x2 * (8 : Int32)) + x5))) fun x6_55 => bd (f7_codeAt q x2 x5) fun r_64 => if x6_55 ≤ 0 then (f3_countFrom_b108 N self q bk36 x1 x2 x3 x4 x5) else (ck x2 6 (if ((r_64 ^^^ x3) &&& (ar q 14 (ix x2))) = 0 then (bd (self x1 (x2 + (1 : Int32)) (x3 ||| r_64)) fun r_101 => bn (x4 + (x6_55 * r_101)) fun x4_106 => f3_countFrom_b108 N self q bk36 x1 x2 x3 x4_106 x5) else (f3_countFrom_b108 N self q bk36 x1 x2 x3 x4 x5)))))
def f3_countFrom_l36 (N : Nat) (self : Int32 → Int32 → Int32 → Option Int32) (q : SS) : Nat → Int32 → Int32 → Int32 → Int32 → Int32 → Option Int32
  | 0 => fun _ _ _ _ _ => none
  | n + 1 => f3_countFrom_l36_B N self q (f3_countFrom_l36 N self q n)
def f3_countFrom_B (N : Nat) (self : Int32 → Int32 → Int32 → Option Int32) (q : SS) (x1 : Int32) (x2 : Int32) (x3 : Int32) : Option Int32 :=
  if x2 < 0 then (some (1 : Int32)) else (if x2 < (6 : Int32) then (if ((jshr x1 x2) &&& (1 : Int32)) = 0 then (bd (self x1 (x2 + (1 : Int32)) x3) fun r_26 => some r_26) else (f3_countFrom_l36 N self q N x1 x2 x3 ((0 : Int32)) ((0 : Int32)))) else (some (1 : Int32)))
def f3_countFrom (N : Nat) (q : SS) : Nat → Int32 → Int32 → Int32 → Option Int32
  | 0 => fun _ _ _ => none
  | d + 1 => f3_countFrom_B N (f3_countFrom N q d) q
def f3_firstLike_b56 (N : Nat) (q : SS) (bk14 : Int32 → Int32 → Int32 → Int32 → Int32 → Option Int32) (x1 : Int32) (x2 : Int32) (x3 : Int32) (x4 : Int32) (x5 : Int32) : Option Int32 :=
  bn (x5 + (1 : Int32)) fun x5_56 => bk14 x1 x2 x3 x4 x5_56
def f3_firstLike_l14_B (N : Nat) (q : SS) (bk14 : Int32 → Int32 → Int32 → Int32 → Int32 → Option Int32) (x1 : Int32) (x2 : Int32) (x3 : Int32) (x4 : Int32) (x5 : Int32) : Option Int32 :=
  if x2 ≤ x5 then (some x2) else (ck ((x1 * (8 : Int32)) + x5) 48 (if (ar q 13 (ix ((x1 * (8 : Int32)) + x5))) ≤ 0 then (f3_firstLike_b56 N q bk14 x1 x2 x3 x4 x5) else (bd (f7_codeAt q x1 x5) fun r_44 => if ((x4 ^^^ r_44) &&& x3) = 0 then (some x5) else (f3_firstLike_b56 N q bk14 x1 x2 x3 x4 x5))))
def f3_firstLike_l14 (N : Nat) (q : SS) : Nat → Int32 → Int32 → Int32 → Int32 → Int32 → Option Int32
  | 0 => fun _ _ _ _ _ => none
  | n + 1 => f3_firstLike_l14_B N q (f3_firstLike_l14 N q n)
def f3_firstLike (N : Nat) (q : SS) (x1 : Int32) (x2 : Int32) (x3 : Int32) : Option Int32 :=
  bd (f7_codeAt q x1 x2) fun r_6 => f3_firstLike_l14 N q N x1 x2 x3 r_6 ((0 : Int32))
def f3_weigh_b72 (N : Nat) (bk8 : Int32 → Int32 → Int32 → Int32 → SS → Option SS) (x1 : Int32) (x2 : Int32) (x3 : Int32) (x4 : Int32) (q : SS) : Option SS :=
  bn (x4 + (1 : Int32)) fun x4_72 => bk8 x1 x2 x3 x4_72 q
def f3_weigh_l8_B (N : Nat) (bk8 : Int32 → Int32 → Int32 → Int32 → SS → Option SS) (x1 : Int32) (x2 : Int32) (x3 : Int32) (x4 : Int32) (q : SS) : Option SS :=
  if (8 : Int32) ≤ x4 then (some q) else (ck (x3 + x4) 48 (bn (sa q 13 (ix (x3 + x4)) (0 : Int32)) fun q_24 => bd (f7_rowsOf q_24 x1) fun r_32 => if r_32 ≤ x4 then (f3_weigh_b72 N bk8 x1 x2 x3 x4 q_24) else (ck x1 6 (if ((jshr (ar q_24 12 (ix x1)) x4) &&& (1 : Int32)) = (1 : Int32) then (bd (f3_firstLike N q_24 x1 x4 x2) fun r_63 => ck (x3 + r_63) 48 (ck (x3 + r_63) 48 (bn (sa q_24 13 (ix (x3 + r_63)) ((ar q_24 13 (ix (x3 + r_63))) + (1 : Int32))) fun q_71 => f3_weigh_b72 N bk8 x1 x2 x3 x4 q_71))) else (f3_weigh_b72 N bk8 x1 x2 x3 x4 q_24)))))
def f3_weigh_l8 (N : Nat) : Nat → Int32 → Int32 → Int32 → Int32 → SS → Option SS
  | 0 => fun _ _ _ _ _ => none
  | n + 1 => f3_weigh_l8_B N (f3_weigh_l8 N n)
def f3_weigh (N : Nat) (x1 : Int32) (x2 : Int32) (q : SS) : Option SS :=
  bn (x1 * (8 : Int32)) fun x3_4 => f3_weigh_l8 N N x1 x2 x3_4 ((0 : Int32)) q
def f4_maskOf_b28 (N : Nat) (bk4 : Int32 → Int32 → Int32 → Option Int32) (x0 : Int32) (x1 : Int32) (x2 : Int32) : Option Int32 :=
  bn (x2 + (1 : Int32)) fun x2_28 => bk4 x0 x1 x2_28
def f4_maskOf_l4_B (N : Nat) (bk4 : Int32 → Int32 → Int32 → Option Int32) (x0 : Int32) (x1 : Int32) (x2 : Int32) : Option Int32 :=
  if (8 : Int32) ≤ x2 then (some x1) else (if ((jshr x0 x2) &&& (1 : Int32)) = (1 : Int32) then (bn (x1 ||| (jshl (15 : Int32) ((4 : Int32) * x2))) fun x1_27 => f4_maskOf_b28 N bk4 x0 x1_27 x2) else (f4_maskOf_b28 N bk4 x0 x1 x2))
def f4_maskOf_l4 (N : Nat) : Nat → Int32 → Int32 → Int32 → Option Int32
  | 0 => fun _ _ _ => none
  | n + 1 => f4_maskOf_l4_B N (f4_maskOf_l4 N n)
def f4_maskOf (N : Nat) (x0 : Int32) : Option Int32 :=
  f4_maskOf_l4 N N x0 ((0 : Int32)) ((0 : Int32))
def f7_lettersOf (q : SS) (x1 : Int32) : Option Int32 :=
  if x1 < 0 then (some (0 : Int32)) else (if (fi q 1) ≤ x1 then (some (0 : Int32)) else (ck x1 6 (some (ar q 7 (ix x1)))))
def f3_counted_b72 (N : Nat) (bk4 : Int32 → Int32 → Int32 → SS → Option (Int32 × SS)) (x1 : Int32) (x2 : Int32) (x3 : Int32) (q : SS) : Option (Int32 × SS) :=
  bn (x3 + (1 : Int32)) fun x3_72 => bk4 x1 x2 x3_72 q
def f3_counted_l4_B (N : Nat) (bk4 : Int32 → Int32 → Int32 → SS → Option (Int32 × SS)) (x1 : Int32) (x2 : Int32) (x3 : Int32) (q : SS) : Option (Int32 × SS) :=
  if (6 : Int32) ≤ x3 then (bd (f3_countFrom N q 8 x1 (0 : Int32) (0 : Int32)) fun r_82 => some (r_82, q)) else (if ((jshr x1 x3) &&& (1 : Int32)) = (1 : Int32) then (bd (f7_lettersOf q x3) fun r_24 => bd (f4_maskOf N (r_24 &&& x2)) fun r_38 => ck x3 6 (bn (sa q 14 (ix x3) r_38) fun q_41 => bn (x2 ||| r_24) fun x2_46 => bd (f7_lettersOfSet N q_41 (x1 &&& ((jshl (1 : Int32) x3) ^^^ (-1 : Int32)))) fun r_62 => bd (f4_maskOf N (r_24 &&& r_62)) fun r_66 => bd (f3_weigh N x3 r_66 q_41) fun q_69 => f3_counted_b72 N bk4 x1 x2_46 x3 q_69)) else (f3_counted_b72 N bk4 x1 x2 x3 q))
def f3_counted_l4 (N : Nat) : Nat → Int32 → Int32 → Int32 → SS → Option (Int32 × SS)
  | 0 => fun _ _ _ _ => none
  | n + 1 => f3_counted_l4_B N (f3_counted_l4 N n)
def f3_counted (N : Nat) (x1 : Int32) (q : SS) : Option (Int32 × SS) :=
  f3_counted_l4 N N x1 ((0 : Int32)) ((0 : Int32)) q
def f7_unlikeNumbers_l5_B (N : Nat) (q : SS) (bk5 : Int32 → Int32 → Int32 → Int32 → Option Int32) (x1 : Int32) (x2 : Int32) (x3 : Int32) (x4 : Int32) : Option Int32 :=
  bd (f7_rowsOf q x1) fun r_9 => if r_9 ≤ x4 then (bd (fJ6_bitCount x3) fun r_38 => some r_38) else (bd (f7_codeAt q x1 x4) fun r_21 => bd (f4_numberIn r_21 x2) fun r_25 => bn (x3 ||| (jshl (1 : Int32) r_25)) fun x3_30 => bn (x4 + (1 : Int32)) fun x4_31 => bk5 x1 x2 x3_30 x4_31)
def f7_unlikeNumbers_l5 (N : Nat) (q : SS) : Nat → Int32 → Int32 → Int32 → Int32 → Option Int32
  | 0 => fun _ _ _ _ => none
  | n + 1 => f7_unlikeNumbers_l5_B N q (f7_unlikeNumbers_l5 N q n)
def f7_unlikeNumbers (N : Nat) (q : SS) (x1 : Int32) (x2 : Int32) : Option Int32 :=
  f7_unlikeNumbers_l5 N q N x1 x2 ((0 : Int32)) ((0 : Int32))
def f3_unlikeButLeast_b75 (N : Nat) (q : SS) (bk8 : Int32 → Int32 → Int64 → Int32 → Int32 → Option Int64) (x1 : Int32) (x2 : Int32) (x3 : Int64) (x5 : Int32) (x6 : Int32) : Option Int64 :=
  bn (x6 + (1 : Int32)) fun x6_75 => bk8 x1 x2 x3 x5 x6_75
def f3_unlikeButLeast_b73 (N : Nat) (q : SS) (bk8 : Int32 → Int32 → Int64 → Int32 → Int32 → Option Int64) (x1 : Int32) (x2 : Int32) (x3 : Int64) (x6 : Int32) (s0 : Int32) : Option Int64 :=
  f3_unlikeButLeast_b75 N q bk8 x1 x2 x3 s0 x6
def f3_unlikeButLeast_l8_B (N : Nat) (q : SS) (bk8 : Int32 → Int32 → Int64 → Int32 → Int32 → Option Int64) (x1 : Int32) (x2 : Int32) (x3 : Int64) (x5 : Int32) (x6 : Int32) : Option Int64 :=
  if (6 : Int32) ≤ x6 then (if (1 : Int32) ≤ x5 then (dzl (Int32.toInt64 x5) (some (x3 / (Int32.toInt64 x5)))) else (some (1 : Int64))) else (if ((jshr x1 x6) &&& (1 : Int32)) = (1 : Int32) then (bd (f7_hasLetter q x6 x2) fun r_32 => if r_32 = 0 then (f3_unlikeButLeast_b75 N q bk8 x1 x2 x3 x5 x6) else (bd (f7_unlikeNumbers N q x6 x2) fun r_45 => bn (x3 * (Int32.toInt64 r_45)) fun x3_55 => if x5 = 0 then (f3_unlikeButLeast_b73 N q bk8 x1 x2 x3_55 x6 r_45) else (f3_unlikeButLeast_b73 N q bk8 x1 x2 x3_55 x6 (jmin x5 r_45)))) else (f3_unlikeButLeast_b75 N q bk8 x1 x2 x3 x5 x6))
def f3_unlikeButLeast_l8 (N : Nat) (q : SS) : Nat → Int32 → Int32 → Int64 → Int32 → Int32 → Option Int64
  | 0 => fun _ _ _ _ _ => none
  | n + 1 => f3_unlikeButLeast_l8_B N q (f3_unlikeButLeast_l8 N q n)
def f3_unlikeButLeast (N : Nat) (q : SS) (x1 : Int32) (x2 : Int32) : Option Int64 :=
  f3_unlikeButLeast_l8 N q N x1 x2 ((1 : Int64)) ((0 : Int32)) ((0 : Int32))
def f3_foretold_b85 (N : Nat) (q : SS) : Option Int32 :=
  some (0 : Int32)
def f3_foretold_l47_B (N : Nat) (q : SS) (bk47 : Int32 → Int64 → Int64 → Int32 → Option Int32) (x1 : Int32) (x2 : Int64) (x4 : Int64) (x6 : Int32) : Option Int32 :=
  if (8 : Int32) ≤ x6 then (if x2 < (1 : Int64) then (f3_foretold_b85 N q) else (if (1 : Int64) ≤ x4 then (dzl x4 (some (Int64.toInt32 (x2 / x4)))) else (f3_foretold_b85 N q))) else (bd (f3_unlikeButLeast N q x1 x6) fun r_60 => bn (x4 * r_60) fun x4_64 => bn (x6 + (1 : Int32)) fun x6_66 => bk47 x1 x2 x4_64 x6_66)
def f3_foretold_l47 (N : Nat) (q : SS) : Nat → Int32 → Int64 → Int64 → Int32 → Option Int32
  | 0 => fun _ _ _ _ => none
  | n + 1 => f3_foretold_l47_B N q (f3_foretold_l47 N q n)
def f3_foretold_b35 (N : Nat) (q : SS) (bk5 : Int32 → Int64 → Int32 → Option Int32) (x1 : Int32) (x2 : Int64) (x4 : Int32) : Option Int32 :=
  bn (x4 + (1 : Int32)) fun x4_35 => bk5 x1 x2 x4_35
def f3_foretold_l5_B (N : Nat) (q : SS) (bk5 : Int32 → Int64 → Int32 → Option Int32) (x1 : Int32) (x2 : Int64) (x4 : Int32) : Option Int32 :=
  if (6 : Int32) ≤ x4 then (f3_foretold_l47 N q N x1 x2 ((1 : Int64)) ((0 : Int32))) else (if ((jshr x1 x4) &&& (1 : Int32)) = (1 : Int32) then (bd (f7_rowsOf q x4) fun r_29 => bn (x2 * (Int32.toInt64 r_29)) fun x2_34 => f3_foretold_b35 N q bk5 x1 x2_34 x4) else (f3_foretold_b35 N q bk5 x1 x2 x4))
def f3_foretold_l5 (N : Nat) (q : SS) : Nat → Int32 → Int64 → Int32 → Option Int32
  | 0 => fun _ _ _ => none
  | n + 1 => f3_foretold_l5_B N q (f3_foretold_l5 N q n)
def f3_foretold (N : Nat) (q : SS) (x1 : Int32) : Option Int32 :=
  f3_foretold_l5 N q N x1 ((1 : Int64)) ((0 : Int32))
def f3_sizeOf (N : Nat) (x1 : Int32) (x2 : Int32) (q : SS) : Option (Int32 × SS) :=
  if x2 = (1 : Int32) then (bd (f3_foretold N q x1) fun r_7 => some (r_7, q)) else (bd (f3_allowAllRows N q) fun q_12 => bd2 (f3_counted N x1 q_12) fun r_17 q_17 => some (r_17, q_17))
def f7_perOf (q : SS) (x1 : Int32) : Option Int32 :=
  if x1 < 0 then (some (0 : Int32)) else (if (fi q 1) ≤ x1 then (some (0 : Int32)) else (ck x1 6 (some (ar q 8 (ix x1)))))
def f7_pagesOfTable (q : SS) (x1 : Int32) : Option Int32 :=
  bd (f7_rowsOf q x1) fun r_2 => bd (f7_perOf q x1) fun r_7 => bd (f5_roundedUp r_2 r_7) fun r_10 => some r_10
def f7_wide (q : SS) : Option Int32 :=
  some (fi q 2)
def f3_pagesOf (N : Nat) (x1 : Int32) (x2 : Int32) (q : SS) : Option (Int32 × SS) :=
  bd (fJ6_bitCount x1) fun r_1 => if r_1 = (1 : Int32) then (bd (fJ6_numberOfTrailingZeros x1) fun r_13 => bd (f7_pagesOfTable q r_13) fun r_16 => some (r_16, q)) else (bd2 (f3_sizeOf N x1 x2 q) fun r_23 q_23 => bd (f7_wide q_23) fun r_30 => bd (f5_roundedUp r_23 r_30) fun r_33 => some (r_33, q_23))
def f5_sorting_b39 (N : Nat) (x0 : Int32) (x3 : Int32) : Option Int32 :=
  some (((2 : Int32) * x0) * x3)
def f5_sorting_l14_B (N : Nat) (bk14 : Int32 → Int32 → Int32 → Int32 → Option Int32) (x0 : Int32) (x1 : Int32) (x2 : Int32) (x3 : Int32) : Option Int32 :=
  if x2 ≤ (1 : Int32) then (f5_sorting_b39 N x0 x3) else (if (32 : Int32) ≤ x3 then (f5_sorting_b39 N x0 x3) else (bd (f5_roundedUp x2 (x1 - (1 : Int32))) fun r_29 => bn (x3 + (1 : Int32)) fun x3_33 => bk14 x0 x1 r_29 x3_33))
def f5_sorting_l14 (N : Nat) : Nat → Int32 → Int32 → Int32 → Int32 → Option Int32
  | 0 => fun _ _ _ _ => none
  | n + 1 => f5_sorting_l14_B N (f5_sorting_l14 N n)
def f5_sorting (N : Nat) (x0 : Int32) (x1 : Int32) : Option Int32 :=
  if 0 < x0 then (bd (f5_roundedUp x0 x1) fun r_8 => f5_sorting_l14 N N x0 x1 r_8 ((1 : Int32))) else (some (0 : Int32))
def f0_choose_b97 (N : Nat) (bk3 : Int32 → Int32 → Int32 → Int32 → SS → Option SS) (x1 : Int32) (x2 : Int32) (x3 : Int32) (x4 : Int32) (q : SS) : Option SS :=
  bn (x4 + (1 : Int32)) fun x4_97 => bk3 x1 x2 x3 x4_97 q
def f0_choose_l3_B (N : Nat) (bk3 : Int32 → Int32 → Int32 → Int32 → SS → Option SS) (x1 : Int32) (x2 : Int32) (x3 : Int32) (x4 : Int32) (q : SS) : Option SS :=
  if (64 : Int32) ≤ x4 then (some q) else (if x1 < x4 then (some q) else (if (x4 &&& (x1 ^^^ (-1 : Int32))) = 0 then (bd2 (f3_pagesOf N x4 x3 q) fun r_38 q_38 => ck x4 64 (bn (sa q_38 24 (ix x4) r_38) fun q_41 => ck x4 64 (bd (f7_memory q_41) fun r_59 => bd (f5_sorting N (ar q_41 24 (ix x4)) r_59) fun r_62 => ck x4 64 (bn (sa q_41 25 (ix x4) r_62) fun q_65 => bd (f0_forget N x4 q_65) fun q_69 => bd (fJ6_bitCount x4) fun r_74 => if r_74 = (1 : Int32) then (bd (f0_takeTable N x4 q_69) fun q_84 => f0_choose_b97 N bk3 x1 x2 x3 x4 q_84) else (bd (f0_takeSteps N x4 x2 q_69) fun q_94 => f0_choose_b97 N bk3 x1 x2 x3 x4 q_94))))) else (f0_choose_b97 N bk3 x1 x2 x3 x4 q)))
def f0_choose_l3 (N : Nat) : Nat → Int32 → Int32 → Int32 → Int32 → SS → Option SS
  | 0 => fun _ _ _ _ _ => none
  | n + 1 => f0_choose_l3_B N (f0_choose_l3 N n)
def f0_choose (N : Nat) (x1 : Int32) (x2 : Int32) (x3 : Int32) (q : SS) : Option SS :=
  f0_choose_l3 N N x1 x2 x3 ((1 : Int32)) q
def f0_codeOf (x0 : Int32) : Option Int32 :=
  if x0 = (1 : Int32) then (some (40 : Int32)) else (if x0 = (8 : Int32) then (some (108 : Int32)) else (if x0 = (9 : Int32) then (some (112 : Int32)) else (if x0 = (10 : Int32) then (some (115 : Int32)) else (some (((48 : Int32) + x0) - (2 : Int32))))))
def f0_put (x1 : Int32) (q : SS) : Option SS :=
  if (fi q 14) < 0 then (some q) else (if (21 : Int32) ≤ (fi q 14) then (some q) else (ck (fi q 14) 21 (bn (sa q 26 (ix (fi q 14)) x1) fun q_25 => bn (sf q_25 14 ((fi q_25 14) + (1 : Int32))) fun q_33 => some q_33)))
def f0_write_b118 (N : Nat) (bk26 : Int64 → Int32 → Int32 → Int32 → SS → Option (Int32 × SS)) (x3 : Int64) (x5 : Int32) (x6 : Int32) (x7 : Int32) (q : SS) : Option (Int32 × SS) :=
  bn (x7 + (-1 : Int32)) fun x7_118 => bk26 x3 x5 x6 x7_118 q
def f0_write_l87_B (N : Nat) (bk26 : Int64 → Int32 → Int32 → Int32 → SS → Option (Int32 × SS)) (bk87 : Int64 → Int32 → Int32 → Int32 → SS → Option (Int32 × SS)) (x3 : Int64) (x5 : Int32) (x6 : Int32) (x7 : Int32) (q : SS) : Option (Int32 × SS) :=
  if x5 ≤ 0 then (f0_write_b118 N bk26 x3 x5 x6 x7 q) else (if (x6 &&& (1 : Int32)) = (1 : Int32) then (bd (f0_put (41 : Int32) q) fun q_103 => bn (x5 + (-1 : Int32)) fun x5_106 => bn (jshr x6 (1 : Int32)) fun x6_113 => bk87 x3 x5_106 x6_113 x7 q_103) else (f0_write_b118 N bk26 x3 x5 x6 x7 q))
def f0_write_l87 (N : Nat) (bk26 : Int64 → Int32 → Int32 → Int32 → SS → Option (Int32 × SS)) : Nat → Int64 → Int32 → Int32 → Int32 → SS → Option (Int32 × SS)
  | 0 => fun _ _ _ _ _ => none
  | n + 1 => f0_write_l87_B N bk26 (f0_write_l87 N bk26 n)
def f0_write_l26_B (N : Nat) (bk26 : Int64 → Int32 → Int32 → Int32 → SS → Option (Int32 × SS)) (x3 : Int64) (x5 : Int32) (x6 : Int32) (x7 : Int32) (q : SS) : Option (Int32 × SS) :=
  if x7 < 0 then (some (fi q 14, q)) else (bn (Int64.toInt32 ((jlushr x3 ((4 : Int32) * x7)) &&& (15 : Int64))) fun x8_42 => bd (f0_codeOf x8_42) fun r_47 => bd (f0_put r_47 q) fun q_50 => if x8_42 = (1 : Int32) then (bn (x5 + (1 : Int32)) fun x5_59 => bn (jshl x6 (1 : Int32)) fun x6_66 => f0_write_b118 N bk26 x3 x5_59 x6_66 x7 q_50) else (if x8_42 < (8 : Int32) then (f0_write_l87 N bk26 N x3 x5 x6 x7 q_50) else (bn (x6 ||| (1 : Int32)) fun x6_82 => f0_write_b118 N bk26 x3 x5 x6_82 x7 q_50)))
def f0_write_l26 (N : Nat) : Nat → Int64 → Int32 → Int32 → Int32 → SS → Option (Int32 × SS)
  | 0 => fun _ _ _ _ _ => none
  | n + 1 => f0_write_l26_B N (f0_write_l26 N n)
def f0_write (N : Nat) (x1 : Int32) (x2 : Int32) (q : SS) : Option (Int32 × SS) :=
  bd (f0_keyFor q x1 x2) fun r_3 => bn (sf q 14 (0 : Int32)) fun q_15 => bd (f0_keySigns x1) fun r_19 => bn (r_19 - (1 : Int32)) fun x7_24 => f0_write_l26 N N r_3 ((0 : Int32)) ((0 : Int32)) x7_24 q_15
def f0_signs (q : SS) : Option Unit :=
  some ()
def f0_signAt (q : SS) (x1 : Int32) : Option Int32 :=
  if x1 < 0 then (some (-1 : Int32)) else (if (fi q 14) ≤ x1 then (some (-1 : Int32)) else (ck x1 21 (some (ar q 26 (ix x1)))))
def fJ7_fill_v28_l5_B (N : Nat) (bk5 : Int32 → Int32 → Int32 → SS → Option SS) (x1 : Int32) (x2 : Int32) (x3 : Int32) (q : SS) : Option SS :=
  if x3 ≤ x2 then (some q) else (ck x2 6 (bn (sa q 28 (ix x2) x1) fun q_13 => bn (x2 + (1 : Int32)) fun x2_14 => bk5 x1 x2_14 x3 q_13))
def fJ7_fill_v28_l5 (N : Nat) : Nat → Int32 → Int32 → Int32 → SS → Option SS
  | 0 => fun _ _ _ _ => none
  | n + 1 => fJ7_fill_v28_l5_B N (fJ7_fill_v28_l5 N n)
def fJ7_fill_v28 (N : Nat) (x1 : Int32) (q : SS) : Option SS :=
  fJ7_fill_v28_l5 N N x1 ((0 : Int32)) ((6 : Int32)) q
def f1_hookAmong_b67 (N : Nat) (q : SS) (bk30 : Int32 → Int32 → Int32 → Option Int32) (x3 : Int32) (x4 : Int32) (x5 : Int32) : Option Int32 :=
  bn (x5 + (1 : Int32)) fun x5_67 => bk30 x3 x4 x5_67
def f1_hookAmong_l30_B (N : Nat) (q : SS) (bk30 : Int32 → Int32 → Int32 → Option Int32) (x3 : Int32) (x4 : Int32) (x5 : Int32) : Option Int32 :=
  if (6 : Int32) ≤ x5 then (some (-1 : Int32)) else (if ((jshr x3 x5) &&& (1 : Int32)) = (1 : Int32) then (bd (f7_lettersOf q x5) fun r_55 => if (x4 &&& (r_55 ^^^ (-1 : Int32))) = 0 then (some x5) else (f1_hookAmong_b67 N q bk30 x3 x4 x5)) else (f1_hookAmong_b67 N q bk30 x3 x4 x5))
def f1_hookAmong_l30 (N : Nat) (q : SS) : Nat → Int32 → Int32 → Int32 → Option Int32
  | 0 => fun _ _ _ => none
  | n + 1 => f1_hookAmong_l30_B N q (f1_hookAmong_l30 N q n)
def f1_hookAmong (N : Nat) (q : SS) (x1 : Int32) (x2 : Int32) : Option Int32 :=
  bn (x1 &&& ((jshl (1 : Int32) x2) ^^^ (-1 : Int32))) fun x3_7 => bd (f7_lettersOf q x2) fun r_13 => bd (f7_lettersOfSet N q x3_7) fun r_21 => bn (r_13 &&& r_21) fun x4_25 => f1_hookAmong_l30 N q N x3_7 x4_25 ((0 : Int32))
def f1_nextToGo_b46 (N : Nat) (q : SS) (bk2 : Int32 → Int32 → Option Int32) (x1 : Int32) (x2 : Int32) : Option Int32 :=
  bn (x2 + (1 : Int32)) fun x2_46 => bk2 x1 x2_46
def f1_nextToGo_b22 (N : Nat) (q : SS) (bk2 : Int32 → Int32 → Option Int32) (x1 : Int32) (x2 : Int32) (s0 : Int32) : Option Int32 :=
  if s0 = 0 then (f1_nextToGo_b46 N q bk2 x1 x2) else (if x1 = (jshl (1 : Int32) x2) then (some x2) else (bd (f1_hookAmong N q x1 x2) fun r_37 => if r_37 = (-1 : Int32) then (f1_nextToGo_b46 N q bk2 x1 x2) else (some x2)))
def f1_nextToGo_l2_B (N : Nat) (q : SS) (bk2 : Int32 → Int32 → Option Int32) (x1 : Int32) (x2 : Int32) : Option Int32 :=
  if (6 : Int32) ≤ x2 then (some (-1 : Int32)) else (if ((jshr x1 x2) &&& (1 : Int32)) = (1 : Int32) then (f1_nextToGo_b22 N q bk2 x1 x2 ((1 : Int32))) else (f1_nextToGo_b22 N q bk2 x1 x2 ((0 : Int32))))
def f1_nextToGo_l2 (N : Nat) (q : SS) : Nat → Int32 → Int32 → Option Int32
  | 0 => fun _ _ => none
  | n + 1 => f1_nextToGo_l2_B N q (f1_nextToGo_l2 N q n)
def f1_nextToGo (N : Nat) (q : SS) (x1 : Int32) : Option Int32 :=
  f1_nextToGo_l2 N q N x1 ((0 : Int32))
def f1_takeAway_b86 (N : Nat) (x2 : Int32) (q : SS) : Option (Int32 × SS) :=
  if x2 = 0 then (some ((1 : Int32), q)) else (some ((0 : Int32), q))
def f1_takeAway_l17_B (N : Nat) (bk17 : Int32 → Int32 → SS → Option (Int32 × SS)) (x2 : Int32) (x3 : Int32) (q : SS) : Option (Int32 × SS) :=
  if (6 : Int32) ≤ x3 then (f1_takeAway_b86 N x2 q) else (if x2 = 0 then (f1_takeAway_b86 N x2 q) else (bd (f1_nextToGo N q x2) fun r_29 => if r_29 = (-1 : Int32) then (some ((0 : Int32), q)) else (ck x3 6 (bn (sa q 27 (ix x3) r_29) fun q_49 => bd (f1_hookAmong N q_49 x2 r_29) fun r_60 => ck r_29 6 (bn (sa q_49 28 (ix r_29) r_60) fun q_63 => bn (sf q_63 15 (x3 + (1 : Int32))) fun q_68 => bn (x2 &&& ((jshl (1 : Int32) r_29) ^^^ (-1 : Int32))) fun x2_79 => bn (x3 + (1 : Int32)) fun x3_80 => bk17 x2_79 x3_80 q_68)))))
def f1_takeAway_l17 (N : Nat) : Nat → Int32 → Int32 → SS → Option (Int32 × SS)
  | 0 => fun _ _ _ => none
  | n + 1 => f1_takeAway_l17_B N (f1_takeAway_l17 N n)
def f1_takeAway (N : Nat) (x1 : Int32) (q : SS) : Option (Int32 × SS) :=
  bn (sf q 15 (0 : Int32)) fun q_2 => bd (fJ7_fill_v28 N (-1 : Int32) q_2) fun q_10 => f1_takeAway_l17 N N x1 ((0 : Int32)) q_10
def f1_goneAt (q : SS) (x1 : Int32) : Option Int32 :=
  if x1 < 0 then (some (-1 : Int32)) else (if (fi q 15) ≤ x1 then (some (-1 : Int32)) else (ck x1 6 (some (ar q 27 (ix x1)))))
def f1_hookOf (q : SS) (x1 : Int32) : Option Int32 :=
  if x1 < 0 then (some (-1 : Int32)) else (if (6 : Int32) ≤ x1 then (some (-1 : Int32)) else (ck x1 6 (some (ar q 28 (ix x1)))))
def f1_fitsSome_b56 (N : Nat) (q : SS) (bk3 : Int32 → Int32 → Int32 → Int32 → Option Int32) (x1 : Int32) (x2 : Int32) (x3 : Int32) (x4 : Int32) : Option Int32 :=
  bn (x4 + (1 : Int32)) fun x4_56 => bk3 x1 x2 x3 x4_56
def f1_fitsSome_b30 (N : Nat) (q : SS) (bk3 : Int32 → Int32 → Int32 → Int32 → Option Int32) (x1 : Int32) (x2 : Int32) (x3 : Int32) (x4 : Int32) (s0 : Int32) : Option Int32 :=
  if s0 = 0 then (f1_fitsSome_b56 N q bk3 x1 x2 x3 x4) else (bd (f7_codeAt q x2 x4) fun r_45 => if ((x1 ^^^ r_45) &&& x3) = 0 then (some (1 : Int32)) else (f1_fitsSome_b56 N q bk3 x1 x2 x3 x4))
def f1_fitsSome_l3_B (N : Nat) (q : SS) (bk3 : Int32 → Int32 → Int32 → Int32 → Option Int32) (x1 : Int32) (x2 : Int32) (x3 : Int32) (x4 : Int32) : Option Int32 :=
  if (8 : Int32) ≤ x4 then (some (0 : Int32)) else (ck x2 6 (if ((jshr (ar q 29 (ix x2)) x4) &&& (1 : Int32)) = (1 : Int32) then (f1_fitsSome_b30 N q bk3 x1 x2 x3 x4 ((1 : Int32))) else (f1_fitsSome_b30 N q bk3 x1 x2 x3 x4 ((0 : Int32)))))
def f1_fitsSome_l3 (N : Nat) (q : SS) : Nat → Int32 → Int32 → Int32 → Int32 → Option Int32
  | 0 => fun _ _ _ _ => none
  | n + 1 => f1_fitsSome_l3_B N q (f1_fitsSome_l3 N q n)
def f1_fitsSome (N : Nat) (q : SS) (x1 : Int32) (x2 : Int32) (x3 : Int32) : Option Int32 :=
  f1_fitsSome_l3 N q N x1 x2 x3 ((0 : Int32))
def f7_holds (q : SS) (x1 : Int32) : Option Int32 :=
  if x1 < 0 then (some (0 : Int32)) else (if (fi q 1) ≤ x1 then (some (0 : Int32)) else (some (1 : Int32)))
def f1_cut_b125 (N : Nat) (bk47 : Int32 → Int32 → Int32 → Int32 → SS → Option SS) (x1 : Int32) (x2 : Int32) (x3 : Int32) (x4 : Int32) (q : SS) : Option SS :=
  bn (x4 + (1 : Int32)) fun x4_125 => bk47 x1 x2 x3 x4_125 q
def f1_cut_b74 (N : Nat) (bk47 : Int32 → Int32 → Int32 → Int32 → SS → Option SS) (x1 : Int32) (x2 : Int32) (x3 : Int32) (x4 : Int32) (s0 : Int32) (q : SS) : Option SS :=
  if s0 = 0 then (f1_cut_b125 N bk47 x1 x2 x3 x4 q) else (bd (f7_codeAt q x1 x4) fun r_89 => bd (f1_fitsSome N q r_89 x2 x3) fun r_94 => if r_94 = 0 then (ck x1 6 (ck x1 6 (bn (sa q 29 (ix x1) ((ar q 29 (ix x1)) &&& ((jshl (1 : Int32) x4) ^^^ (-1 : Int32)))) fun q_114 => bn (sf q_114 16 ((fi q_114 16) + (1 : Int32))) fun q_122 => f1_cut_b125 N bk47 x1 x2 x3 x4 q_122))) else (f1_cut_b125 N bk47 x1 x2 x3 x4 q))
def f1_cut_l47_B (N : Nat) (bk47 : Int32 → Int32 → Int32 → Int32 → SS → Option SS) (x1 : Int32) (x2 : Int32) (x3 : Int32) (x4 : Int32) (q : SS) : Option SS :=
  if (8 : Int32) ≤ x4 then (some q) else (ck x1 6 (if ((jshr (ar q 29 (ix x1)) x4) &&& (1 : Int32)) = (1 : Int32) then (f1_cut_b74 N bk47 x1 x2 x3 x4 ((1 : Int32)) q) else (f1_cut_b74 N bk47 x1 x2 x3 x4 ((0 : Int32)) q)))
def f1_cut_l47 (N : Nat) : Nat → Int32 → Int32 → Int32 → Int32 → SS → Option SS
  | 0 => fun _ _ _ _ _ => none
  | n + 1 => f1_cut_l47_B N (f1_cut_l47 N n)
def f1_cut (N : Nat) (x1 : Int32) (x2 : Int32) (q : SS) : Option SS :=
  bd (f7_holds q x1) fun r_5 => if r_5 = 0 then (some q) else (bd (f7_holds q x2) fun r_16 => if r_16 = 0 then (some q) else (bd (f7_lettersOf q x1) fun r_28 => bd (f7_lettersOf q x2) fun r_36 => bd (f4_maskOf N (r_28 &&& r_36)) fun r_40 => f1_cut_l47 N N x1 x2 r_40 ((0 : Int32)) q))
def f1_fullCut_l90_B (N : Nat) (bk90 : Int32 → SS → Option (Int32 × SS)) (x2 : Int32) (q : SS) : Option (Int32 × SS) :=
  if x2 < 0 then (some ((1 : Int32), q)) else (ck x2 6 (ck x2 6 (bd (f1_hookOf q (ar q 27 (ix x2))) fun r_108 => bd (f1_cut N (ar q 27 (ix x2)) r_108 q) fun q_111 => bn (x2 + (-1 : Int32)) fun x2_114 => bk90 x2_114 q_111)))
def f1_fullCut_l90 (N : Nat) : Nat → Int32 → SS → Option (Int32 × SS)
  | 0 => fun _ _ => none
  | n + 1 => f1_fullCut_l90_B N (f1_fullCut_l90 N n)
def f1_fullCut_l49_B (N : Nat) (bk49 : Int32 → SS → Option (Int32 × SS)) (x2 : Int32) (q : SS) : Option (Int32 × SS) :=
  if (fi q 15) ≤ x2 then (bn ((fi q 15) - (1 : Int32)) fun x2_89 => f1_fullCut_l90 N N x2_89 q) else (ck x2 6 (bd (f1_hookOf q (ar q 27 (ix x2))) fun r_65 => ck x2 6 (bd (f1_cut N r_65 (ar q 27 (ix x2)) q) fun q_74 => bn (x2 + (1 : Int32)) fun x2_77 => bk49 x2_77 q_74)))
def f1_fullCut_l49 (N : Nat) : Nat → Int32 → SS → Option (Int32 × SS)
  | 0 => fun _ _ => none
  | n + 1 => f1_fullCut_l49_B N (f1_fullCut_l49 N n)
def f1_fullCut_l17_B (N : Nat) (bk17 : Int32 → SS → Option (Int32 × SS)) (x2 : Int32) (q : SS) : Option (Int32 × SS) :=
  if (6 : Int32) ≤ x2 then (f1_fullCut_l49 N N ((0 : Int32)) q) else (bd (f7_rowsOf q x2) fun r_34 => ck x2 6 (bn (sa q 29 (ix x2) ((jshl (1 : Int32) r_34) - (1 : Int32))) fun q_40 => bn (x2 + (1 : Int32)) fun x2_41 => bk17 x2_41 q_40))
def f1_fullCut_l17 (N : Nat) : Nat → Int32 → SS → Option (Int32 × SS)
  | 0 => fun _ _ => none
  | n + 1 => f1_fullCut_l17_B N (f1_fullCut_l17 N n)
def f1_fullCut (N : Nat) (x1 : Int32) (q : SS) : Option (Int32 × SS) :=
  bd2 (f1_takeAway N x1 q) fun r_2 q_2 => if r_2 = 0 then (some ((0 : Int32), q_2)) else (bn (sf q_2 16 (0 : Int32)) fun q_12 => f1_fullCut_l17 N N ((0 : Int32)) q_12)
def f1_rowsLeft (q : SS) (x1 : Int32) : Option Int32 :=
  if x1 < 0 then (some (0 : Int32)) else (if (6 : Int32) ≤ x1 then (some (0 : Int32)) else (ck x1 6 (some (ar q 29 (ix x1)))))
def f1_rowsCut (q : SS) : Option Int32 :=
  some (fi q 16)
def f2_holdTable (N : Nat) (x1 : Int32) (q : SS) : Option SS :=
  if (fi q 10) < 0 then (some q) else (if (fi q 10) < (6 : Int32) then (ck (fi q 10) 6 (bn (sa q 17 (ix (fi q 10)) (jshl (1 : Int32) x1)) fun q_28 => bd (f7_pagesOfTable q_28 x1) fun r_42 => ck (fi q_28 10) 6 (bn (sa q_28 18 (ix (fi q_28 10)) r_42) fun q_45 => bd (f7_sortedLetter N q_45 x1) fun r_59 => ck (fi q_45 10) 6 (bn (sa q_45 19 (ix (fi q_45 10)) r_59) fun q_62 => bn (sf q_62 10 ((fi q_62 10) + (1 : Int32))) fun q_70 => some q_70)))) else (some q))
def f2_holdWay (x1 : Int32) (q : SS) : Option SS :=
  if (fi q 11) < 0 then (some q) else (if (fi q 11) < (6 : Int32) then (ck (fi q 11) 6 (bn (sa q 21 (ix (fi q 11)) x1) fun q_26 => bn (sf q_26 11 ((fi q_26 11) + (1 : Int32))) fun q_34 => some q_34)) else (some q))
def f2_sortingUnless (N : Nat) (q : SS) (x1 : Int32) (x2 : Int32) : Option Int32 :=
  if x1 < 0 then (some (0 : Int32)) else (if (6 : Int32) ≤ x1 then (some (0 : Int32)) else (ck x1 6 (if (ar q 19 (ix x1)) = x2 then (some (0 : Int32)) else (ck x1 6 (bd (f7_memory q) fun r_32 => bd (f5_sorting N (ar q 20 (ix x1)) r_32) fun r_35 => some r_35)))))
def f2_joinLastTwo_b260 (N : Nat) (x1 : Int32) (x2 : Int32) (q : SS) : Option SS :=
  ck x1 6 (ck x2 6 (ck x1 6 (bn (sa q 17 (ix x1) ((ar q 17 (ix x1)) ||| (ar q 17 (ix x2)))) fun q_274 => bn (sf q_274 12 ((fi q_274 12) + (1 : Int32))) fun q_282 => some q_282)))
def f2_joinLastTwo (N : Nat) (q : SS) : Option SS :=
  if (fi q 10) < (2 : Int32) then (some q) else (if (6 : Int32) < (fi q 10) then (some q) else (if (fi q 11) < (1 : Int32) then (some q) else (if (fi q 11) ≤ (6 : Int32) then (bn (sf q 11 ((fi q 11) - (1 : Int32))) fun q_42 => bn (sf q_42 10 ((fi q_42 10) - (1 : Int32))) fun q_52 => bn ((fi q_52 10) - (1 : Int32)) fun x1_61 => bn (fi q_52 10) fun x2_66 => ck x1_61 6 (bd (f7_lettersOfSet N q_52 (ar q_52 17 (ix x1_61))) fun r_77 => ck x2_66 6 (bd (f7_lettersOfSet N q_52 (ar q_52 17 (ix x2_66))) fun r_90 => bn (r_77 &&& r_90) fun x3_94 => ck (fi q_52 11) 6 (bn (ar q_52 21 (ix (fi q_52 11))) fun x4_104 => ck x1_61 6 (ck x2_66 6 (ck x1_61 6 (bn (sa q_52 18 (ix x1_61) ((ar q_52 18 (ix x1_61)) + (ar q_52 18 (ix x2_66)))) fun q_120 => if x4_104 = (108 : Int32) then (ck x1_61 6 (ck x1_61 6 (ck x2_66 6 (bd (f7_memory q_120) fun r_151 => bd (f5_loops (ar q_120 20 (ix x1_61)) (ar q_120 20 (ix x2_66)) r_151) fun r_154 => ck x1_61 6 (bn (sa q_120 18 (ix x1_61) ((ar q_120 18 (ix x1_61)) + r_154)) fun q_158 => f2_joinLastTwo_b260 N x1_61 x2_66 q_158))))) else (if x3_94 = 0 then (bn (sf q_120 13 (0 : Int32)) fun q_168 => f2_joinLastTwo_b260 N x1_61 x2_66 q_168) else (if x4_104 = (112 : Int32) then (ck x1_61 6 (ck x1_61 6 (ck x2_66 6 (bd (f7_memory q_120) fun r_204 => bd (f5_parts (ar q_120 20 (ix x1_61)) (ar q_120 20 (ix x2_66)) r_204) fun r_207 => ck x1_61 6 (bn (sa q_120 18 (ix x1_61) ((ar q_120 18 (ix x1_61)) + r_207)) fun q_211 => ck x1_61 6 (bn (sa q_211 19 (ix x1_61) (-1 : Int32)) fun q_218 => f2_joinLastTwo_b260 N x1_61 x2_66 q_218)))))) else (bd (fJ6_numberOfTrailingZeros x3_94) fun r_223 => ck x1_61 6 (bd (f2_sortingUnless N q_120 x1_61 r_223) fun r_239 => bd (f2_sortingUnless N q_120 x2_66 r_223) fun r_246 => ck x1_61 6 (bn (sa q_120 18 (ix x1_61) ((ar q_120 18 (ix x1_61)) + (r_239 + r_246))) fun q_251 => ck x1_61 6 (bn (sa q_251 19 (ix x1_61) r_223) fun q_259 => f2_joinLastTwo_b260 N x1_61 x2_66 q_259))))))))))))) else (some q))))
def f2_read_v16_b175 (N : Nat) (bk23 : Int32 → Int32 → Int32 → SS → Option SS) (x2 : Int32) (x3 : Int32) (x4 : Int32) (q : SS) : Option SS :=
  bn (x4 + (1 : Int32)) fun x4_175 => bk23 x2 x3 x4_175 q
def f2_read_v16_b129 (N : Nat) (bk23 : Int32 → Int32 → Int32 → SS → Option SS) (x2 : Int32) (x3 : Int32) (x4 : Int32) (q : SS) : Option SS :=
  if (fi q 10) ≤ 0 then (f2_read_v16_b175 N bk23 x2 x3 x4 q) else (if (6 : Int32) < (fi q 10) then (f2_read_v16_b175 N bk23 x2 x3 x4 q) else (ck ((fi q 10) - (1 : Int32)) 6 (bd2 (f3_pagesOf N (ar q 17 (ix ((fi q 10) - (1 : Int32)))) x3 q) fun r_171 q_171 => ck ((fi q 10) - (1 : Int32)) 6 (bn (sa q_171 20 (ix ((fi q 10) - (1 : Int32))) r_171) fun q_174 => f2_read_v16_b175 N bk23 x2 x3 x4 q_174))))
def f2_read_v16_b119 (N : Nat) (bk23 : Int32 → Int32 → Int32 → SS → Option SS) (x2 : Int32) (x3 : Int32) (x4 : Int32) (x6 : Int32) (x7 : Int32) (q : SS) : Option SS :=
  if x6 = 0 then (if x7 = 0 then (f2_read_v16_b175 N bk23 x2 x3 x4 q) else (f2_read_v16_b129 N bk23 x2 x3 x4 q)) else (f2_read_v16_b129 N bk23 x2 x3 x4 q)
def f2_read_v16_b75 (N : Nat) (bk23 : Int32 → Int32 → Int32 → SS → Option SS) (x2 : Int32) (x3 : Int32) (x4 : Int32) (x5 : Int32) (x6 : Int32) (s0 : Int32) (q : SS) : Option SS :=
  if x6 = 0 then (if s0 = 0 then (if x5 = (40 : Int32) then (f2_read_v16_b119 N bk23 x2 x3 x4 x6 s0 q) else (bd (f2_holdWay x5 q) fun q_116 => f2_read_v16_b119 N bk23 x2 x3 x4 x6 s0 q_116)) else (bd (f2_joinLastTwo N q) fun q_100 => f2_read_v16_b119 N bk23 x2 x3 x4 x6 s0 q_100)) else (bd (f2_holdTable N (x5 - (48 : Int32)) q) fun q_88 => f2_read_v16_b119 N bk23 x2 x3 x4 x6 s0 q_88)
def f2_read_v16_b61 (N : Nat) (bk23 : Int32 → Int32 → Int32 → SS → Option SS) (x2 : Int32) (x3 : Int32) (x4 : Int32) (x5 : Int32) (s0 : Int32) (q : SS) : Option SS :=
  if x5 = (41 : Int32) then (f2_read_v16_b75 N bk23 x2 x3 x4 x5 s0 ((1 : Int32)) q) else (f2_read_v16_b75 N bk23 x2 x3 x4 x5 s0 ((0 : Int32)) q)
def f2_read_v16_b60 (N : Nat) (bk23 : Int32 → Int32 → Int32 → SS → Option SS) (x2 : Int32) (x3 : Int32) (x4 : Int32) (x5 : Int32) (q : SS) : Option SS :=
  f2_read_v16_b61 N bk23 x2 x3 x4 x5 ((0 : Int32)) q
def f2_read_v16_l23_B (N : Nat) (bk23 : Int32 → Int32 → Int32 → SS → Option SS) (x2 : Int32) (x3 : Int32) (x4 : Int32) (q : SS) : Option SS :=
  if x2 ≤ x4 then (some q) else (if (40 : Int32) ≤ x4 then (some q) else (ck x4 40 (bn (ar q 16 (ix x4)) fun x5_40 => if x5_40 < (48 : Int32) then (f2_read_v16_b60 N bk23 x2 x3 x4 x5_40 q) else (if (54 : Int32) ≤ x5_40 then (f2_read_v16_b60 N bk23 x2 x3 x4 x5_40 q) else (f2_read_v16_b61 N bk23 x2 x3 x4 x5_40 ((1 : Int32)) q)))))
def f2_read_v16_l23 (N : Nat) : Nat → Int32 → Int32 → Int32 → SS → Option SS
  | 0 => fun _ _ _ _ => none
  | n + 1 => f2_read_v16_l23_B N (f2_read_v16_l23 N n)
def f2_read_v16 (N : Nat) (x2 : Int32) (x3 : Int32) (q : SS) : Option SS :=
  bn (sf q 10 (0 : Int32)) fun q_2 => bn (sf q_2 11 (0 : Int32)) fun q_7 => bn (sf q_7 12 (0 : Int32)) fun q_12 => bn (sf q_12 13 (1 : Int32)) fun q_17 => f2_read_v16_l23 N N x2 x3 ((0 : Int32)) q_17
def f2_read_v26_b175 (N : Nat) (bk23 : Int32 → Int32 → Int32 → SS → Option SS) (x2 : Int32) (x3 : Int32) (x4 : Int32) (q : SS) : Option SS :=
  bn (x4 + (1 : Int32)) fun x4_175 => bk23 x2 x3 x4_175 q
def f2_read_v26_b129 (N : Nat) (bk23 : Int32 → Int32 → Int32 → SS → Option SS) (x2 : Int32) (x3 : Int32) (x4 : Int32) (q : SS) : Option SS :=
  if (fi q 10) ≤ 0 then (f2_read_v26_b175 N bk23 x2 x3 x4 q) else (if (6 : Int32) < (fi q 10) then (f2_read_v26_b175 N bk23 x2 x3 x4 q) else (ck ((fi q 10) - (1 : Int32)) 6 (bd2 (f3_pagesOf N (ar q 17 (ix ((fi q 10) - (1 : Int32)))) x3 q) fun r_171 q_171 => ck ((fi q 10) - (1 : Int32)) 6 (bn (sa q_171 20 (ix ((fi q 10) - (1 : Int32))) r_171) fun q_174 => f2_read_v26_b175 N bk23 x2 x3 x4 q_174))))
def f2_read_v26_b119 (N : Nat) (bk23 : Int32 → Int32 → Int32 → SS → Option SS) (x2 : Int32) (x3 : Int32) (x4 : Int32) (x6 : Int32) (x7 : Int32) (q : SS) : Option SS :=
  if x6 = 0 then (if x7 = 0 then (f2_read_v26_b175 N bk23 x2 x3 x4 q) else (f2_read_v26_b129 N bk23 x2 x3 x4 q)) else (f2_read_v26_b129 N bk23 x2 x3 x4 q)
def f2_read_v26_b75 (N : Nat) (bk23 : Int32 → Int32 → Int32 → SS → Option SS) (x2 : Int32) (x3 : Int32) (x4 : Int32) (x5 : Int32) (x6 : Int32) (s0 : Int32) (q : SS) : Option SS :=
  if x6 = 0 then (if s0 = 0 then (if x5 = (40 : Int32) then (f2_read_v26_b119 N bk23 x2 x3 x4 x6 s0 q) else (bd (f2_holdWay x5 q) fun q_116 => f2_read_v26_b119 N bk23 x2 x3 x4 x6 s0 q_116)) else (bd (f2_joinLastTwo N q) fun q_100 => f2_read_v26_b119 N bk23 x2 x3 x4 x6 s0 q_100)) else (bd (f2_holdTable N (x5 - (48 : Int32)) q) fun q_88 => f2_read_v26_b119 N bk23 x2 x3 x4 x6 s0 q_88)
def f2_read_v26_b61 (N : Nat) (bk23 : Int32 → Int32 → Int32 → SS → Option SS) (x2 : Int32) (x3 : Int32) (x4 : Int32) (x5 : Int32) (s0 : Int32) (q : SS) : Option SS :=
  if x5 = (41 : Int32) then (f2_read_v26_b75 N bk23 x2 x3 x4 x5 s0 ((1 : Int32)) q) else (f2_read_v26_b75 N bk23 x2 x3 x4 x5 s0 ((0 : Int32)) q)
def f2_read_v26_b60 (N : Nat) (bk23 : Int32 → Int32 → Int32 → SS → Option SS) (x2 : Int32) (x3 : Int32) (x4 : Int32) (x5 : Int32) (q : SS) : Option SS :=
  f2_read_v26_b61 N bk23 x2 x3 x4 x5 ((0 : Int32)) q
def f2_read_v26_l23_B (N : Nat) (bk23 : Int32 → Int32 → Int32 → SS → Option SS) (x2 : Int32) (x3 : Int32) (x4 : Int32) (q : SS) : Option SS :=
  if x2 ≤ x4 then (some q) else (if (21 : Int32) ≤ x4 then (some q) else (ck x4 21 (bn (ar q 26 (ix x4)) fun x5_40 => if x5_40 < (48 : Int32) then (f2_read_v26_b60 N bk23 x2 x3 x4 x5_40 q) else (if (54 : Int32) ≤ x5_40 then (f2_read_v26_b60 N bk23 x2 x3 x4 x5_40 q) else (f2_read_v26_b61 N bk23 x2 x3 x4 x5_40 ((1 : Int32)) q)))))
def f2_read_v26_l23 (N : Nat) : Nat → Int32 → Int32 → Int32 → SS → Option SS
  | 0 => fun _ _ _ _ => none
  | n + 1 => f2_read_v26_l23_B N (f2_read_v26_l23 N n)
def f2_read_v26 (N : Nat) (x2 : Int32) (x3 : Int32) (q : SS) : Option SS :=
  bn (sf q 10 (0 : Int32)) fun q_2 => bn (sf q_2 11 (0 : Int32)) fun q_7 => bn (sf q_7 12 (0 : Int32)) fun q_12 => bn (sf q_12 13 (1 : Int32)) fun q_17 => f2_read_v26_l23 N N x2 x3 ((0 : Int32)) q_17
def f2_canBeDone (q : SS) : Option Int32 :=
  cz (fi q 13) (some (fi q 13))
def f2_tablesRead (q : SS) : Option Int32 :=
  some (ar q 17 (ix (0 : Int32)))
def f2_costRead (q : SS) : Option Int32 :=
  some (ar q 18 (ix (0 : Int32)))
def f2_letterRead (q : SS) : Option Int32 :=
  some (ar q 19 (ix (0 : Int32)))
def f2_stepsRead (q : SS) : Option Int32 :=
  some (fi q 12)
def f3_fixRow_l6_B (N : Nat) (bk6 : Int32 → Int32 → Int32 → Int32 → SS → Option (Int32 × SS)) (x1 : Int32) (x2 : Int32) (x4 : Int32) (x5 : Int32) (q : SS) : Option (Int32 × SS) :=
  bd (f7_rowsOf q x2) fun r_13 => if r_13 ≤ x5 then (some (x4, q)) else (ck x2 6 (bn (sa q 12 (ix x2) (jshl (1 : Int32) x5)) fun q_28 => ck x2 6 (bn (sa q_28 15 (ix x2) x5) fun q_36 => bd2 (f3_counted N x1 q_36) fun r_39 q_39 => if r_39 ≤ x4 then (bn (x4 - r_39) fun x4_59 => bn (x5 + (1 : Int32)) fun x5_61 => bk6 x1 x2 x4_59 x5_61 q_39) else (some (x4, q_39)))))
def f3_fixRow_l6 (N : Nat) : Nat → Int32 → Int32 → Int32 → Int32 → SS → Option (Int32 × SS)
  | 0 => fun _ _ _ _ _ => none
  | n + 1 => f3_fixRow_l6_B N (f3_fixRow_l6 N n)
def f3_fixRow (N : Nat) (x1 : Int32) (x2 : Int32) (x3 : Int32) (q : SS) : Option (Int32 × SS) :=
  f3_fixRow_l6 N N x1 x2 x3 ((0 : Int32)) q
def f3_find_b50 (N : Nat) (bk24 : Int32 → Int32 → Int32 → SS → Option (Int32 × SS)) (x1 : Int32) (x3 : Int32) (x4 : Int32) (q : SS) : Option (Int32 × SS) :=
  bn (x4 + (1 : Int32)) fun x4_50 => bk24 x1 x3 x4_50 q
def f3_find_l24_B (N : Nat) (bk24 : Int32 → Int32 → Int32 → SS → Option (Int32 × SS)) (x1 : Int32) (x3 : Int32) (x4 : Int32) (q : SS) : Option (Int32 × SS) :=
  if (6 : Int32) ≤ x4 then (some ((1 : Int32), q)) else (if ((jshr x1 x4) &&& (1 : Int32)) = (1 : Int32) then (bd2 (f3_fixRow N x1 x4 x3 q) fun r_46 q_46 => f3_find_b50 N bk24 x1 r_46 x4 q_46) else (f3_find_b50 N bk24 x1 x3 x4 q))
def f3_find_l24 (N : Nat) : Nat → Int32 → Int32 → Int32 → SS → Option (Int32 × SS)
  | 0 => fun _ _ _ _ => none
  | n + 1 => f3_find_l24_B N (f3_find_l24 N n)
def f3_find (N : Nat) (x1 : Int32) (x2 : Int32) (q : SS) : Option (Int32 × SS) :=
  bd (f3_allowAllRows N q) fun q_1 => if x2 < 0 then (some ((0 : Int32), q_1)) else (bd2 (f3_counted N x1 q_1) fun r_11 q_11 => if x2 < r_11 then (f3_find_l24 N N x1 x2 ((0 : Int32)) q_11) else (some ((0 : Int32), q_11)))
def f3_rowFound (q : SS) (x1 : Int32) : Option Int32 :=
  if x1 < 0 then (some (-1 : Int32)) else (if (6 : Int32) ≤ x1 then (some (-1 : Int32)) else (ck x1 6 (some (ar q 15 (ix x1)))))
def f3_numberFound_b48 (N : Nat) (q : SS) (bk2 : Int32 → Int32 → Int32 → Option Int32) (x1 : Int32) (x2 : Int32) (x3 : Int32) : Option Int32 :=
  bn (x3 + (1 : Int32)) fun x3_48 => bk2 x1 x2 x3_48
def f3_numberFound_l2_B (N : Nat) (q : SS) (bk2 : Int32 → Int32 → Int32 → Option Int32) (x1 : Int32) (x2 : Int32) (x3 : Int32) : Option Int32 :=
  if (6 : Int32) ≤ x3 then (some (-1 : Int32)) else (if ((jshr x1 x3) &&& (1 : Int32)) = (1 : Int32) then (bd (f7_hasLetter q x3 x2) fun r_23 => if r_23 = 0 then (f3_numberFound_b48 N q bk2 x1 x2 x3) else (ck x3 6 (bd (f7_codeAt q x3 (ar q 15 (ix x3))) fun r_40 => bd (f4_numberIn r_40 x2) fun r_44 => some r_44))) else (f3_numberFound_b48 N q bk2 x1 x2 x3))
def f3_numberFound_l2 (N : Nat) (q : SS) : Nat → Int32 → Int32 → Int32 → Option Int32
  | 0 => fun _ _ _ => none
  | n + 1 => f3_numberFound_l2_B N q (f3_numberFound_l2 N q n)
def f3_numberFound (N : Nat) (q : SS) (x1 : Int32) (x2 : Int32) : Option Int32 :=
  f3_numberFound_l2 N q N x1 x2 ((0 : Int32))
def f3_idleRows_b55 (N : Nat) (bk21 : Int32 → Int32 → Int32 → Int32 → SS → Option (Int32 × SS)) (x1 : Int32) (x2 : Int32) (x3 : Int32) (x4 : Int32) (q : SS) : Option (Int32 × SS) :=
  bn (x4 + (1 : Int32)) fun x4_55 => bk21 x1 x2 x3 x4_55 q
def f3_idleRows_l21_B (N : Nat) (bk21 : Int32 → Int32 → Int32 → Int32 → SS → Option (Int32 × SS)) (x1 : Int32) (x2 : Int32) (x3 : Int32) (x4 : Int32) (q : SS) : Option (Int32 × SS) :=
  bd (f7_rowsOf q x2) fun r_28 => if r_28 ≤ x4 then (some (x3, q)) else (ck x2 6 (bn (sa q 12 (ix x2) (jshl (1 : Int32) x4)) fun q_43 => bd2 (f3_counted N x1 q_43) fun r_46 q_46 => if r_46 = 0 then (bn (x3 + (1 : Int32)) fun x3_52 => f3_idleRows_b55 N bk21 x1 x2 x3_52 x4 q_46) else (f3_idleRows_b55 N bk21 x1 x2 x3 x4 q_46)))
def f3_idleRows_l21 (N : Nat) : Nat → Int32 → Int32 → Int32 → Int32 → SS → Option (Int32 × SS)
  | 0 => fun _ _ _ _ _ => none
  | n + 1 => f3_idleRows_l21_B N (f3_idleRows_l21 N n)
def f3_idleRows (N : Nat) (x1 : Int32) (x2 : Int32) (q : SS) : Option (Int32 × SS) :=
  if x2 < 0 then (some ((0 : Int32), q)) else (if x2 < (6 : Int32) then (bd (f3_allowAllRows N q) fun q_13 => f3_idleRows_l21 N N x1 x2 ((0 : Int32)) ((0 : Int32)) q_13) else (some ((0 : Int32), q)))
def f4_codeOf_b63 (N : Nat) (bk9 : Int32 → Int32 → Int32 → Int32 → Int32 → Int32 → Int32 → Option Int32) (x0 : Int32) (x1 : Int32) (x2 : Int32) (x3 : Int32) (x4 : Int32) (x5 : Int32) (x6 : Int32) : Option Int32 :=
  bn (x6 + (1 : Int32)) fun x6_63 => bk9 x0 x1 x2 x3 x4 x5 x6_63
def f4_codeOf_b46 (N : Nat) (bk9 : Int32 → Int32 → Int32 → Int32 → Int32 → Int32 → Int32 → Option Int32) (x0 : Int32) (x1 : Int32) (x2 : Int32) (x3 : Int32) (x4 : Int32) (x5 : Int32) (x6 : Int32) (s0 : Int32) : Option Int32 :=
  bn (x4 ||| (jshl s0 ((4 : Int32) * x6))) fun x4_58 => bn (x5 + (1 : Int32)) fun x5_60 => f4_codeOf_b63 N bk9 x0 x1 x2 x3 x4_58 x5_60 x6
def f4_codeOf_l9_B (N : Nat) (bk9 : Int32 → Int32 → Int32 → Int32 → Int32 → Int32 → Int32 → Option Int32) (x0 : Int32) (x1 : Int32) (x2 : Int32) (x3 : Int32) (x4 : Int32) (x5 : Int32) (x6 : Int32) : Option Int32 :=
  if (8 : Int32) ≤ x6 then (some x4) else (if ((jshr x0 x6) &&& (1 : Int32)) = (1 : Int32) then (if x5 = 0 then (f4_codeOf_b46 N bk9 x0 x1 x2 x3 x4 x5 x6 x1) else (if x5 = (1 : Int32) then (f4_codeOf_b46 N bk9 x0 x1 x2 x3 x4 x5 x6 x2) else (f4_codeOf_b46 N bk9 x0 x1 x2 x3 x4 x5 x6 x3))) else (f4_codeOf_b63 N bk9 x0 x1 x2 x3 x4 x5 x6))
def f4_codeOf_l9 (N : Nat) : Nat → Int32 → Int32 → Int32 → Int32 → Int32 → Int32 → Int32 → Option Int32
  | 0 => fun _ _ _ _ _ _ _ => none
  | n + 1 => f4_codeOf_l9_B N (f4_codeOf_l9 N n)
def f4_codeOf (N : Nat) (x0 : Int32) (x1 : Int32) (x2 : Int32) (x3 : Int32) : Option Int32 :=
  f4_codeOf_l9 N N x0 x1 x2 x3 ((0 : Int32)) ((0 : Int32)) ((0 : Int32))
def f6_append_l17_B (N : Nat) (bk17 : Int64 → Int32 → Int32 → SS → Option (Int32 × SS)) (x1 : Int64) (x3 : Int32) (x4 : Int32) (q : SS) : Option (Int32 × SS) :=
  if x3 ≤ x4 then (some (fi q 4, q)) else (if (40 : Int32) ≤ (fi q 4) then (some (fi q 4, q)) else (ck (fi q 4) 40 (bn (sa q 16 (ix (fi q 4)) (Int64.toInt32 ((jlushr x1 ((8 : Int32) * x4)) &&& (255 : Int64)))) fun q_52 => bn (sf q_52 4 ((fi q_52 4) + (1 : Int32))) fun q_60 => bn (x4 + (1 : Int32)) fun x4_63 => bk17 x1 x3 x4_63 q_60)))
def f6_append_l17 (N : Nat) : Nat → Int64 → Int32 → Int32 → SS → Option (Int32 × SS)
  | 0 => fun _ _ _ _ => none
  | n + 1 => f6_append_l17_B N (f6_append_l17 N n)
def f6_append (N : Nat) (x1 : Int64) (x3 : Int32) (q : SS) : Option (Int32 × SS) :=
  if ((fi q 4) + x3) ≤ (40 : Int32) then (f6_append_l17 N N x1 x3 ((0 : Int32)) q) else (some ((-104 : Int32), q))
def f6_wipe (q : SS) : Option (Int32 × SS) :=
  bn (fi q 4) fun x1_4 => bn (sf q 4 (0 : Int32)) fun q_7 => some (x1_4, q_7)
def f6_length (q : SS) : Option Int32 :=
  some (fi q 4)
def f6_signs (q : SS) : Option Unit :=
  some ()
def f6_signAt (q : SS) (x1 : Int32) : Option Int32 :=
  if x1 < 0 then (some (-1 : Int32)) else (if (fi q 4) ≤ x1 then (some (-1 : Int32)) else (ck x1 40 (some (ar q 16 (ix x1)))))
def f6_atRightSide (q : SS) : Option Int32 :=
  if ((fi q 8) &&& (1 : Int32)) = (1 : Int32) then (some (1 : Int32)) else (some (0 : Int32))
def f6_takesClose (x1 : Int32) (q : SS) : Option (Int32 × SS) :=
  if x1 = (41 : Int32) then (bn (sf q 7 ((fi q 7) - (1 : Int32))) fun q_15 => bn (sf q_15 8 (jshr (fi q_15 8) (1 : Int32))) fun q_25 => some ((1 : Int32), q_25)) else (some ((0 : Int32), q))
def f6_takesOpen (x1 : Int32) (q : SS) : Option (Int32 × SS) :=
  bd (fJ6_bitCount (fi q 5)) fun r_4 => if ((r_4 + (fi q 6)) + (1 : Int32)) ≤ x1 then (bn (sf q 6 ((fi q 6) + (1 : Int32))) fun q_27 => bn (sf q_27 7 ((fi q_27 7) + (1 : Int32))) fun q_37 => bn (sf q_37 8 (jshl (fi q_37 8) (1 : Int32))) fun q_47 => some ((1 : Int32), q_47)) else (some ((0 : Int32), q))
def f6_takesTable (x1 : Int32) (x2 : Int32) (q : SS) : Option (Int32 × SS) :=
  if x1 < 0 then (some ((0 : Int32), q)) else (if x2 ≤ x1 then (some ((0 : Int32), q)) else (if ((jshr (fi q 5) x1) &&& (1 : Int32)) = (1 : Int32) then (some ((0 : Int32), q)) else (bn (sf q 5 ((fi q 5) ||| (jshl (1 : Int32) x1))) fun q_32 => bn (sf q_32 6 ((fi q_32 6) - (1 : Int32))) fun q_42 => bn (sf q_42 9 (1 : Int32)) fun q_47 => some ((1 : Int32), q_47))))
def f6_takesWay_b20 (q : SS) : Option (Int32 × SS) :=
  bn (sf q 8 ((fi q 8) ||| (1 : Int32))) fun q_27 => bn (sf q_27 9 (0 : Int32)) fun q_32 => some ((1 : Int32), q_32)
def f6_takesWay (x1 : Int32) (q : SS) : Option (Int32 × SS) :=
  if x1 = (108 : Int32) then (f6_takesWay_b20 q) else (if x1 = (112 : Int32) then (f6_takesWay_b20 q) else (if x1 = (115 : Int32) then (f6_takesWay_b20 q) else (some ((0 : Int32), q))))
def f6_takes (x1 : Int32) (x2 : Int32) (q : SS) : Option (Int32 × SS) :=
  if (fi q 9) = 0 then (if x1 = (40 : Int32) then (bd2 (f6_takesOpen x2 q) fun r_15 q_15 => cz r_15 (some (r_15, q_15))) else (bd2 (f6_takesTable (x1 - (48 : Int32)) x2 q) fun r_27 q_27 => cz r_27 (some (r_27, q_27)))) else (if (fi q 7) = 0 then (some ((0 : Int32), q)) else (bd (f6_atRightSide q) fun r_41 => if r_41 = 0 then (bd2 (f6_takesWay x1 q) fun r_57 q_57 => cz r_57 (some (r_57, q_57))) else (bd2 (f6_takesClose x1 q) fun r_49 q_49 => cz r_49 (some (r_49, q_49)))))
def f6_readable_l27_B (N : Nat) (bk27 : Int32 → Int32 → SS → Option (Int32 × SS)) (x1 : Int32) (x2 : Int32) (q : SS) : Option (Int32 × SS) :=
  if (fi q 4) ≤ x2 then (some (fi q 4, q)) else (ck x2 40 (bd2 (f6_takes (ar q 16 (ix x2)) x1 q) fun r_43 q_43 => if r_43 = 0 then (some (x2, q_43)) else (bn (x2 + (1 : Int32)) fun x2_51 => bk27 x1 x2_51 q_43)))
def f6_readable_l27 (N : Nat) : Nat → Int32 → Int32 → SS → Option (Int32 × SS)
  | 0 => fun _ _ _ => none
  | n + 1 => f6_readable_l27_B N (f6_readable_l27 N n)
def f6_readable (N : Nat) (x1 : Int32) (q : SS) : Option (Int32 × SS) :=
  bn (sf q 5 (0 : Int32)) fun q_2 => bn (sf q_2 6 (1 : Int32)) fun q_7 => bn (sf q_7 7 (0 : Int32)) fun q_12 => bn (sf q_12 8 (0 : Int32)) fun q_17 => bn (sf q_17 9 (0 : Int32)) fun q_22 => f6_readable_l27 N N x1 ((0 : Int32)) q_22
def f6_isPlan (N : Nat) (x1 : Int32) (q : SS) : Option (Int32 × SS) :=
  bd2 (f6_readable N x1 q) fun r_2 q_2 => if r_2 = (fi q_2 4) then (if (fi q_2 9) = 0 then (some ((0 : Int32), q_2)) else (if (fi q_2 7) = 0 then (some ((1 : Int32), q_2)) else (some ((0 : Int32), q_2)))) else (some ((0 : Int32), q_2))
def f7_holdsRow (q : SS) (x1 : Int32) (x2 : Int32) : Option Int32 :=
  if x1 < 0 then (some (0 : Int32)) else (if (fi q 1) ≤ x1 then (some (0 : Int32)) else (if x2 < 0 then (some (0 : Int32)) else (ck x1 6 (if (ar q 9 (ix x1)) ≤ x2 then (some (0 : Int32)) else (some (1 : Int32))))))
def f7_isSet (q : SS) (x1 : Int32) : Option Int32 :=
  if x1 < (1 : Int32) then (some (0 : Int32)) else (if (jshl (1 : Int32) (fi q 1)) ≤ x1 then (some (0 : Int32)) else (some (1 : Int32)))
def f7_tablesMade (q : SS) : Option Int32 :=
  some (fi q 1)
def f7_allTables (q : SS) : Option Int32 :=
  some ((jshl (1 : Int32) (fi q 1)) - (1 : Int32))
def f7_putWide (x1 : Int32) (q : SS) : Option (Int32 × SS) :=
  bn (fi q 2) fun x2_4 => bn (sf q 2 x1) fun q_7 => some (x2_4, q_7)
def f7_putMemory (x1 : Int32) (q : SS) : Option (Int32 × SS) :=
  bn (fi q 3) fun x2_4 => bn (sf q 3 x1) fun q_7 => some (x2_4, q_7)
def f7_addTable (x1 : Int32) (x2 : Int32) (q : SS) : Option (Int32 × SS) :=
  if (fi q 1) < (6 : Int32) then (ck (fi q 1) 6 (bn (sa q 7 (ix (fi q 1)) x1) fun q_21 => ck (fi q_21 1) 6 (bn (sa q_21 8 (ix (fi q_21 1)) x2) fun q_31 => bn (sf q_31 1 ((fi q_31 1) + (1 : Int32))) fun q_39 => some ((fi q_39 1) - (1 : Int32), q_39)))) else (some ((-104 : Int32), q))
def f7_addRow (x1 : Int32) (x2 : Int32) (q : SS) : Option (Int32 × SS) :=
  bd (f7_holds q x1) fun r_2 => if r_2 = 0 then (some ((0 : Int32), q)) else (ck x1 6 (bn (ar q 9 (ix x1)) fun x3_16 => if x3_16 < 0 then (some (x3_16, q)) else (if x3_16 < (8 : Int32) then (ck ((x1 * (8 : Int32)) + x3_16) 48 (bn (sa q 10 (ix ((x1 * (8 : Int32)) + x3_16)) x2) fun q_40 => ck x1 6 (bn (sa q_40 9 (ix x1) (x3_16 + (1 : Int32))) fun q_49 => some (x3_16 + (1 : Int32), q_49)))) else (some (x3_16, q)))))
def f7_addSeeded_b96 (N : Nat) (bk29 : Int32 → Int32 → Int32 → Int64 → Int32 → SS → Option (Int32 × SS)) (bk42 : Int32 → Int32 → Int32 → Int64 → Int32 → Int32 → Int32 → SS → Option (Int32 × SS)) (x1 : Int32) (x4 : Int32) (x5 : Int32) (x6 : Int64) (x8 : Int32) (x9 : Int32) (x10 : Int32) (q : SS) : Option (Int32 × SS) :=
  bn (x10 + (1 : Int32)) fun x10_96 => bk42 x1 x4 x5 x6 x8 x9 x10_96 q
def f7_addSeeded_l42_B (N : Nat) (bk29 : Int32 → Int32 → Int32 → Int64 → Int32 → SS → Option (Int32 × SS)) (bk42 : Int32 → Int32 → Int32 → Int64 → Int32 → Int32 → Int32 → SS → Option (Int32 × SS)) (x1 : Int32) (x4 : Int32) (x5 : Int32) (x6 : Int64) (x8 : Int32) (x9 : Int32) (x10 : Int32) (q : SS) : Option (Int32 × SS) :=
  if (8 : Int32) ≤ x10 then (bd2 (f7_addRow x1 x9 q) fun r_106 q_106 => bn (x8 + (1 : Int32)) fun x8_110 => bk29 x1 x4 x5 x6 x8_110 q_106) else (bd (f7_hasLetter q x1 x10) fun r_53 => if r_53 = 0 then (f7_addSeeded_b96 N bk29 bk42 x1 x4 x5 x6 x8 x9 x10 q) else (bn ((((1103515245 : Int64) * x6) + (12345 : Int64)) &&& (2147483647 : Int64)) fun x6_73 => dzl (Int32.toInt64 x4) (bn (x9 ||| (jshl (Int64.toInt32 (jlrem (x6_73 / (65536 : Int64)) (Int32.toInt64 x4))) ((4 : Int32) * x10))) fun x9_94 => f7_addSeeded_b96 N bk29 bk42 x1 x4 x5 x6_73 x8 x9_94 x10 q)))
def f7_addSeeded_l42 (N : Nat) (bk29 : Int32 → Int32 → Int32 → Int64 → Int32 → SS → Option (Int32 × SS)) : Nat → Int32 → Int32 → Int32 → Int64 → Int32 → Int32 → Int32 → SS → Option (Int32 × SS)
  | 0 => fun _ _ _ _ _ _ _ _ => none
  | n + 1 => f7_addSeeded_l42_B N bk29 (f7_addSeeded_l42 N bk29 n)
def f7_addSeeded_l29_B (N : Nat) (bk29 : Int32 → Int32 → Int32 → Int64 → Int32 → SS → Option (Int32 × SS)) (x1 : Int32) (x4 : Int32) (x5 : Int32) (x6 : Int64) (x8 : Int32) (q : SS) : Option (Int32 × SS) :=
  if x5 ≤ x8 then (some (x5, q)) else (f7_addSeeded_l42 N bk29 N x1 x4 x5 x6 x8 ((0 : Int32)) ((0 : Int32)) q)
def f7_addSeeded_l29 (N : Nat) : Nat → Int32 → Int32 → Int32 → Int64 → Int32 → SS → Option (Int32 × SS)
  | 0 => fun _ _ _ _ _ _ => none
  | n + 1 => f7_addSeeded_l29_B N (f7_addSeeded_l29 N n)
def f7_addSeeded (N : Nat) (x1 : Int32) (x2 : Int32) (x3 : Int32) (x4 : Int32) (q : SS) : Option (Int32 × SS) :=
  if (1 : Int32) ≤ x4 then (bd (f7_rowsOf q x1) fun r_13 => bn (jmin x3 ((8 : Int32) - r_13)) fun x5_20 => bn (Int32.toInt64 x2) fun x6_24 => f7_addSeeded_l29 N N x1 x4 x5_20 x6_24 ((0 : Int32)) q) else (some ((0 : Int32), q))
def f7_dropRow_l19_B (N : Nat) (bk19 : Int32 → Int32 → SS → Option (Int32 × SS)) (x1 : Int32) (x3 : Int32) (q : SS) : Option (Int32 × SS) :=
  ck x1 6 (if (ar q 9 (ix x1)) ≤ x3 then (ck x1 6 (ck x1 6 (bn (sa q 9 (ix x1) ((ar q 9 (ix x1)) - (1 : Int32))) fun q_68 => ck x1 6 (some (ar q_68 9 (ix x1), q_68))))) else (ck ((x1 * (8 : Int32)) + x3) 48 (ck (((x1 * (8 : Int32)) + x3) - (1 : Int32)) 48 (bn (sa q 10 (ix (((x1 * (8 : Int32)) + x3) - (1 : Int32))) (ar q 10 (ix ((x1 * (8 : Int32)) + x3)))) fun q_52 => bn (x3 + (1 : Int32)) fun x3_53 => bk19 x1 x3_53 q_52))))
def f7_dropRow_l19 (N : Nat) : Nat → Int32 → Int32 → SS → Option (Int32 × SS)
  | 0 => fun _ _ _ => none
  | n + 1 => f7_dropRow_l19_B N (f7_dropRow_l19 N n)
def f7_dropRow (N : Nat) (x1 : Int32) (x2 : Int32) (q : SS) : Option (Int32 × SS) :=
  bd (f7_holdsRow q x1 x2) fun r_3 => if r_3 = 0 then (bd (f7_rowsOf q x1) fun r_11 => some (r_11, q)) else (bn (x2 + (1 : Int32)) fun x3_18 => f7_dropRow_l19 N N x1 x3_18 q)
def f7_placeOf_b64 (N : Nat) (q : SS) (bk18 : Int32 → Int32 → Int32 → Int32 → Int32 → Int32 → Option Int32) (x1 : Int32) (x2 : Int32) (x3 : Int32) (x4 : Int32) (x5 : Int32) (x6 : Int32) : Option Int32 :=
  bn (x6 + (1 : Int32)) fun x6_64 => bk18 x1 x2 x3 x4 x5 x6_64
def f7_placeOf_b61 (N : Nat) (q : SS) (bk18 : Int32 → Int32 → Int32 → Int32 → Int32 → Int32 → Option Int32) (x1 : Int32) (x2 : Int32) (x3 : Int32) (x4 : Int32) (x5 : Int32) (x6 : Int32) : Option Int32 :=
  bn (x5 + (1 : Int32)) fun x5_61 => f7_placeOf_b64 N q bk18 x1 x2 x3 x4 x5_61 x6
def f7_placeOf_l18_B (N : Nat) (q : SS) (bk18 : Int32 → Int32 → Int32 → Int32 → Int32 → Int32 → Option Int32) (x1 : Int32) (x2 : Int32) (x3 : Int32) (x4 : Int32) (x5 : Int32) (x6 : Int32) : Option Int32 :=
  bd (f7_rowsOf q x1) fun r_22 => if r_22 ≤ x6 then (some x5) else (bd (f7_codeAt q x1 x6) fun r_32 => bd (f4_numberIn r_32 x3) fun r_36 => if r_36 < x4 then (f7_placeOf_b61 N q bk18 x1 x2 x3 x4 x5 x6) else (if r_36 = x4 then (if x2 ≤ x6 then (f7_placeOf_b64 N q bk18 x1 x2 x3 x4 x5 x6) else (f7_placeOf_b61 N q bk18 x1 x2 x3 x4 x5 x6)) else (f7_placeOf_b64 N q bk18 x1 x2 x3 x4 x5 x6)))
def f7_placeOf_l18 (N : Nat) (q : SS) : Nat → Int32 → Int32 → Int32 → Int32 → Int32 → Int32 → Option Int32
  | 0 => fun _ _ _ _ _ _ => none
  | n + 1 => f7_placeOf_l18_B N q (f7_placeOf_l18 N q n)
def f7_placeOf (N : Nat) (q : SS) (x1 : Int32) (x2 : Int32) (x3 : Int32) : Option Int32 :=
  bd (f7_codeAt q x1 x2) fun r_3 => bd (f4_numberIn r_3 x3) fun r_7 => f7_placeOf_l18 N q N x1 x2 x3 r_7 ((0 : Int32)) ((0 : Int32))
def f7_sortRows_l73_B (N : Nat) (bk73 : Int32 → Int32 → Int32 → Int32 → SS → Option (Int32 × SS)) (x1 : Int32) (x3 : Int32) (x4 : Int32) (x5 : Int32) (q : SS) : Option (Int32 × SS) :=
  if x3 ≤ x5 then (some (x4, q)) else (ck x5 8 (ck ((x1 * (8 : Int32)) + x5) 48 (bn (sa q 10 (ix ((x1 * (8 : Int32)) + x5)) (ar q 11 (ix x5))) fun q_97 => bn (x5 + (1 : Int32)) fun x5_98 => bk73 x1 x3 x4 x5_98 q_97)))
def f7_sortRows_l73 (N : Nat) : Nat → Int32 → Int32 → Int32 → Int32 → SS → Option (Int32 × SS)
  | 0 => fun _ _ _ _ _ => none
  | n + 1 => f7_sortRows_l73_B N (f7_sortRows_l73 N n)
def f7_sortRows_b64 (N : Nat) (bk12 : Int32 → Int32 → Int32 → Int32 → Int32 → SS → Option (Int32 × SS)) (x1 : Int32) (x2 : Int32) (x3 : Int32) (x4 : Int32) (x5 : Int32) (q : SS) : Option (Int32 × SS) :=
  bn (x5 + (1 : Int32)) fun x5_64 => bk12 x1 x2 x3 x4 x5_64 q
def f7_sortRows_b38 (N : Nat) (bk12 : Int32 → Int32 → Int32 → Int32 → Int32 → SS → Option (Int32 × SS)) (x1 : Int32) (x2 : Int32) (x3 : Int32) (x4 : Int32) (x5 : Int32) (x6 : Int32) (q : SS) : Option (Int32 × SS) :=
  if x6 < 0 then (f7_sortRows_b64 N bk12 x1 x2 x3 x4 x5 q) else (if (8 : Int32) ≤ x6 then (f7_sortRows_b64 N bk12 x1 x2 x3 x4 x5 q) else (bd (f7_codeAt q x1 x5) fun r_60 => ck x6 8 (bn (sa q 11 (ix x6) r_60) fun q_63 => f7_sortRows_b64 N bk12 x1 x2 x3 x4 x5 q_63)))
def f7_sortRows_l12_B (N : Nat) (bk12 : Int32 → Int32 → Int32 → Int32 → Int32 → SS → Option (Int32 × SS)) (x1 : Int32) (x2 : Int32) (x3 : Int32) (x4 : Int32) (x5 : Int32) (q : SS) : Option (Int32 × SS) :=
  if x3 ≤ x5 then (f7_sortRows_l73 N N x1 x3 x4 ((0 : Int32)) q) else (bd (f7_placeOf N q x1 x5 x2) fun r_23 => if r_23 = x5 then (f7_sortRows_b38 N bk12 x1 x2 x3 x4 x5 r_23 q) else (bn (x4 + (1 : Int32)) fun x4_35 => f7_sortRows_b38 N bk12 x1 x2 x3 x4_35 x5 r_23 q))
def f7_sortRows_l12 (N : Nat) : Nat → Int32 → Int32 → Int32 → Int32 → Int32 → SS → Option (Int32 × SS)
  | 0 => fun _ _ _ _ _ _ => none
  | n + 1 => f7_sortRows_l12_B N (f7_sortRows_l12 N n)
def f7_sortRows (N : Nat) (x1 : Int32) (x2 : Int32) (q : SS) : Option (Int32 × SS) :=
  bd (f7_rowsOf q x1) fun r_2 => f7_sortRows_l12 N N x1 x2 r_2 ((0 : Int32)) ((0 : Int32)) q
def f7_rowsOfAll_l4_B (N : Nat) (q : SS) (bk4 : Int32 → Int32 → Option Int32) (x1 : Int32) (x2 : Int32) : Option Int32 :=
  if (fi q 1) ≤ x2 then (some x1) else (ck x2 6 (bn (x1 + (ar q 9 (ix x2))) fun x1_20 => bn (x2 + (1 : Int32)) fun x2_21 => bk4 x1_20 x2_21))
def f7_rowsOfAll_l4 (N : Nat) (q : SS) : Nat → Int32 → Int32 → Option Int32
  | 0 => fun _ _ => none
  | n + 1 => f7_rowsOfAll_l4_B N q (f7_rowsOfAll_l4 N q n)
def f7_rowsOfAll (N : Nat) (q : SS) : Option Int32 :=
  f7_rowsOfAll_l4 N q N ((0 : Int32)) ((0 : Int32))
def f7_fewestThatCover_b70 (N : Nat) (q : SS) (bk11 : Int32 → Int32 → Int32 → Int32 → Option Int32) (x1 : Int32) (x2 : Int32) (x3 : Int32) (x4 : Int32) : Option Int32 :=
  bn (x4 + (1 : Int32)) fun x4_70 => bk11 x1 x2 x3 x4_70
def f7_fewestThatCover_b48 (N : Nat) (q : SS) (bk11 : Int32 → Int32 → Int32 → Int32 → Option Int32) (x1 : Int32) (x2 : Int32) (x3 : Int32) (x4 : Int32) (s0 : Int32) : Option Int32 :=
  if s0 = 0 then (f7_fewestThatCover_b70 N q bk11 x1 x2 x3 x4) else (bd (fJ6_bitCount x4) fun r_57 => bd (fJ6_bitCount x3) fun r_61 => if r_61 ≤ r_57 then (f7_fewestThatCover_b70 N q bk11 x1 x2 x3 x4) else (f7_fewestThatCover_b70 N q bk11 x1 x2 x4 x4))
def f7_fewestThatCover_b47 (N : Nat) (q : SS) (bk11 : Int32 → Int32 → Int32 → Int32 → Option Int32) (x1 : Int32) (x2 : Int32) (x3 : Int32) (x4 : Int32) : Option Int32 :=
  f7_fewestThatCover_b48 N q bk11 x1 x2 x3 x4 ((0 : Int32))
def f7_fewestThatCover_l11_B (N : Nat) (q : SS) (bk11 : Int32 → Int32 → Int32 → Int32 → Option Int32) (x1 : Int32) (x2 : Int32) (x3 : Int32) (x4 : Int32) : Option Int32 :=
  if (64 : Int32) ≤ x4 then (some x3) else (if x1 ≤ x4 then (some x3) else (if (x4 &&& (x1 ^^^ (-1 : Int32))) = 0 then (bd (f7_lettersOfSet N q x4) fun r_36 => if r_36 = x2 then (f7_fewestThatCover_b48 N q bk11 x1 x2 x3 x4 ((1 : Int32))) else (f7_fewestThatCover_b47 N q bk11 x1 x2 x3 x4)) else (f7_fewestThatCover_b47 N q bk11 x1 x2 x3 x4)))
def f7_fewestThatCover_l11 (N : Nat) (q : SS) : Nat → Int32 → Int32 → Int32 → Int32 → Option Int32
  | 0 => fun _ _ _ _ => none
  | n + 1 => f7_fewestThatCover_l11_B N q (f7_fewestThatCover_l11 N q n)
def f7_fewestThatCover (N : Nat) (q : SS) (x1 : Int32) : Option Int32 :=
  bd (f7_lettersOfSet N q x1) fun r_2 => f7_fewestThatCover_l11 N q N x1 r_2 x1 ((1 : Int32))
def f8_table_b25 (x1 : Int32) (x2 : Int32) (s0 : Int32) (q : SS) : Option (Int32 × SS) :=
  if s0 = 0 then (some ((-102 : Int32), q)) else (if x2 < (1 : Int32) then (some ((-102 : Int32), q)) else (if x2 ≤ (4 : Int32) then (bd2 (f7_addTable x1 x2 q) fun r_49 q_49 => some (r_49, q_49)) else (some ((-102 : Int32), q))))
def f8_table_b24 (x1 : Int32) (x2 : Int32) (q : SS) : Option (Int32 × SS) :=
  f8_table_b25 x1 x2 ((0 : Int32)) q
def f8_table (x1 : Int32) (x2 : Int32) (q : SS) : Option (Int32 × SS) :=
  if x1 < (1 : Int32) then (f8_table_b24 x1 x2 q) else (if (256 : Int32) ≤ x1 then (f8_table_b24 x1 x2 q) else (bd (fJ6_bitCount x1) fun r_13 => if (3 : Int32) < r_13 then (f8_table_b24 x1 x2 q) else (f8_table_b25 x1 x2 ((1 : Int32)) q)))
def f8_mayStand_b15 (s0 : Int32) (s1 : Int32) : Option Int32 :=
  if s0 < s1 then (some (0 : Int32)) else (some (1 : Int32))
def f8_mayStand (x0 : Int32) (x1 : Int32) : Option Int32 :=
  if x0 < 0 then (some (0 : Int32)) else (if x1 = 0 then (f8_mayStand_b15 ((0 : Int32)) x0) else (f8_mayStand_b15 ((9 : Int32)) x0))
def f8_row_b70 (N : Nat) (x1 : Int32) (x2 : Int32) (x3 : Int32) (x4 : Int32) (x5 : Int32) (s0 : Int32) (s1 : Int32) (q : SS) : Option (Int32 × SS) :=
  bd (f8_mayStand s1 s0) fun r_70 => if r_70 = 0 then (some ((-102 : Int32), q)) else (bd (f7_rowsOf q x1) fun r_84 => if r_84 < (8 : Int32) then (bd (f4_codeOf N x5 x2 x3 x4) fun r_106 => bd2 (f7_addRow x1 r_106 q) fun r_109 q_109 => some (r_109, q_109)) else (some ((-104 : Int32), q)))
def f8_row_b51 (N : Nat) (x1 : Int32) (x2 : Int32) (x3 : Int32) (x4 : Int32) (x5 : Int32) (x6 : Int32) (s0 : Int32) (s1 : Int32) (q : SS) : Option (Int32 × SS) :=
  bd (f8_mayStand s1 s0) fun r_51 => if r_51 = 0 then (some ((-102 : Int32), q)) else (if x6 ≤ (2 : Int32) then (f8_row_b70 N x1 x2 x3 x4 x5 ((0 : Int32)) x4 q) else (f8_row_b70 N x1 x2 x3 x4 x5 ((1 : Int32)) x4 q))
def f8_row (N : Nat) (x1 : Int32) (x2 : Int32) (x3 : Int32) (x4 : Int32) (q : SS) : Option (Int32 × SS) :=
  bd (f7_holds q x1) fun r_5 => if r_5 = 0 then (some ((-101 : Int32), q)) else (bd (f7_lettersOf q x1) fun r_19 => bd (fJ6_bitCount r_19) fun r_26 => bd (f8_mayStand x2 (1 : Int32)) fun r_33 => if r_33 = 0 then (some ((-102 : Int32), q)) else (if r_26 ≤ (1 : Int32) then (f8_row_b51 N x1 x2 x3 x4 r_19 r_26 ((0 : Int32)) x3 q) else (f8_row_b51 N x1 x2 x3 x4 r_19 r_26 ((1 : Int32)) x3 q)))
def f8_fill (N : Nat) (x1 : Int32) (x2 : Int32) (x3 : Int32) (x4 : Int32) (q : SS) : Option (Int32 × SS) :=
  bd (f7_holds q x1) fun r_5 => if r_5 = 0 then (some ((-101 : Int32), q)) else (if x2 < 0 then (some ((-102 : Int32), q)) else (if x3 < (1 : Int32) then (some ((-102 : Int32), q)) else (if (8 : Int32) < x3 then (some ((-102 : Int32), q)) else (if x4 < (1 : Int32) then (some ((-102 : Int32), q)) else (if x4 ≤ (10 : Int32) then (bd2 (f7_addSeeded N x1 x2 x3 x4 q) fun r_54 q_54 => some (r_54, q_54)) else (some ((-102 : Int32), q)))))))
def f8_drop (N : Nat) (x1 : Int32) (x2 : Int32) (q : SS) : Option (Int32 × SS) :=
  bd (f7_holdsRow q x1 x2) fun r_6 => if r_6 = 0 then (some ((-101 : Int32), q)) else (bd2 (f7_dropRow N x1 x2 q) fun r_21 q_21 => some (r_21, q_21))
def f8_sort (N : Nat) (x1 : Int32) (x2 : Int32) (q : SS) : Option (Int32 × SS) :=
  bd (f7_holds q x1) fun r_5 => if r_5 = 0 then (some ((-101 : Int32), q)) else (bd (f7_hasLetter q x1 x2) fun r_20 => if r_20 = 0 then (some ((-102 : Int32), q)) else (bd2 (f7_sortRows N x1 x2 q) fun r_35 q_35 => some (r_35, q_35)))
def f8_get (q : SS) (x1 : Int32) (x2 : Int32) (x3 : Int32) : Option Int32 :=
  bd (f7_holdsRow q x1 x2) fun r_6 => if r_6 = 0 then (some (-101 : Int32)) else (bd (f8_isLetter x3) fun r_13 => if r_13 = 0 then (some (-101 : Int32)) else (bd (f7_hasLetter q x1 x3) fun r_28 => if r_28 = 0 then (some (-1 : Int32)) else (bd (f7_codeAt q x1 x2) fun r_42 => bd (f4_numberIn r_42 x3) fun r_46 => some r_46)))
def f8_about (N : Nat) (q : SS) (x1 : Int32) (x2 : Int32) : Option Int32 :=
  bd (f7_holds q x1) fun r_5 => if r_5 = 0 then (some (-101 : Int32)) else (if x2 = (0 : Int32) then (bd (f7_lettersOf q x1) fun r_53 => some r_53) else (if x2 = (1 : Int32) then (bd (f7_perOf q x1) fun r_62 => some r_62) else (if x2 = (2 : Int32) then (bd (f7_rowsOf q x1) fun r_71 => some r_71) else (if x2 = (3 : Int32) then (bd (f7_pagesOfTable q x1) fun r_80 => some r_80) else (if x2 = (4 : Int32) then (bd (f7_sortedLetter N q x1) fun r_89 => some r_89) else (some (-102 : Int32)))))))
def f8_unlike (N : Nat) (q : SS) (x1 : Int32) (x2 : Int32) : Option Int32 :=
  bd (f7_holds q x1) fun r_5 => if r_5 = 0 then (some (-101 : Int32)) else (bd (f7_hasLetter q x1 x2) fun r_20 => if r_20 = 0 then (some (-102 : Int32)) else (bd (f7_unlikeNumbers N q x1 x2) fun r_35 => some r_35))
def f8_rule_b64 (q : SS) : Option (Int32 × SS) :=
  some ((-102 : Int32), q)
def f8_rule_b39 (q : SS) : Option (Int32 × SS) :=
  some ((-102 : Int32), q)
def f8_rule (x1 : Int32) (x2 : Int32) (q : SS) : Option (Int32 × SS) :=
  if x1 = (0 : Int32) then (if x2 < (1 : Int32) then (f8_rule_b39 q) else (if x2 ≤ (8 : Int32) then (bd2 (f7_putWide x2 q) fun r_49 q_49 => some (r_49, q_49)) else (f8_rule_b39 q))) else (if x1 = (1 : Int32) then (if x2 < (3 : Int32) then (f8_rule_b64 q) else (if x2 ≤ (9 : Int32) then (bd2 (f7_putMemory x2 q) fun r_74 q_74 => some (r_74, q_74)) else (f8_rule_b64 q))) else (some ((-101 : Int32), q)))
def f8_isBy_b9 : Option Int32 :=
  some (1 : Int32)
def f8_isBy (x0 : Int32) : Option Int32 :=
  if x0 = 0 then (f8_isBy_b9) else (if x0 = (1 : Int32) then (f8_isBy_b9) else (some (0 : Int32)))
def f8_size (N : Nat) (x1 : Int32) (x2 : Int32) (q : SS) : Option (Int32 × SS) :=
  bd (f7_isSet q x1) fun r_5 => if r_5 = 0 then (some ((-102 : Int32), q)) else (bd (f8_isBy x2) fun r_12 => if r_12 = 0 then (some ((-102 : Int32), q)) else (bd2 (f3_sizeOf N x1 x2 q) fun r_27 q_27 => some (r_27, q_27)))
def f8_pages (N : Nat) (x1 : Int32) (x2 : Int32) (q : SS) : Option (Int32 × SS) :=
  bd (f7_isSet q x1) fun r_5 => if r_5 = 0 then (some ((-102 : Int32), q)) else (bd (f8_isBy x2) fun r_12 => if r_12 = 0 then (some ((-102 : Int32), q)) else (bd2 (f3_pagesOf N x1 x2 q) fun r_27 q_27 => some (r_27, q_27)))
def f8_refusalOfMember_b39 (q : SS) (s0 : Int32) : Option Int32 :=
  if s0 = 0 then (some (-101 : Int32)) else (some (0 : Int32))
def f8_refusalOfMember_b38 (q : SS) : Option Int32 :=
  f8_refusalOfMember_b39 q ((0 : Int32))
def f8_refusalOfMember (q : SS) (x1 : Int32) (x2 : Int32) : Option Int32 :=
  bd (f7_isSet q x1) fun r_5 => if r_5 = 0 then (some (-102 : Int32)) else (bd (f7_holds q x2) fun r_19 => if r_19 = 0 then (f8_refusalOfMember_b38 q) else (if ((jshr x1 x2) &&& (1 : Int32)) = (1 : Int32) then (f8_refusalOfMember_b39 q ((1 : Int32))) else (f8_refusalOfMember_b38 q)))
def f8_joined (N : Nat) (x1 : Int32) (x2 : Int32) (x3 : Int32) (q : SS) : Option (Int32 × SS) :=
  bd (f8_refusalOfMember q x1 x3) fun r_3 => if r_3 = 0 then (bd2 (f3_find N x1 x2 q) fun r_22 q_22 => if r_22 = 0 then (some ((-1 : Int32), q_22)) else (bd (f3_rowFound q_22 x3) fun r_33 => some (r_33, q_22))) else (some (r_3, q))
def f8_value_b45 (N : Nat) (x1 : Int32) (x2 : Int32) (x3 : Int32) (s0 : Int32) (q : SS) : Option (Int32 × SS) :=
  if s0 = 0 then (some ((-1 : Int32), q)) else (bd2 (f3_find N x1 x2 q) fun r_58 q_58 => if r_58 = 0 then (some ((-1 : Int32), q_58)) else (bd (f3_numberFound N q_58 x1 x3) fun r_70 => some (r_70, q_58)))
def f8_value (N : Nat) (x1 : Int32) (x2 : Int32) (x3 : Int32) (q : SS) : Option (Int32 × SS) :=
  bd (f7_isSet q x1) fun r_5 => if r_5 = 0 then (some ((-102 : Int32), q)) else (bd (f8_isLetter x3) fun r_15 => if r_15 = 0 then (some ((-101 : Int32), q)) else (bd (f7_lettersOfSet N q x1) fun r_29 => if ((jshr r_29 x3) &&& (1 : Int32)) = (1 : Int32) then (f8_value_b45 N x1 x2 x3 ((1 : Int32)) q) else (f8_value_b45 N x1 x2 x3 ((0 : Int32)) q)))
def f8_idle (N : Nat) (x1 : Int32) (x2 : Int32) (q : SS) : Option (Int32 × SS) :=
  bd (f8_refusalOfMember q x1 x2) fun r_3 => if r_3 = 0 then (bd2 (f3_idleRows N x1 x2 q) fun r_21 q_21 => some (r_21, q_21)) else (some (r_3, q))
def f8_letters_b67 (N : Nat) (bk5 : Int64 → Int32 → Int32 → SS → Option (Int32 × SS)) (x1 : Int64) (x3 : Int32) (x4 : Int32) (q : SS) : Option (Int32 × SS) :=
  bn (x4 + (1 : Int32)) fun x4_67 => bk5 x1 x3 x4_67 q
def f8_letters_b42 (N : Nat) (bk5 : Int64 → Int32 → Int32 → SS → Option (Int32 × SS)) (x1 : Int64) (x3 : Int32) (x4 : Int32) (x5 : Int32) (s0 : Int32) (q : SS) : Option (Int32 × SS) :=
  if (126 : Int32) < x5 then (some ((-102 : Int32), q)) else (if s0 = 0 then (if x5 = 0 then (f8_letters_b67 N bk5 x1 x3 x4 q) else (bn (x3 + (1 : Int32)) fun x3_64 => f8_letters_b67 N bk5 x1 x3_64 x4 q)) else (some ((-102 : Int32), q)))
def f8_letters_b41 (N : Nat) (bk5 : Int64 → Int32 → Int32 → SS → Option (Int32 × SS)) (x1 : Int64) (x3 : Int32) (x4 : Int32) (x5 : Int32) (q : SS) : Option (Int32 × SS) :=
  f8_letters_b42 N bk5 x1 x3 x4 x5 ((0 : Int32)) q
def f8_letters_l5_B (N : Nat) (bk5 : Int64 → Int32 → Int32 → SS → Option (Int32 × SS)) (x1 : Int64) (x3 : Int32) (x4 : Int32) (q : SS) : Option (Int32 × SS) :=
  if (8 : Int32) ≤ x4 then (bd2 (f6_append N x1 x3 q) fun r_79 q_79 => some (r_79, q_79)) else (bn (Int64.toInt32 ((jlushr x1 ((8 : Int32) * x4)) &&& (255 : Int64))) fun x5_24 => if x5_24 = 0 then (f8_letters_b41 N bk5 x1 x3 x4 x5_24 q) else (if x4 ≤ x3 then (f8_letters_b41 N bk5 x1 x3 x4 x5_24 q) else (f8_letters_b42 N bk5 x1 x3 x4 x5_24 ((1 : Int32)) q)))
def f8_letters_l5 (N : Nat) : Nat → Int64 → Int32 → Int32 → SS → Option (Int32 × SS)
  | 0 => fun _ _ _ _ => none
  | n + 1 => f8_letters_l5_B N (f8_letters_l5 N n)
def f8_letters (N : Nat) (x1 : Int64) (q : SS) : Option (Int32 × SS) :=
  f8_letters_l5 N N x1 ((0 : Int32)) ((0 : Int32)) q
def f8_blank (q : SS) : Option (Int32 × SS) :=
  bd2 (f6_wipe q) fun r_4 q_4 => some (r_4, q_4)
def f8_good (N : Nat) (q : SS) : Option (Int32 × SS) :=
  bd (f7_tablesMade q) fun r_8 => bd2 (f6_readable N r_8 q) fun r_11 q_11 => some (r_11, q_11)
def f8_plan (N : Nat) (x1 : Int32) (x2 : Int32) (q : SS) : Option (Int32 × SS) :=
  bd (f8_isBy x1) fun r_1 => if r_1 = 0 then (some ((-102 : Int32), q)) else (if x2 < 0 then (some ((-102 : Int32), q)) else (if x2 ≤ (3 : Int32) then (bd (f7_tablesMade q) fun r_27 => bd2 (f6_isPlan N r_27 q) fun r_30 q_30 => if r_30 = 0 then (some ((-103 : Int32), q_30)) else (bd (f6_length q_30) fun r_54 => bd (f2_read_v16 N r_54 x1 q_30) fun q_58 => if x2 = (0 : Int32) then (bd (f2_tablesRead q_58) fun r_92 => some (r_92, q_58)) else (if x2 = (1 : Int32) then (bd (f2_canBeDone q_58) fun r_100 => if r_100 = 0 then (some ((-2 : Int32), q_58)) else (bd (f2_costRead q_58) fun r_110 => some (r_110, q_58))) else (if x2 = (2 : Int32) then (bd (f2_canBeDone q_58) fun r_123 => if r_123 = 0 then (some ((-2 : Int32), q_58)) else (bd (f2_letterRead q_58) fun r_133 => some (r_133, q_58))) else (bd (f2_stepsRead q_58) fun r_146 => some (r_146, q_58)))))) else (some ((-102 : Int32), q))))
def f8_refusalOfChoice_b35 (q : SS) (x1 : Int32) (x3 : Int32) (x5 : Int32) (s0 : Int32) : Option Int32 :=
  bd (f7_isSet q x1) fun r_42 => if r_42 = 0 then (some (-102 : Int32)) else (if x5 = 0 then (some (-102 : Int32)) else (bd (f8_isBy x3) fun r_54 => if r_54 = 0 then (some (-102 : Int32)) else (if s0 = 0 then (some (-102 : Int32)) else (if (fi q 0) < (60 : Int32) then (some (0 : Int32)) else (some (-103 : Int32))))))
def f8_refusalOfChoice_b30 (q : SS) (x1 : Int32) (x3 : Int32) (x5 : Int32) : Option Int32 :=
  f8_refusalOfChoice_b35 q x1 x3 x5 ((1 : Int32))
def f8_refusalOfChoice_b14 (q : SS) (x1 : Int32) (x3 : Int32) (x4 : Int32) (s0 : Int32) : Option Int32 :=
  if x4 = (-1 : Int32) then (f8_refusalOfChoice_b30 q x1 x3 s0) else (bd (f8_isLetter x4) fun r_24 => if r_24 = 0 then (f8_refusalOfChoice_b35 q x1 x3 s0 ((0 : Int32))) else (f8_refusalOfChoice_b30 q x1 x3 s0))
def f8_refusalOfChoice_b9 (q : SS) (x1 : Int32) (x3 : Int32) (x4 : Int32) : Option Int32 :=
  f8_refusalOfChoice_b14 q x1 x3 x4 ((1 : Int32))
def f8_refusalOfChoice (q : SS) (x1 : Int32) (x2 : Int32) (x3 : Int32) (x4 : Int32) : Option Int32 :=
  if x2 = 0 then (f8_refusalOfChoice_b9 q x1 x3 x4) else (if x2 = (1 : Int32) then (f8_refusalOfChoice_b9 q x1 x3 x4) else (f8_refusalOfChoice_b14 q x1 x3 x4 ((0 : Int32))))
def f8_best (N : Nat) (x1 : Int32) (x2 : Int32) (x3 : Int32) (x4 : Int32) (q : SS) : Option (Int32 × SS) :=
  bd (f8_refusalOfChoice q x1 x2 x3 x4) fun r_6 => if r_6 = 0 then (bn (sf q 0 ((fi q 0) + (1 : Int32))) fun q_26 => bd (f0_choose N x1 x2 x3 q_26) fun q_36 => bd (f0_costFor q_36 x1 x4) fun r_46 => some (r_46, q_36)) else (some (r_6, q))
def f8_sign (N : Nat) (x1 : Int32) (x2 : Int32) (x3 : Int32) (x4 : Int32) (x5 : Int32) (q : SS) : Option (Int32 × SS) :=
  bd (f8_refusalOfChoice q x1 x2 x3 x4) fun r_6 => if r_6 = 0 then (bn (sf q 0 ((fi q 0) + (1 : Int32))) fun q_26 => bd (f0_choose N x1 x2 x3 q_26) fun q_36 => bd2 (f0_write N x1 x4 q_36) fun r_46 q_46 => bd (f0_signAt q_46 x5) fun r_56 => some (r_56, q_46)) else (some (r_6, q))
def f8_regret (N : Nat) (x1 : Int32) (x2 : Int32) (q : SS) : Option (Int32 × SS) :=
  bd (f8_refusalOfChoice q x1 x2 (0 : Int32) (-1 : Int32)) fun r_5 => if r_5 = 0 then (bn (sf q 0 ((fi q 0) + (1 : Int32))) fun q_22 => bd (f0_choose N x1 x2 (1 : Int32) q_22) fun q_32 => bd2 (f0_write N x1 (-1 : Int32) q_32) fun r_41 q_41 => bd (f2_read_v26 N r_41 (0 : Int32) q_41) fun q_60 => bd (f0_choose N x1 x2 (0 : Int32) q_60) fun q_70 => bd (f2_costRead q_70) fun r_77 => bd (f0_costFor q_70 x1 (-1 : Int32)) fun r_86 => some (r_77 - r_86, q_70)) else (some (r_5, q))
def f8_hangs (N : Nat) (x1 : Int32) (q : SS) : Option (Int32 × SS) :=
  bd (f7_isSet q x1) fun r_5 => if r_5 = 0 then (some ((-102 : Int32), q)) else (bd2 (f1_takeAway N x1 q) fun r_19 q_19 => if r_19 = 0 then (some ((0 : Int32), q_19)) else (some ((1 : Int32), q_19)))
def f8_goes (N : Nat) (x1 : Int32) (x2 : Int32) (q : SS) : Option (Int32 × SS) :=
  bd (f7_isSet q x1) fun r_5 => if r_5 = 0 then (some ((-102 : Int32), q)) else (bd2 (f1_takeAway N x1 q) fun r_19 q_19 => bd (f1_goneAt q_19 x2) fun r_28 => some (r_28, q_19))
def f8_on (N : Nat) (x1 : Int32) (x2 : Int32) (q : SS) : Option (Int32 × SS) :=
  bd (f8_refusalOfMember q x1 x2) fun r_3 => if r_3 = 0 then (bd2 (f1_takeAway N x1 q) fun r_18 q_18 => bd (f1_hookOf q_18 x2) fun r_27 => some (r_27, q_18)) else (some (r_3, q))
def f8_left (N : Nat) (x1 : Int32) (x2 : Int32) (q : SS) : Option (Int32 × SS) :=
  bd (f8_refusalOfMember q x1 x2) fun r_3 => if r_3 = 0 then (bd2 (f1_fullCut N x1 q) fun r_18 q_18 => if r_18 = 0 then (some ((-103 : Int32), q_18)) else (bd (f1_rowsLeft q_18 x2) fun r_29 => some (r_29, q_18))) else (some (r_3, q))
def f8_steps (N : Nat) (x1 : Int32) (q : SS) : Option (Int32 × SS) :=
  bd (f7_isSet q x1) fun r_5 => if r_5 = 0 then (some ((-102 : Int32), q)) else (bd2 (f1_fullCut N x1 q) fun r_19 q_19 => if r_19 = 0 then (some ((-103 : Int32), q_19)) else (bd (f1_rowsCut q_19) fun r_29 => some (r_29, q_19)))
def f8_cover (N : Nat) (q : SS) (x1 : Int32) : Option Int32 :=
  bd (f7_isSet q x1) fun r_5 => if r_5 = 0 then (some (-102 : Int32)) else (bd (f7_fewestThatCover N q x1) fun r_16 => some r_16)
def f8_count (N : Nat) (q : SS) (x1 : Int32) : Option Int32 :=
  if x1 = (0 : Int32) then (bd (f7_tablesMade q) fun r_40 => some r_40) else (if x1 = (1 : Int32) then (bd (f7_rowsOfAll N q) fun r_48 => some r_48) else (if x1 = (2 : Int32) then (bd (f6_length q) fun r_56 => some r_56) else (if x1 = (3 : Int32) then (bd (f7_allTables q) fun r_68 => bd (f7_lettersOfSet N q r_68) fun r_71 => bd (fJ6_bitCount r_71) fun r_74 => some r_74) else (if x1 = (4 : Int32) then (some (fi q 0)) else (some (-102 : Int32))))))
def f8_digestOfTable_b99 (N : Nat) (q : SS) (bk38 : Int32 → Int64 → Int32 → Option Int64) (bk54 : Int32 → Int64 → Int32 → Int32 → Option Int64) (x3 : Int32) (x4 : Int64) (x6 : Int32) (x7 : Int32) : Option Int64 :=
  bn (x7 + (1 : Int32)) fun x7_99 => bk54 x3 x4 x6 x7_99
def f8_digestOfTable_l54_B (N : Nat) (q : SS) (bk38 : Int32 → Int64 → Int32 → Option Int64) (bk54 : Int32 → Int64 → Int32 → Int32 → Option Int64) (x3 : Int32) (x4 : Int64) (x6 : Int32) (x7 : Int32) : Option Int64 :=
  if (8 : Int32) ≤ x7 then (bn (x6 + (1 : Int32)) fun x6_105 => bk38 x3 x4 x6_105) else (bd (f7_hasLetter q x3 x7) fun r_68 => if r_68 = 0 then (f8_digestOfTable_b99 N q bk38 bk54 x3 x4 x6 x7) else (bd (f7_codeAt q x3 x6) fun r_87 => bd (f4_numberIn r_87 x7) fun r_92 => bn (((31 : Int64) * x4) + (Int32.toInt64 r_92)) fun x4_97 => f8_digestOfTable_b99 N q bk38 bk54 x3 x4_97 x6 x7))
def f8_digestOfTable_l54 (N : Nat) (q : SS) (bk38 : Int32 → Int64 → Int32 → Option Int64) : Nat → Int32 → Int64 → Int32 → Int32 → Option Int64
  | 0 => fun _ _ _ _ => none
  | n + 1 => f8_digestOfTable_l54_B N q bk38 (f8_digestOfTable_l54 N q bk38 n)
def f8_digestOfTable_l38_B (N : Nat) (q : SS) (bk38 : Int32 → Int64 → Int32 → Option Int64) (x3 : Int32) (x4 : Int64) (x6 : Int32) : Option Int64 :=
  bd (f7_rowsOf q x3) fun r_45 => if r_45 ≤ x6 then (some x4) else (f8_digestOfTable_l54 N q bk38 N x3 x4 x6 ((0 : Int32)))
def f8_digestOfTable_l38 (N : Nat) (q : SS) : Nat → Int32 → Int64 → Int32 → Option Int64
  | 0 => fun _ _ _ => none
  | n + 1 => f8_digestOfTable_l38_B N q (f8_digestOfTable_l38 N q n)
def f8_digestOfTable_l6_B (N : Nat) (q : SS) (bk6 : Int32 → Int64 → Int32 → Option Int64) (x3 : Int32) (x4 : Int64) (x6 : Int32) : Option Int64 :=
  if (4 : Int32) < x6 then (f8_digestOfTable_l38 N q N x3 x4 ((0 : Int32))) else (bd (f8_about N q x3 x6) fun r_22 => bn (((31 : Int64) * x4) + (Int32.toInt64 r_22)) fun x4_27 => bn (x6 + (1 : Int32)) fun x6_29 => bk6 x3 x4_27 x6_29)
def f8_digestOfTable_l6 (N : Nat) (q : SS) : Nat → Int32 → Int64 → Int32 → Option Int64
  | 0 => fun _ _ _ => none
  | n + 1 => f8_digestOfTable_l6_B N q (f8_digestOfTable_l6 N q n)
def f8_digestOfTable (N : Nat) (q : SS) (x1 : Int64) (x3 : Int32) : Option Int64 :=
  f8_digestOfTable_l6 N q N x3 x1 ((0 : Int32))
def f8_digest_l167_B (N : Nat) (bk167 : Int64 → Int32 → SS → Option (Int64 × SS)) (x1 : Int64) (x4 : Int32) (q : SS) : Option (Int64 × SS) :=
  if (4 : Int32) < x4 then (some (x1, q)) else (bd (f8_count N q x4) fun r_181 => bn (((31 : Int64) * x1) + (Int32.toInt64 r_181)) fun x1_186 => bn (x4 + (1 : Int32)) fun x4_187 => bk167 x1_186 x4_187 q)
def f8_digest_l167 (N : Nat) : Nat → Int64 → Int32 → SS → Option (Int64 × SS)
  | 0 => fun _ _ _ => none
  | n + 1 => f8_digest_l167_B N (f8_digest_l167 N n)
def f8_digest_l129_B (N : Nat) (bk129 : Int64 → Int32 → SS → Option (Int64 × SS)) (x1 : Int64) (x4 : Int32) (q : SS) : Option (Int64 × SS) :=
  bd (f6_length q) fun r_135 => if r_135 ≤ x4 then (f8_digest_l167 N N x1 ((0 : Int32)) q) else (bd (f6_signAt q x4) fun r_152 => bn (((31 : Int64) * x1) + (Int32.toInt64 r_152)) fun x1_157 => bn (x4 + (1 : Int32)) fun x4_158 => bk129 x1_157 x4_158 q)
def f8_digest_l129 (N : Nat) : Nat → Int64 → Int32 → SS → Option (Int64 × SS)
  | 0 => fun _ _ _ => none
  | n + 1 => f8_digest_l129_B N (f8_digest_l129 N n)
def f8_digest_b126 (N : Nat) (x1 : Int64) (q : SS) : Option (Int64 × SS) :=
  f8_digest_l129 N N x1 ((0 : Int32)) q
def f8_digest_l6_B (N : Nat) (bk6 : Int64 → Int32 → SS → Option (Int64 × SS)) (x1 : Int64) (x3 : Int32) (q : SS) : Option (Int64 × SS) :=
  bd (f7_tablesMade q) fun r_11 => if r_11 ≤ x3 then (bd (f7_wide q) fun r_39 => bn (((31 : Int64) * x1) + (Int32.toInt64 r_39)) fun x1_44 => bd (f7_memory q) fun r_54 => bn (((31 : Int64) * x1_44) + (Int32.toInt64 r_54)) fun x1_59 => bd (f7_allTables q) fun r_64 => if r_64 = 0 then (f8_digest_b126 N x1_59 q) else (bd2 (f8_size N r_64 (0 : Int32) q) fun r_80 q_80 => bn (((31 : Int64) * x1_59) + (Int32.toInt64 r_80)) fun x1_85 => bd2 (f8_size N r_64 (1 : Int32) q_80) fun r_94 q_94 => bn (((31 : Int64) * x1_85) + (Int32.toInt64 r_94)) fun x1_99 => bd2 (f8_hangs N r_64 q_94) fun r_107 q_107 => bn (((31 : Int64) * x1_99) + (Int32.toInt64 r_107)) fun x1_112 => bd (f8_cover N q_107 r_64) fun r_120 => bn (((31 : Int64) * x1_112) + (Int32.toInt64 r_120)) fun x1_125 => f8_digest_b126 N x1_125 q_107)) else (bd (f8_digestOfTable N q x1 x3) fun r_20 => bn (x3 + (1 : Int32)) fun x3_24 => bk6 r_20 x3_24 q)
def f8_digest_l6 (N : Nat) : Nat → Int64 → Int32 → SS → Option (Int64 × SS)
  | 0 => fun _ _ _ => none
  | n + 1 => f8_digest_l6_B N (f8_digest_l6 N n)
def f8_digest (N : Nat) (q : SS) : Option (Int64 × SS) :=
  f8_digest_l6 N N ((269 : Int64)) ((0 : Int32)) q
