def f9_in (x0 : Int64) (x2 : Int64) (x4 : Int64) : Option Int32 :=
  if x0 < x2 then (some (0 : Int32)) else (if x4 < x0 then (some (0 : Int32)) else (some (1 : Int32)))
def f9_up (x0 : Int32) (x1 : Int32) : Option Int32 :=
  dz x1 (some (((x0 + x1) - (1 : Int32)) / x1))
def f9_bitsOf_l4_B (N : Nat) (bk4 : Int32 → Int32 → Int32 → Option Int32) (x0 : Int32) (x1 : Int32) (x2 : Int32) : Option Int32 :=
  if (8 : Int32) ≤ x2 then (some x1) else (bn (x1 + ((jshr x0 x2) &&& (1 : Int32))) fun x1_17 => bn (x2 + (1 : Int32)) fun x2_18 => bk4 x0 x1_17 x2_18)
def f9_bitsOf_l4 (N : Nat) : Nat → Int32 → Int32 → Int32 → Option Int32
  | 0 => fun _ _ _ => none
  | n + 1 => f9_bitsOf_l4_B N (f9_bitsOf_l4 N n)
def f9_bitsOf (N : Nat) (x0 : Int32) : Option Int32 :=
  f9_bitsOf_l4 N N x0 ((0 : Int32)) ((0 : Int32))
def f9_isTable (q : SS) (x1 : Int32) : Option Int32 :=
  bd (f9_in (Int32.toInt64 x1) (0 : Int64) (Int32.toInt64 ((fi q 0) - (1 : Int32)))) fun r_10 => cz r_10 (some r_10)
def f9_has (q : SS) (x1 : Int32) (x2 : Int32) : Option Int32 :=
  ck x1 6 (if ((jshr (ar q 1 (ix x1)) x2) &&& (1 : Int32)) = (1 : Int32) then (some (1 : Int32)) else (some (0 : Int32)))
def f9_table (N : Nat) (x1 : Int32) (x2 : Int32) (q : SS) : Option (Int32 × SS) :=
  bd (f9_in (Int32.toInt64 x1) (1 : Int64) (255 : Int64)) fun r_6 => if r_6 = 0 then (some ((-102 : Int32), q)) else (bd (f9_bitsOf N x1) fun r_13 => if (3 : Int32) < r_13 then (some ((-102 : Int32), q)) else (bd (f9_in (Int32.toInt64 x2) (1 : Int64) (4 : Int64)) fun r_26 => if r_26 = 0 then (some ((-102 : Int32), q)) else (if (fi q 0) = (6 : Int32) then (some ((-104 : Int32), q)) else (ck (fi q 0) 6 (bn (sa q 1 (ix (fi q 0)) x1) fun q_56 => ck (fi q_56 0) 6 (bn (sa q_56 2 (ix (fi q_56 0)) x2) fun q_66 => bn (sf q_66 0 ((fi q_66 0) + (1 : Int32))) fun q_74 => bn (sf q_74 3 (0 : Int32)) fun q_79 => some ((fi q_79 0) - (1 : Int32), q_79)))))))
def f9_letterAt_b35 (N : Nat) (q : SS) (bk5 : Int32 → Int32 → Int32 → Option Int32) (x1 : Int32) (x4 : Int32) (s0 : Int32) (s1 : Int32) : Option Int32 :=
  bn (s1 - s0) fun x3_36 => bn (x4 + (1 : Int32)) fun x4_37 => bk5 x1 x3_36 x4_37
def f9_letterAt_b19 (N : Nat) (q : SS) (bk5 : Int32 → Int32 → Int32 → Option Int32) (x1 : Int32) (x3 : Int32) (x4 : Int32) : Option Int32 :=
  bd (f9_has q x1 x4) fun r_24 => if r_24 = 0 then (f9_letterAt_b35 N q bk5 x1 x4 ((0 : Int32)) x3) else (f9_letterAt_b35 N q bk5 x1 x4 ((1 : Int32)) x3)
def f9_letterAt_l5_B (N : Nat) (q : SS) (bk5 : Int32 → Int32 → Int32 → Option Int32) (x1 : Int32) (x3 : Int32) (x4 : Int32) : Option Int32 :=
  bd (f9_has q x1 x4) fun r_9 => if r_9 = 0 then (f9_letterAt_b19 N q bk5 x1 x3 x4) else (if x3 ≤ 0 then (some x4) else (f9_letterAt_b19 N q bk5 x1 x3 x4))
def f9_letterAt_l5 (N : Nat) (q : SS) : Nat → Int32 → Int32 → Int32 → Option Int32
  | 0 => fun _ _ _ => none
  | n + 1 => f9_letterAt_l5_B N q (f9_letterAt_l5 N q n)
def f9_letterAt (N : Nat) (q : SS) (x1 : Int32) (x2 : Int32) : Option Int32 :=
  f9_letterAt_l5 N q N x1 x2 ((0 : Int32))
def f9_lay_b68 (N : Nat) (bk14 : Int32 → Int32 → Int32 → Int32 → Int32 → Int32 → SS → Option SS) (x1 : Int32) (x2 : Int32) (x3 : Int32) (x4 : Int32) (x5 : Int32) (x6 : Int32) (s0 : Int32) (s1 : Int32) (q : SS) : Option SS :=
  ck s1 384 (bn (sa q 4 (ix s1) s0) fun q_68 => bn (x6 + (1 : Int32)) fun x6_69 => bk14 x1 x2 x3 x4 x5 x6_69 q_68)
def f9_lay_l14_B (N : Nat) (bk14 : Int32 → Int32 → Int32 → Int32 → Int32 → Int32 → SS → Option SS) (x1 : Int32) (x2 : Int32) (x3 : Int32) (x4 : Int32) (x5 : Int32) (x6 : Int32) (q : SS) : Option SS :=
  if x5 ≤ x6 then (ck x1 6 (ck x1 6 (bn (sa q 3 (ix x1) ((ar q 3 (ix x1)) + (1 : Int32))) fun q_84 => bn (sf q_84 3 (0 : Int32)) fun q_87 => some q_87))) else (ck x1 6 (bd (f9_letterAt N q x1 x6) fun r_43 => if x6 = 0 then (f9_lay_b68 N bk14 x1 x2 x3 x4 x5 x6 x2 ((((64 : Int32) * x1) + ((8 : Int32) * (ar q 3 (ix x1)))) + r_43) q) else (if x6 = (1 : Int32) then (f9_lay_b68 N bk14 x1 x2 x3 x4 x5 x6 x3 ((((64 : Int32) * x1) + ((8 : Int32) * (ar q 3 (ix x1)))) + r_43) q) else (f9_lay_b68 N bk14 x1 x2 x3 x4 x5 x6 x4 ((((64 : Int32) * x1) + ((8 : Int32) * (ar q 3 (ix x1)))) + r_43) q))))
def f9_lay_l14 (N : Nat) : Nat → Int32 → Int32 → Int32 → Int32 → Int32 → Int32 → SS → Option SS
  | 0 => fun _ _ _ _ _ _ _ => none
  | n + 1 => f9_lay_l14_B N (f9_lay_l14 N n)
def f9_lay (N : Nat) (x1 : Int32) (x2 : Int32) (x3 : Int32) (x4 : Int32) (q : SS) : Option SS :=
  ck x1 6 (bd (f9_bitsOf N (ar q 1 (ix x1))) fun r_6 => f9_lay_l14 N N x1 x2 x3 x4 r_6 ((0 : Int32)) q)
def f9_row_b73 (N : Nat) (x1 : Int32) (x2 : Int32) (x3 : Int32) (x4 : Int32) (s0 : Int64) (s1 : Int64) (s2 : Int64) (q : SS) : Option (Int32 × SS) :=
  bd (f9_in s2 s1 s0) fun r_73 => if r_73 = 0 then (some ((-102 : Int32), q)) else (ck x1 6 (if (ar q 3 (ix x1)) = (8 : Int32) then (some ((-104 : Int32), q)) else (bd (f9_lay N x1 x2 x3 x4 q) fun q_102 => ck x1 6 (some (ar q_102 3 (ix x1), q_102)))))
def f9_row_b50 (N : Nat) (x1 : Int32) (x2 : Int32) (x3 : Int32) (x4 : Int32) (x5 : Int32) (s0 : Int64) (s1 : Int64) (s2 : Int64) (q : SS) : Option (Int32 × SS) :=
  bd (f9_in s2 s1 s0) fun r_50 => if r_50 = 0 then (some ((-102 : Int32), q)) else (if x5 ≤ (2 : Int32) then (f9_row_b73 N x1 x2 x3 x4 ((0 : Int64)) ((0 : Int64)) (Int32.toInt64 x4) q) else (f9_row_b73 N x1 x2 x3 x4 ((9 : Int64)) ((0 : Int64)) (Int32.toInt64 x4) q))
def f9_row (N : Nat) (x1 : Int32) (x2 : Int32) (x3 : Int32) (x4 : Int32) (q : SS) : Option (Int32 × SS) :=
  bd (f9_isTable q x1) fun r_2 => if r_2 = 0 then (some ((-101 : Int32), q)) else (ck x1 6 (bd (f9_bitsOf N (ar q 1 (ix x1))) fun r_17 => bd (f9_in (Int32.toInt64 x2) (0 : Int64) (9 : Int64)) fun r_28 => if r_28 = 0 then (some ((-102 : Int32), q)) else (if r_17 ≤ (1 : Int32) then (f9_row_b50 N x1 x2 x3 x4 r_17 ((0 : Int64)) ((0 : Int64)) (Int32.toInt64 x3) q) else (f9_row_b50 N x1 x2 x3 x4 r_17 ((9 : Int64)) ((0 : Int64)) (Int32.toInt64 x3) q))))
def f9_fill_l81_B (N : Nat) (bk61 : Int32 → Int32 → Int32 → Int64 → Int32 → Int32 → SS → Option (Int32 × SS)) (bk81 : Int32 → Int32 → Int32 → Int64 → Int32 → Int32 → Int32 → SS → Option (Int32 × SS)) (x1 : Int32) (x3 : Int32) (x4 : Int32) (x5 : Int64) (x7 : Int32) (x8 : Int32) (x9 : Int32) (q : SS) : Option (Int32 × SS) :=
  if x8 ≤ x9 then (bd (f9_lay N x1 (ar q 5 (ix (0 : Int32))) (ar q 5 (ix (1 : Int32))) (ar q 5 (ix (2 : Int32))) q) fun q_148 => bn (x7 + (1 : Int32)) fun x7_151 => bk61 x1 x3 x4 x5 x7_151 x8 q_148) else (bn ((((1103515245 : Int64) * x5) + (12345 : Int64)) &&& (2147483647 : Int64)) fun x5_102 => dzl (Int32.toInt64 x4) (ck x9 3 (bn (sa q 5 (ix x9) (Int64.toInt32 (jlrem (x5_102 / (65536 : Int64)) (Int32.toInt64 x4)))) fun q_121 => bn (x9 + (1 : Int32)) fun x9_122 => bk81 x1 x3 x4 x5_102 x7 x8 x9_122 q_121)))
def f9_fill_l81 (N : Nat) (bk61 : Int32 → Int32 → Int32 → Int64 → Int32 → Int32 → SS → Option (Int32 × SS)) : Nat → Int32 → Int32 → Int32 → Int64 → Int32 → Int32 → Int32 → SS → Option (Int32 × SS)
  | 0 => fun _ _ _ _ _ _ _ _ => none
  | n + 1 => f9_fill_l81_B N bk61 (f9_fill_l81 N bk61 n)
def f9_fill_l61_B (N : Nat) (bk61 : Int32 → Int32 → Int32 → Int64 → Int32 → Int32 → SS → Option (Int32 × SS)) (x1 : Int32) (x3 : Int32) (x4 : Int32) (x5 : Int64) (x7 : Int32) (x8 : Int32) (q : SS) : Option (Int32 × SS) :=
  if x3 ≤ x7 then (some (x7, q)) else (ck x1 6 (if (8 : Int32) ≤ (ar q 3 (ix x1)) then (some (x7, q)) else (f9_fill_l81 N bk61 N x1 x3 x4 x5 x7 x8 ((0 : Int32)) q)))
def f9_fill_l61 (N : Nat) : Nat → Int32 → Int32 → Int32 → Int64 → Int32 → Int32 → SS → Option (Int32 × SS)
  | 0 => fun _ _ _ _ _ _ _ => none
  | n + 1 => f9_fill_l61_B N (f9_fill_l61 N n)
def f9_fill (N : Nat) (x1 : Int32) (x2 : Int32) (x3 : Int32) (x4 : Int32) (q : SS) : Option (Int32 × SS) :=
  bd (f9_isTable q x1) fun r_2 => if r_2 = 0 then (some ((-101 : Int32), q)) else (if x2 < 0 then (some ((-102 : Int32), q)) else (bd (f9_in (Int32.toInt64 x3) (1 : Int64) (8 : Int64)) fun r_21 => if r_21 = 0 then (some ((-102 : Int32), q)) else (bd (f9_in (Int32.toInt64 x4) (1 : Int64) (10 : Int64)) fun r_34 => if r_34 = 0 then (some ((-102 : Int32), q)) else (bn (Int32.toInt64 x2) fun x5_45 => ck x1 6 (bd (f9_bitsOf N (ar q 1 (ix x1))) fun r_56 => f9_fill_l61 N N x1 x3 x4 x5_45 ((0 : Int32)) r_56 q)))))
def f9_isRow (q : SS) (x1 : Int32) (x2 : Int32) : Option Int32 :=
  bd (f9_isTable q x1) fun r_2 => if r_2 = 0 then (some (0 : Int32)) else (ck x1 6 (bd (f9_in (Int32.toInt64 x2) (0 : Int64) (Int32.toInt64 ((ar q 3 (ix x1)) - (1 : Int32)))) fun r_20 => if r_20 = 0 then (some (0 : Int32)) else (some (1 : Int32))))
def f9_drop_l37_B (N : Nat) (bk24 : Int32 → Int32 → SS → Option (Int32 × SS)) (bk37 : Int32 → Int32 → Int32 → SS → Option (Int32 × SS)) (x1 : Int32) (x3 : Int32) (x4 : Int32) (q : SS) : Option (Int32 × SS) :=
  if (8 : Int32) ≤ x4 then (bn (x3 + (1 : Int32)) fun x3_87 => bk24 x1 x3_87 q) else (ck (((((64 : Int32) * x1) + ((8 : Int32) * x3)) + (8 : Int32)) + x4) 384 (ck ((((64 : Int32) * x1) + ((8 : Int32) * x3)) + x4) 384 (bn (sa q 4 (ix ((((64 : Int32) * x1) + ((8 : Int32) * x3)) + x4)) (ar q 4 (ix (((((64 : Int32) * x1) + ((8 : Int32) * x3)) + (8 : Int32)) + x4)))) fun q_80 => bn (x4 + (1 : Int32)) fun x4_81 => bk37 x1 x3 x4_81 q_80)))
def f9_drop_l37 (N : Nat) (bk24 : Int32 → Int32 → SS → Option (Int32 × SS)) : Nat → Int32 → Int32 → Int32 → SS → Option (Int32 × SS)
  | 0 => fun _ _ _ _ => none
  | n + 1 => f9_drop_l37_B N bk24 (f9_drop_l37 N bk24 n)
def f9_drop_l24_B (N : Nat) (bk24 : Int32 → Int32 → SS → Option (Int32 × SS)) (x1 : Int32) (x3 : Int32) (q : SS) : Option (Int32 × SS) :=
  ck x1 6 (if (ar q 3 (ix x1)) ≤ x3 then (bn (sf q 3 (0 : Int32)) fun q_95 => ck x1 6 (some (ar q_95 3 (ix x1), q_95))) else (f9_drop_l37 N bk24 N x1 x3 ((0 : Int32)) q))
def f9_drop_l24 (N : Nat) : Nat → Int32 → Int32 → SS → Option (Int32 × SS)
  | 0 => fun _ _ _ => none
  | n + 1 => f9_drop_l24_B N (f9_drop_l24 N n)
def f9_drop (N : Nat) (x1 : Int32) (x2 : Int32) (q : SS) : Option (Int32 × SS) :=
  bd (f9_isRow q x1 x2) fun r_3 => if r_3 = 0 then (some ((-101 : Int32), q)) else (ck x1 6 (ck x1 6 (bn (sa q 3 (ix x1) ((ar q 3 (ix x1)) - (1 : Int32))) fun q_21 => f9_drop_l24 N N x1 x2 q_21)))
def f9_sort_l208_B (N : Nat) (bk174 : Int32 → Int32 → Int32 → SS → Option (Int32 × SS)) (bk208 : Int32 → Int32 → Int32 → Int32 → SS → Option (Int32 × SS)) (x1 : Int32) (x3 : Int32) (x4 : Int32) (x5 : Int32) (q : SS) : Option (Int32 × SS) :=
  if (8 : Int32) ≤ x5 then (bn (x4 + (1 : Int32)) fun x4_257 => bk174 x1 x3 x4_257 q) else (ck x4 8 (ck (((8 : Int32) * (ar q 6 (ix x4))) + x5) 64 (ck ((((64 : Int32) * x1) + ((8 : Int32) * x4)) + x5) 384 (bn (sa q 4 (ix ((((64 : Int32) * x1) + ((8 : Int32) * x4)) + x5)) (ar q 7 (ix (((8 : Int32) * (ar q 6 (ix x4))) + x5)))) fun q_250 => bn (x5 + (1 : Int32)) fun x5_251 => bk208 x1 x3 x4 x5_251 q_250))))
def f9_sort_l208 (N : Nat) (bk174 : Int32 → Int32 → Int32 → SS → Option (Int32 × SS)) : Nat → Int32 → Int32 → Int32 → Int32 → SS → Option (Int32 × SS)
  | 0 => fun _ _ _ _ _ => none
  | n + 1 => f9_sort_l208_B N bk174 (f9_sort_l208 N bk174 n)
def f9_sort_b203 (N : Nat) (bk174 : Int32 → Int32 → Int32 → SS → Option (Int32 × SS)) (x1 : Int32) (x4 : Int32) (s0 : Int32) (s1 : Int32) (q : SS) : Option (Int32 × SS) :=
  bn (s1 + s0) fun x3_204 => f9_sort_l208 N bk174 N x1 x3_204 x4 ((0 : Int32)) q
def f9_sort_l174_B (N : Nat) (bk174 : Int32 → Int32 → Int32 → SS → Option (Int32 × SS)) (x1 : Int32) (x3 : Int32) (x4 : Int32) (q : SS) : Option (Int32 × SS) :=
  ck x1 6 (if (ar q 3 (ix x1)) ≤ x4 then (bn (sf q 3 (0 : Int32)) fun q_265 => some (x3, q_265)) else (ck x4 8 (if (ar q 6 (ix x4)) = x4 then (f9_sort_b203 N bk174 x1 x4 ((0 : Int32)) x3 q) else (f9_sort_b203 N bk174 x1 x4 ((1 : Int32)) x3 q))))
def f9_sort_l174 (N : Nat) : Nat → Int32 → Int32 → Int32 → SS → Option (Int32 × SS)
  | 0 => fun _ _ _ _ => none
  | n + 1 => f9_sort_l174_B N (f9_sort_l174 N n)
def f9_sort_l139_B (N : Nat) (bk139 : Int32 → Int32 → Int32 → SS → Option (Int32 × SS)) (x1 : Int32) (x3 : Int32) (x4 : Int32) (q : SS) : Option (Int32 × SS) :=
  if (64 : Int32) ≤ x4 then (f9_sort_l174 N N x1 x3 ((0 : Int32)) q) else (ck (((64 : Int32) * x1) + x4) 384 (ck x4 64 (bn (sa q 7 (ix x4) (ar q 4 (ix (((64 : Int32) * x1) + x4)))) fun q_164 => bn (x4 + (1 : Int32)) fun x4_165 => bk139 x1 x3 x4_165 q_164)))
def f9_sort_l139 (N : Nat) : Nat → Int32 → Int32 → Int32 → SS → Option (Int32 × SS)
  | 0 => fun _ _ _ _ => none
  | n + 1 => f9_sort_l139_B N (f9_sort_l139 N n)
def f9_sort_b120 (N : Nat) (bk37 : Int32 → Int32 → Int32 → SS → Option (Int32 × SS)) (x1 : Int32) (x2 : Int32) (x3 : Int32) (x4 : Int32) (q : SS) : Option (Int32 × SS) :=
  ck x4 8 (bn (sa q 6 (ix x4) x3) fun q_127 => bn (x3 + (1 : Int32)) fun x3_128 => bk37 x1 x2 x3_128 q_127)
def f9_sort_l50_B (N : Nat) (bk37 : Int32 → Int32 → Int32 → SS → Option (Int32 × SS)) (bk50 : Int32 → Int32 → Int32 → Int32 → SS → Option (Int32 × SS)) (x1 : Int32) (x2 : Int32) (x3 : Int32) (x4 : Int32) (q : SS) : Option (Int32 × SS) :=
  if x4 ≤ 0 then (f9_sort_b120 N bk37 x1 x2 x3 x4 q) else (ck ((((64 : Int32) * x1) + ((8 : Int32) * x3)) + x2) 384 (ck (x4 - (1 : Int32)) 8 (ck ((((64 : Int32) * x1) + ((8 : Int32) * (ar q 6 (ix (x4 - (1 : Int32)))))) + x2) 384 (if (ar q 4 (ix ((((64 : Int32) * x1) + ((8 : Int32) * (ar q 6 (ix (x4 - (1 : Int32)))))) + x2))) ≤ (ar q 4 (ix ((((64 : Int32) * x1) + ((8 : Int32) * x3)) + x2))) then (f9_sort_b120 N bk37 x1 x2 x3 x4 q) else (ck (x4 - (1 : Int32)) 8 (ck x4 8 (bn (sa q 6 (ix x4) (ar q 6 (ix (x4 - (1 : Int32))))) fun q_113 => bn (x4 + (-1 : Int32)) fun x4_114 => bk50 x1 x2 x3 x4_114 q_113)))))))
def f9_sort_l50 (N : Nat) (bk37 : Int32 → Int32 → Int32 → SS → Option (Int32 × SS)) : Nat → Int32 → Int32 → Int32 → Int32 → SS → Option (Int32 × SS)
  | 0 => fun _ _ _ _ _ => none
  | n + 1 => f9_sort_l50_B N bk37 (f9_sort_l50 N bk37 n)
def f9_sort_l37_B (N : Nat) (bk37 : Int32 → Int32 → Int32 → SS → Option (Int32 × SS)) (x1 : Int32) (x2 : Int32) (x3 : Int32) (q : SS) : Option (Int32 × SS) :=
  ck x1 6 (if (ar q 3 (ix x1)) ≤ x3 then (f9_sort_l139 N N x1 ((0 : Int32)) ((0 : Int32)) q) else (f9_sort_l50 N bk37 N x1 x2 x3 x3 q))
def f9_sort_l37 (N : Nat) : Nat → Int32 → Int32 → Int32 → SS → Option (Int32 × SS)
  | 0 => fun _ _ _ _ => none
  | n + 1 => f9_sort_l37_B N (f9_sort_l37 N n)
def f9_sort (N : Nat) (x1 : Int32) (x2 : Int32) (q : SS) : Option (Int32 × SS) :=
  bd (f9_isTable q x1) fun r_2 => if r_2 = 0 then (some ((-101 : Int32), q)) else (bd (f9_in (Int32.toInt64 x2) (0 : Int64) (7 : Int64)) fun r_17 => if r_17 = 0 then (some ((-102 : Int32), q)) else (bd (f9_has q x1 x2) fun r_26 => if r_26 = 0 then (some ((-102 : Int32), q)) else (f9_sort_l37 N N x1 x2 ((0 : Int32)) q)))
def f9_get (q : SS) (x1 : Int32) (x2 : Int32) (x3 : Int32) : Option Int32 :=
  bd (f9_isRow q x1 x2) fun r_3 => if r_3 = 0 then (some (-101 : Int32)) else (bd (f9_in (Int32.toInt64 x3) (0 : Int64) (7 : Int64)) fun r_15 => if r_15 = 0 then (some (-101 : Int32)) else (bd (f9_has q x1 x3) fun r_27 => if r_27 = 0 then (some (-1 : Int32)) else (ck ((((64 : Int32) * x1) + ((8 : Int32) * x2)) + x3) 384 (some (ar q 4 (ix ((((64 : Int32) * x1) + ((8 : Int32) * x2)) + x3)))))))
def f9_sortedBy_b78 (N : Nat) (q : SS) (bk2 : Int32 → Int32 → Option Int32) (bk18 : Int32 → Int32 → Int32 → Int32 → Option Int32) (x1 : Int32) (x2 : Int32) (x4 : Int32) (s0 : Int32) : Option Int32 :=
  bn (x4 + (1 : Int32)) fun x4_79 => bk18 x1 x2 s0 x4_79
def f9_sortedBy_b77 (N : Nat) (q : SS) (bk2 : Int32 → Int32 → Option Int32) (bk18 : Int32 → Int32 → Int32 → Int32 → Option Int32) (x1 : Int32) (x2 : Int32) (x4 : Int32) : Option Int32 :=
  f9_sortedBy_b78 N q bk2 bk18 x1 x2 x4 ((0 : Int32))
def f9_sortedBy_l18_B (N : Nat) (q : SS) (bk2 : Int32 → Int32 → Option Int32) (bk18 : Int32 → Int32 → Int32 → Int32 → Option Int32) (x1 : Int32) (x2 : Int32) (x3 : Int32) (x4 : Int32) : Option Int32 :=
  ck x1 6 (if (ar q 3 (ix x1)) ≤ x4 then (if x3 = 0 then (bn (x2 + (1 : Int32)) fun x2_91 => bk2 x1 x2_91) else (some x2)) else (if x3 = 0 then (f9_sortedBy_b77 N q bk2 bk18 x1 x2 x4) else (ck ((((64 : Int32) * x1) + ((8 : Int32) * x4)) + x2) 384 (ck (((((64 : Int32) * x1) + ((8 : Int32) * x4)) - (8 : Int32)) + x2) 384 (if (ar q 4 (ix ((((64 : Int32) * x1) + ((8 : Int32) * x4)) + x2))) < (ar q 4 (ix (((((64 : Int32) * x1) + ((8 : Int32) * x4)) - (8 : Int32)) + x2))) then (f9_sortedBy_b77 N q bk2 bk18 x1 x2 x4) else (f9_sortedBy_b78 N q bk2 bk18 x1 x2 x4 ((1 : Int32))))))))
def f9_sortedBy_l18 (N : Nat) (q : SS) (bk2 : Int32 → Int32 → Option Int32) : Nat → Int32 → Int32 → Int32 → Int32 → Option Int32
  | 0 => fun _ _ _ _ => none
  | n + 1 => f9_sortedBy_l18_B N q bk2 (f9_sortedBy_l18 N q bk2 n)
def f9_sortedBy_l2_B (N : Nat) (q : SS) (bk2 : Int32 → Int32 → Option Int32) (x1 : Int32) (x2 : Int32) : Option Int32 :=
  if (8 : Int32) ≤ x2 then (some (-1 : Int32)) else (bd (f9_has q x1 x2) fun r_11 => f9_sortedBy_l18 N q bk2 N x1 x2 r_11 ((1 : Int32)))
def f9_sortedBy_l2 (N : Nat) (q : SS) : Nat → Int32 → Int32 → Option Int32
  | 0 => fun _ _ => none
  | n + 1 => f9_sortedBy_l2_B N q (f9_sortedBy_l2 N q n)
def f9_sortedBy (N : Nat) (q : SS) (x1 : Int32) : Option Int32 :=
  f9_sortedBy_l2 N q N x1 ((0 : Int32))
def f9_aboutOf (N : Nat) (q : SS) (x1 : Int32) (x2 : Int32) : Option Int32 :=
  if x2 = (0 : Int32) then (ck x1 6 (some (ar q 1 (ix x1)))) else (if x2 = (1 : Int32) then (ck x1 6 (some (ar q 2 (ix x1)))) else (if x2 = (2 : Int32) then (ck x1 6 (some (ar q 3 (ix x1)))) else (if x2 = (3 : Int32) then (ck x1 6 (ck x1 6 (bd (f9_up (ar q 3 (ix x1)) (ar q 2 (ix x1))) fun r_69 => some r_69))) else (if x2 = (4 : Int32) then (bd (f9_sortedBy N q x1) fun r_75 => some r_75) else (some (-102 : Int32))))))
def f9_about (N : Nat) (q : SS) (x1 : Int32) (x2 : Int32) : Option Int32 :=
  bd (f9_isTable q x1) fun r_2 => if r_2 = 0 then (some (-101 : Int32)) else (bd (f9_aboutOf N q x1 x2) fun r_11 => some r_11)
def f9_unlikeOf_b95 (N : Nat) (q : SS) (bk5 : Int32 → Int32 → Int32 → Int32 → Option Int32) (x1 : Int32) (x2 : Int32) (x4 : Int32) (s0 : Int32) (s1 : Int32) : Option Int32 :=
  bn (s1 + s0) fun x3_96 => bn (x4 + (1 : Int32)) fun x4_97 => bk5 x1 x2 x3_96 x4_97
def f9_unlikeOf_b76 (N : Nat) (q : SS) (bk5 : Int32 → Int32 → Int32 → Int32 → Option Int32) (bk22 : Int32 → Int32 → Int32 → Int32 → Int32 → Int32 → Option Int32) (x1 : Int32) (x2 : Int32) (x3 : Int32) (x4 : Int32) (x6 : Int32) (s0 : Int32) : Option Int32 :=
  bn (x6 + (1 : Int32)) fun x6_78 => bk22 x1 x2 x3 x4 s0 x6_78
def f9_unlikeOf_b75 (N : Nat) (q : SS) (bk5 : Int32 → Int32 → Int32 → Int32 → Option Int32) (bk22 : Int32 → Int32 → Int32 → Int32 → Int32 → Int32 → Option Int32) (x1 : Int32) (x2 : Int32) (x3 : Int32) (x4 : Int32) (x6 : Int32) : Option Int32 :=
  f9_unlikeOf_b76 N q bk5 bk22 x1 x2 x3 x4 x6 ((0 : Int32))
def f9_unlikeOf_l22_B (N : Nat) (q : SS) (bk5 : Int32 → Int32 → Int32 → Int32 → Option Int32) (bk22 : Int32 → Int32 → Int32 → Int32 → Int32 → Int32 → Option Int32) (x1 : Int32) (x2 : Int32) (x3 : Int32) (x4 : Int32) (x5 : Int32) (x6 : Int32) : Option Int32 :=
  if x4 ≤ x6 then (if x5 = 0 then (f9_unlikeOf_b95 N q bk5 x1 x2 x4 ((0 : Int32)) x3) else (f9_unlikeOf_b95 N q bk5 x1 x2 x4 ((1 : Int32)) x3)) else (if x5 = 0 then (f9_unlikeOf_b75 N q bk5 bk22 x1 x2 x3 x4 x6) else (ck ((((64 : Int32) * x1) + ((8 : Int32) * x6)) + x2) 384 (ck ((((64 : Int32) * x1) + ((8 : Int32) * x4)) + x2) 384 (if (ar q 4 (ix ((((64 : Int32) * x1) + ((8 : Int32) * x6)) + x2))) = (ar q 4 (ix ((((64 : Int32) * x1) + ((8 : Int32) * x4)) + x2))) then (f9_unlikeOf_b75 N q bk5 bk22 x1 x2 x3 x4 x6) else (f9_unlikeOf_b76 N q bk5 bk22 x1 x2 x3 x4 x6 ((1 : Int32)))))))
def f9_unlikeOf_l22 (N : Nat) (q : SS) (bk5 : Int32 → Int32 → Int32 → Int32 → Option Int32) : Nat → Int32 → Int32 → Int32 → Int32 → Int32 → Int32 → Option Int32
  | 0 => fun _ _ _ _ _ _ => none
  | n + 1 => f9_unlikeOf_l22_B N q bk5 (f9_unlikeOf_l22 N q bk5 n)
def f9_unlikeOf_l5_B (N : Nat) (q : SS) (bk5 : Int32 → Int32 → Int32 → Int32 → Option Int32) (x1 : Int32) (x2 : Int32) (x3 : Int32) (x4 : Int32) : Option Int32 :=
  ck x1 6 (if (ar q 3 (ix x1)) ≤ x4 then (some x3) else (f9_unlikeOf_l22 N q bk5 N x1 x2 x3 x4 ((1 : Int32)) ((0 : Int32))))
def f9_unlikeOf_l5 (N : Nat) (q : SS) : Nat → Int32 → Int32 → Int32 → Int32 → Option Int32
  | 0 => fun _ _ _ _ => none
  | n + 1 => f9_unlikeOf_l5_B N q (f9_unlikeOf_l5 N q n)
def f9_unlikeOf (N : Nat) (q : SS) (x1 : Int32) (x2 : Int32) : Option Int32 :=
  f9_unlikeOf_l5 N q N x1 x2 ((0 : Int32)) ((0 : Int32))
def f9_unlike (N : Nat) (q : SS) (x1 : Int32) (x2 : Int32) : Option Int32 :=
  bd (f9_isTable q x1) fun r_2 => if r_2 = 0 then (some (-101 : Int32)) else (bd (f9_in (Int32.toInt64 x2) (0 : Int64) (7 : Int64)) fun r_17 => if r_17 = 0 then (some (-102 : Int32)) else (bd (f9_has q x1 x2) fun r_26 => if r_26 = 0 then (some (-102 : Int32)) else (bd (f9_unlikeOf N q x1 x2) fun r_35 => some r_35)))
def f9_rule_b95 (x3 : Int32) (s0 : Int32) (q : SS) : Option (Int32 × SS) :=
  bn (sf q 2 s0) fun q_95 => some (x3, q_95)
def f9_rule_b78 (x1 : Int32) (x2 : Int32) (x3 : Int32) (s0 : Int32) (q : SS) : Option (Int32 × SS) :=
  bn (sf q 1 s0) fun q_78 => if x1 = (1 : Int32) then (f9_rule_b95 x3 x2 q_78) else (f9_rule_b95 x3 (fi q_78 2) q_78)
def f9_rule_b64 (x1 : Int32) (x2 : Int32) (s0 : Int32) (q : SS) : Option (Int32 × SS) :=
  if x1 = 0 then (f9_rule_b78 x1 x2 s0 x2 q) else (f9_rule_b78 x1 x2 s0 (fi q 1) q)
def f9_rule_b49 (x1 : Int32) (x2 : Int32) (q : SS) : Option (Int32 × SS) :=
  if x1 = 0 then (f9_rule_b64 x1 x2 (fi q 1) q) else (f9_rule_b64 x1 x2 (fi q 2) q)
def f9_rule (x1 : Int32) (x2 : Int32) (q : SS) : Option (Int32 × SS) :=
  bd (f9_in (Int32.toInt64 x1) (0 : Int64) (1 : Int64)) fun r_4 => if r_4 = 0 then (some ((-101 : Int32), q)) else (if x1 = 0 then (bd (f9_in (Int32.toInt64 x2) (1 : Int64) (8 : Int64)) fun r_23 => if r_23 = 0 then (some ((-102 : Int32), q)) else (f9_rule_b49 x1 x2 q)) else (bd (f9_in (Int32.toInt64 x2) (3 : Int64) (9 : Int64)) fun r_40 => if r_40 = 0 then (some ((-102 : Int32), q)) else (f9_rule_b49 x1 x2 q)))
def f9_takeMembers_b44 (N : Nat) (bk7 : Int32 → Int32 → SS → Option SS) (x1 : Int32) (x2 : Int32) (q : SS) : Option SS :=
  bn (x2 + (1 : Int32)) fun x2_44 => bk7 x1 x2_44 q
def f9_takeMembers_l7_B (N : Nat) (bk7 : Int32 → Int32 → SS → Option SS) (x1 : Int32) (x2 : Int32) (q : SS) : Option SS :=
  if (fi q 0) ≤ x2 then (some q) else (if ((jshr x1 x2) &&& (1 : Int32)) = (1 : Int32) then (ck (fi q 4) 6 (bn (sa q 9 (ix (fi q 4)) x2) fun q_33 => bn (sf q_33 4 ((fi q_33 4) + (1 : Int32))) fun q_41 => f9_takeMembers_b44 N bk7 x1 x2 q_41)) else (f9_takeMembers_b44 N bk7 x1 x2 q))
def f9_takeMembers_l7 (N : Nat) : Nat → Int32 → Int32 → SS → Option SS
  | 0 => fun _ _ _ => none
  | n + 1 => f9_takeMembers_l7_B N (f9_takeMembers_l7 N n)
def f9_takeMembers (N : Nat) (x1 : Int32) (q : SS) : Option SS :=
  bn (sf q 4 (0 : Int32)) fun q_2 => f9_takeMembers_l7 N N x1 ((0 : Int32)) q_2
def f9_fit_b86 (N : Nat) (q : SS) (bk21 : Int32 → Int32 → Int32 → Int32 → Int32 → Int32 → Int32 → Option Int32) (x1 : Int32) (x2 : Int32) (x3 : Int32) (x4 : Int32) (x5 : Int32) (x7 : Int32) (s0 : Int32) : Option Int32 :=
  bn (x7 + (1 : Int32)) fun x7_88 => bk21 x1 x2 x3 x4 x5 s0 x7_88
def f9_fit_b85 (N : Nat) (q : SS) (bk21 : Int32 → Int32 → Int32 → Int32 → Int32 → Int32 → Int32 → Option Int32) (x1 : Int32) (x2 : Int32) (x3 : Int32) (x4 : Int32) (x5 : Int32) (x7 : Int32) : Option Int32 :=
  f9_fit_b86 N q bk21 x1 x2 x3 x4 x5 x7 ((0 : Int32))
def f9_fit_b81 (N : Nat) (q : SS) (bk21 : Int32 → Int32 → Int32 → Int32 → Int32 → Int32 → Int32 → Option Int32) (x1 : Int32) (x2 : Int32) (x3 : Int32) (x4 : Int32) (x5 : Int32) (x7 : Int32) : Option Int32 :=
  f9_fit_b86 N q bk21 x1 x2 x3 x4 x5 x7 ((1 : Int32))
def f9_fit_l21_B (N : Nat) (q : SS) (bk21 : Int32 → Int32 → Int32 → Int32 → Int32 → Int32 → Int32 → Option Int32) (x1 : Int32) (x2 : Int32) (x3 : Int32) (x4 : Int32) (x5 : Int32) (x6 : Int32) (x7 : Int32) : Option Int32 :=
  if (8 : Int32) ≤ x7 then (cz x6 (some x6)) else (if x6 = 0 then (f9_fit_b85 N q bk21 x1 x2 x3 x4 x5 x7) else (if ((jshr x5 x7) &&& (1 : Int32)) = 0 then (f9_fit_b81 N q bk21 x1 x2 x3 x4 x5 x7) else (ck ((((64 : Int32) * x1) + ((8 : Int32) * x2)) + x7) 384 (ck ((((64 : Int32) * x3) + ((8 : Int32) * x4)) + x7) 384 (if (ar q 4 (ix ((((64 : Int32) * x1) + ((8 : Int32) * x2)) + x7))) = (ar q 4 (ix ((((64 : Int32) * x3) + ((8 : Int32) * x4)) + x7))) then (f9_fit_b81 N q bk21 x1 x2 x3 x4 x5 x7) else (f9_fit_b85 N q bk21 x1 x2 x3 x4 x5 x7))))))
def f9_fit_l21 (N : Nat) (q : SS) : Nat → Int32 → Int32 → Int32 → Int32 → Int32 → Int32 → Int32 → Option Int32
  | 0 => fun _ _ _ _ _ _ _ => none
  | n + 1 => f9_fit_l21_B N q (f9_fit_l21 N q n)
def f9_fit (N : Nat) (q : SS) (x1 : Int32) (x2 : Int32) (x3 : Int32) (x4 : Int32) : Option Int32 :=
  ck x1 6 (ck x3 6 (bn ((ar q 1 (ix x1)) &&& (ar q 1 (ix x3))) fun x5_13 => f9_fit_l21 N q N x1 x2 x3 x4 x5_13 ((1 : Int32)) ((0 : Int32))))
def f9_fitsAhead_b49 (N : Nat) (q : SS) (bk4 : Int32 → Int32 → Int32 → Option Int32) (x1 : Int32) (x3 : Int32) (s0 : Int32) : Option Int32 :=
  bn (x3 + (1 : Int32)) fun x3_50 => bk4 x1 s0 x3_50
def f9_fitsAhead_b48 (N : Nat) (q : SS) (bk4 : Int32 → Int32 → Int32 → Option Int32) (x1 : Int32) (x3 : Int32) : Option Int32 :=
  f9_fitsAhead_b49 N q bk4 x1 x3 ((0 : Int32))
def f9_fitsAhead_l4_B (N : Nat) (q : SS) (bk4 : Int32 → Int32 → Int32 → Option Int32) (x1 : Int32) (x2 : Int32) (x3 : Int32) : Option Int32 :=
  if x1 ≤ x3 then (cz x2 (some x2)) else (if x2 = 0 then (f9_fitsAhead_b48 N q bk4 x1 x3) else (ck x3 6 (ck x3 6 (ck x1 6 (ck x1 6 (bd (f9_fit N q (ar q 9 (ix x3)) (ar q 10 (ix x3)) (ar q 9 (ix x1)) (ar q 10 (ix x1))) fun r_38 => if r_38 = 0 then (f9_fitsAhead_b48 N q bk4 x1 x3) else (f9_fitsAhead_b49 N q bk4 x1 x3 ((1 : Int32)))))))))
def f9_fitsAhead_l4 (N : Nat) (q : SS) : Nat → Int32 → Int32 → Int32 → Option Int32
  | 0 => fun _ _ _ => none
  | n + 1 => f9_fitsAhead_l4_B N q (f9_fitsAhead_l4 N q n)
def f9_fitsAhead (N : Nat) (q : SS) (x1 : Int32) : Option Int32 :=
  f9_fitsAhead_l4 N q N x1 ((1 : Int32)) ((0 : Int32))
def f9_nextJoined_l2_B (N : Nat) (bk2 : Int32 → SS → Option (Int32 × SS)) (x2 : Int32) (q : SS) : Option (Int32 × SS) :=
  if x2 < 0 then (some ((0 : Int32), q)) else (ck x2 6 (ck x2 6 (bn (sa q 10 (ix x2) ((ar q 10 (ix x2)) + (1 : Int32))) fun q_15 => ck x2 6 (ck x2 6 (ck (ar q_15 9 (ix x2)) 6 (if (ar q_15 10 (ix x2)) = (ar q_15 3 (ix (ar q_15 9 (ix x2)))) then (bn (x2 + (-1 : Int32)) fun x2_36 => bk2 x2_36 q_15) else (bd (f9_fitsAhead N q_15 x2) fun r_44 => if r_44 = 0 then (bk2 x2 q_15) else (if x2 = ((fi q_15 4) - (1 : Int32)) then (some ((1 : Int32), q_15)) else (bn (x2 + (1 : Int32)) fun x2_62 => ck x2_62 6 (bn (sa q_15 10 (ix x2_62) (-1 : Int32)) fun q_71 => bk2 x2_62 q_71))))))))))
def f9_nextJoined_l2 (N : Nat) : Nat → Int32 → SS → Option (Int32 × SS)
  | 0 => fun _ _ => none
  | n + 1 => f9_nextJoined_l2_B N (f9_nextJoined_l2 N n)
def f9_nextJoined (N : Nat) (x1 : Int32) (q : SS) : Option (Int32 × SS) :=
  f9_nextJoined_l2 N N x1 q
def f9_firstJoined (N : Nat) (x1 : Int32) (q : SS) : Option (Int32 × SS) :=
  bd (f9_takeMembers N x1 q) fun q_2 => bn (sa q_2 10 (ix (0 : Int32)) (-1 : Int32)) fun q_11 => bd2 (f9_nextJoined N (0 : Int32) q_11) fun r_14 q_14 => cz r_14 (some (r_14, q_14))
def f9_countAll_b61 (N : Nat) (q : SS) : Option SS :=
  bn (sf q 3 (1 : Int32)) fun q_63 => some q_63
def f9_countAll_l27_B (N : Nat) (bk2 : Int32 → SS → Option SS) (bk27 : Int32 → Int32 → Int32 → SS → Option SS) (x1 : Int32) (x2 : Int32) (x3 : Int32) (q : SS) : Option SS :=
  if x3 = 0 then (ck x1 64 (bn (sa q 8 (ix x1) x2) fun q_54 => bn (x1 + (1 : Int32)) fun x1_55 => bk2 x1_55 q_54)) else (bn (x2 + (1 : Int32)) fun x2_31 => bd2 (f9_nextJoined N ((fi q 4) - (1 : Int32)) q) fun r_41 q_41 => bk27 x1 x2_31 r_41 q_41)
def f9_countAll_l27 (N : Nat) (bk2 : Int32 → SS → Option SS) : Nat → Int32 → Int32 → Int32 → SS → Option SS
  | 0 => fun _ _ _ _ => none
  | n + 1 => f9_countAll_l27_B N bk2 (f9_countAll_l27 N bk2 n)
def f9_countAll_l2_B (N : Nat) (bk2 : Int32 → SS → Option SS) (x1 : Int32) (q : SS) : Option SS :=
  if (jshl (1 : Int32) (fi q 0)) ≤ x1 then (f9_countAll_b61 N q) else (if (fi q 3) = 0 then (bd2 (f9_firstJoined N x1 q) fun r_23 q_23 => f9_countAll_l27 N bk2 N x1 ((0 : Int32)) r_23 q_23) else (f9_countAll_b61 N q))
def f9_countAll_l2 (N : Nat) : Nat → Int32 → SS → Option SS
  | 0 => fun _ _ => none
  | n + 1 => f9_countAll_l2_B N (f9_countAll_l2 N n)
def f9_countAll (N : Nat) (q : SS) : Option SS :=
  f9_countAll_l2 N N ((1 : Int32)) q
def f9_trueSize (N : Nat) (x1 : Int32) (q : SS) : Option (Int32 × SS) :=
  bd (f9_countAll N q) fun q_1 => ck x1 64 (some (ar q_1 8 (ix x1), q_1))
def f9_foretoldSize_b167 (N : Nat) (q : SS) (bk59 : Int32 → Int64 → Int64 → Int32 → Option Int32) (x1 : Int32) (x2 : Int64) (x6 : Int32) (s0 : Int64) (s1 : Int64) : Option Int32 :=
  dzl s0 (bn (s1 / s0) fun x4_168 => bn (x6 + (1 : Int32)) fun x6_170 => bk59 x1 x2 x4_168 x6_170)
def f9_foretoldSize_b147 (N : Nat) (q : SS) (bk59 : Int32 → Int64 → Int64 → Int32 → Option Int32) (bk75 : Int32 → Int64 → Int64 → Int32 → Int32 → Int32 → Int32 → Option Int32) (x1 : Int32) (x2 : Int64) (x4 : Int64) (x6 : Int32) (x7 : Int32) (x8 : Int32) (x9 : Int32) : Option Int32 :=
  bn (x9 + (1 : Int32)) fun x9_147 => bk75 x1 x2 x4 x6 x7 x8 x9_147
def f9_foretoldSize_b134 (N : Nat) (q : SS) (bk59 : Int32 → Int64 → Int64 → Int32 → Option Int32) (bk75 : Int32 → Int64 → Int64 → Int32 → Int32 → Int32 → Int32 → Option Int32) (x1 : Int32) (x2 : Int64) (x4 : Int64) (x6 : Int32) (x7 : Int32) (x9 : Int32) (x10 : Int32) (s0 : Int32) : Option Int32 :=
  bn (x4 * (Int32.toInt64 x10)) fun x4_142 => bn (x7 + (1 : Int32)) fun x7_144 => f9_foretoldSize_b147 N q bk59 bk75 x1 x2 x4_142 x6 x7_144 s0 x9
def f9_foretoldSize_b127 (N : Nat) (q : SS) (bk59 : Int32 → Int64 → Int64 → Int32 → Option Int32) (bk75 : Int32 → Int64 → Int64 → Int32 → Int32 → Int32 → Int32 → Option Int32) (x1 : Int32) (x2 : Int64) (x4 : Int64) (x6 : Int32) (x7 : Int32) (x9 : Int32) (x10 : Int32) : Option Int32 :=
  f9_foretoldSize_b134 N q bk59 bk75 x1 x2 x4 x6 x7 x9 x10 x10
def f9_foretoldSize_l75_B (N : Nat) (q : SS) (bk59 : Int32 → Int64 → Int64 → Int32 → Option Int32) (bk75 : Int32 → Int64 → Int64 → Int32 → Int32 → Int32 → Int32 → Option Int32) (x1 : Int32) (x2 : Int64) (x4 : Int64) (x6 : Int32) (x7 : Int32) (x8 : Int32) (x9 : Int32) : Option Int32 :=
  if (fi q 0) ≤ x9 then (if x7 ≤ 0 then (f9_foretoldSize_b167 N q bk59 x1 x2 x6 ((1 : Int64)) x4) else (f9_foretoldSize_b167 N q bk59 x1 x2 x6 (Int32.toInt64 x8) x4)) else (if ((jshr x1 x9) &&& (1 : Int32)) = (1 : Int32) then (bd (f9_has q x9 x6) fun r_99 => if r_99 = 0 then (f9_foretoldSize_b147 N q bk59 bk75 x1 x2 x4 x6 x7 x8 x9) else (bd (f9_unlikeOf N q x9 x6) fun r_110 => if x7 = 0 then (f9_foretoldSize_b127 N q bk59 bk75 x1 x2 x4 x6 x7 x9 r_110) else (if x8 ≤ r_110 then (f9_foretoldSize_b134 N q bk59 bk75 x1 x2 x4 x6 x7 x9 r_110 x8) else (f9_foretoldSize_b127 N q bk59 bk75 x1 x2 x4 x6 x7 x9 r_110)))) else (f9_foretoldSize_b147 N q bk59 bk75 x1 x2 x4 x6 x7 x8 x9))
def f9_foretoldSize_l75 (N : Nat) (q : SS) (bk59 : Int32 → Int64 → Int64 → Int32 → Option Int32) : Nat → Int32 → Int64 → Int64 → Int32 → Int32 → Int32 → Int32 → Option Int32
  | 0 => fun _ _ _ _ _ _ _ => none
  | n + 1 => f9_foretoldSize_l75_B N q bk59 (f9_foretoldSize_l75 N q bk59 n)
def f9_foretoldSize_l59_B (N : Nat) (q : SS) (bk59 : Int32 → Int64 → Int64 → Int32 → Option Int32) (x1 : Int32) (x2 : Int64) (x4 : Int64) (x6 : Int32) : Option Int32 :=
  if (8 : Int32) ≤ x6 then (dzl x4 (some (Int64.toInt32 (x2 / x4)))) else (f9_foretoldSize_l75 N q bk59 N x1 x2 x4 x6 ((0 : Int32)) ((0 : Int32)) ((0 : Int32)))
def f9_foretoldSize_l59 (N : Nat) (q : SS) : Nat → Int32 → Int64 → Int64 → Int32 → Option Int32
  | 0 => fun _ _ _ _ => none
  | n + 1 => f9_foretoldSize_l59_B N q (f9_foretoldSize_l59 N q n)
def f9_foretoldSize_b37 (N : Nat) (q : SS) (bk5 : Int32 → Int64 → Int32 → Option Int32) (x1 : Int32) (x4 : Int32) (s0 : Int64) (s1 : Int64) : Option Int32 :=
  bn (s1 * s0) fun x2_38 => bn (x4 + (1 : Int32)) fun x4_39 => bk5 x1 x2_38 x4_39
def f9_foretoldSize_l5_B (N : Nat) (q : SS) (bk5 : Int32 → Int64 → Int32 → Option Int32) (x1 : Int32) (x2 : Int64) (x4 : Int32) : Option Int32 :=
  if (fi q 0) ≤ x4 then (if x2 = (0 : Int64) then (some (0 : Int32)) else (f9_foretoldSize_l59 N q N x1 x2 ((1 : Int64)) ((0 : Int32)))) else (if ((jshr x1 x4) &&& (1 : Int32)) = (1 : Int32) then (ck x4 6 (f9_foretoldSize_b37 N q bk5 x1 x4 (Int32.toInt64 (ar q 3 (ix x4))) x2)) else (f9_foretoldSize_b37 N q bk5 x1 x4 ((1 : Int64)) x2))
def f9_foretoldSize_l5 (N : Nat) (q : SS) : Nat → Int32 → Int64 → Int32 → Option Int32
  | 0 => fun _ _ _ => none
  | n + 1 => f9_foretoldSize_l5_B N q (f9_foretoldSize_l5 N q n)
def f9_foretoldSize (N : Nat) (q : SS) (x1 : Int32) : Option Int32 :=
  f9_foretoldSize_l5 N q N x1 ((1 : Int64)) ((0 : Int32))
def f9_isSet (q : SS) (x1 : Int32) : Option Int32 :=
  bd (f9_in (Int32.toInt64 x1) (1 : Int64) (Int32.toInt64 ((jshl (1 : Int32) (fi q 0)) - (1 : Int32)))) fun r_12 => cz r_12 (some r_12)
def f9_sizeOf (N : Nat) (x1 : Int32) (x2 : Int32) (q : SS) : Option (Int32 × SS) :=
  if x2 = 0 then (bd2 (f9_trueSize N x1 q) fun r_6 q_6 => some (r_6, q_6)) else (bd (f9_foretoldSize N q x1) fun r_14 => some (r_14, q))
def f9_size (N : Nat) (x1 : Int32) (x2 : Int32) (q : SS) : Option (Int32 × SS) :=
  bd (f9_isSet q x1) fun r_2 => if r_2 = 0 then (some ((-102 : Int32), q)) else (bd (f9_in (Int32.toInt64 x2) (0 : Int64) (1 : Int64)) fun r_12 => if r_12 = 0 then (some ((-102 : Int32), q)) else (bd2 (f9_sizeOf N x1 x2 q) fun r_21 q_21 => some (r_21, q_21)))
def f9_pagesOf_l2_B (N : Nat) (bk2 : Int32 → Int32 → Int32 → SS → Option (Int32 × SS)) (x1 : Int32) (x2 : Int32) (x3 : Int32) (q : SS) : Option (Int32 × SS) :=
  if (fi q 0) ≤ x3 then (bd2 (f9_sizeOf N x1 x2 q) fun r_42 q_42 => bd (f9_up r_42 (fi q_42 1)) fun r_49 => some (r_49, q_42)) else (if x1 = (jshl (1 : Int32) x3) then (ck x3 6 (ck x3 6 (bd (f9_up (ar q 3 (ix x3)) (ar q 2 (ix x3))) fun r_29 => some (r_29, q)))) else (bn (x3 + (1 : Int32)) fun x3_33 => bk2 x1 x2 x3_33 q))
def f9_pagesOf_l2 (N : Nat) : Nat → Int32 → Int32 → Int32 → SS → Option (Int32 × SS)
  | 0 => fun _ _ _ _ => none
  | n + 1 => f9_pagesOf_l2_B N (f9_pagesOf_l2 N n)
def f9_pagesOf (N : Nat) (x1 : Int32) (x2 : Int32) (q : SS) : Option (Int32 × SS) :=
  f9_pagesOf_l2 N N x1 x2 ((0 : Int32)) q
def f9_pages (N : Nat) (x1 : Int32) (x2 : Int32) (q : SS) : Option (Int32 × SS) :=
  bd (f9_isSet q x1) fun r_2 => if r_2 = 0 then (some ((-102 : Int32), q)) else (bd (f9_in (Int32.toInt64 x2) (0 : Int64) (1 : Int64)) fun r_12 => if r_12 = 0 then (some ((-102 : Int32), q)) else (bd2 (f9_pagesOf N x1 x2 q) fun r_21 q_21 => some (r_21, q_21)))
def f9_goTo_l15_B (N : Nat) (bk15 : Int32 → Int32 → Int32 → SS → Option (Int32 × SS)) (x2 : Int32) (x3 : Int32) (x4 : Int32) (q : SS) : Option (Int32 × SS) :=
  if x2 ≤ x4 then (cz x3 (some (x3, q))) else (if x3 = 0 then (cz x3 (some (x3, q))) else (bd2 (f9_nextJoined N ((fi q 4) - (1 : Int32)) q) fun r_32 q_32 => bn (x4 + (1 : Int32)) fun x4_36 => bk15 x2 r_32 x4_36 q_32))
def f9_goTo_l15 (N : Nat) : Nat → Int32 → Int32 → Int32 → SS → Option (Int32 × SS)
  | 0 => fun _ _ _ _ => none
  | n + 1 => f9_goTo_l15_B N (f9_goTo_l15 N n)
def f9_goTo (N : Nat) (x1 : Int32) (x2 : Int32) (q : SS) : Option (Int32 × SS) :=
  if 0 ≤ x2 then (bd2 (f9_firstJoined N x1 q) fun r_8 q_8 => f9_goTo_l15 N N x2 r_8 ((0 : Int32)) q_8) else (some ((0 : Int32), q))
def f9_isIn (q : SS) (x1 : Int32) (x2 : Int32) : Option Int32 :=
  bd (f9_isTable q x2) fun r_2 => if r_2 = 0 then (some (0 : Int32)) else (if ((jshr x1 x2) &&& (1 : Int32)) = (1 : Int32) then (some (1 : Int32)) else (some (0 : Int32)))
def f9_joined_l37_B (N : Nat) (bk37 : Int32 → Int32 → SS → Option (Int32 × SS)) (x3 : Int32) (x4 : Int32) (q : SS) : Option (Int32 × SS) :=
  ck x4 6 (if (ar q 9 (ix x4)) = x3 then (ck x4 6 (some (ar q 10 (ix x4), q))) else (bn (x4 + (1 : Int32)) fun x4_48 => bk37 x3 x4_48 q))
def f9_joined_l37 (N : Nat) : Nat → Int32 → Int32 → SS → Option (Int32 × SS)
  | 0 => fun _ _ _ => none
  | n + 1 => f9_joined_l37_B N (f9_joined_l37 N n)
def f9_joined (N : Nat) (x1 : Int32) (x2 : Int32) (x3 : Int32) (q : SS) : Option (Int32 × SS) :=
  bd (f9_isSet q x1) fun r_2 => if r_2 = 0 then (some ((-102 : Int32), q)) else (bd (f9_isIn q x1 x3) fun r_14 => if r_14 = 0 then (some ((-101 : Int32), q)) else (bd2 (f9_goTo N x1 x2 q) fun r_26 q_26 => if r_26 = 0 then (some ((-1 : Int32), q_26)) else (f9_joined_l37 N N x3 ((0 : Int32)) q_26)))
def f9_value_l40_B (N : Nat) (bk40 : Int32 → Int32 → SS → Option (Int32 × SS)) (x3 : Int32) (x4 : Int32) (q : SS) : Option (Int32 × SS) :=
  if (fi q 4) ≤ x4 then (some ((-1 : Int32), q)) else (ck x4 6 (bd (f9_has q (ar q 9 (ix x4)) x3) fun r_58 => if r_58 = 0 then (bn (x4 + (1 : Int32)) fun x4_93 => bk40 x3 x4_93 q) else (ck x4 6 (ck x4 6 (ck ((((64 : Int32) * (ar q 9 (ix x4))) + ((8 : Int32) * (ar q 10 (ix x4)))) + x3) 384 (some (ar q 4 (ix ((((64 : Int32) * (ar q 9 (ix x4))) + ((8 : Int32) * (ar q 10 (ix x4)))) + x3)), q)))))))
def f9_value_l40 (N : Nat) : Nat → Int32 → Int32 → SS → Option (Int32 × SS)
  | 0 => fun _ _ _ => none
  | n + 1 => f9_value_l40_B N (f9_value_l40 N n)
def f9_value (N : Nat) (x1 : Int32) (x2 : Int32) (x3 : Int32) (q : SS) : Option (Int32 × SS) :=
  bd (f9_isSet q x1) fun r_2 => if r_2 = 0 then (some ((-102 : Int32), q)) else (bd (f9_in (Int32.toInt64 x3) (0 : Int64) (7 : Int64)) fun r_17 => if r_17 = 0 then (some ((-101 : Int32), q)) else (bd2 (f9_goTo N x1 x2 q) fun r_29 q_29 => if r_29 = 0 then (some ((-1 : Int32), q_29)) else (f9_value_l40 N N x3 ((0 : Int32)) q_29)))
def f9_idle_b98 (N : Nat) (x2 : Int32) (x3 : Int32) (q : SS) : Option (Int32 × SS) :=
  ck x2 6 (bd (f9_bitsOf N x3) fun r_105 => some ((ar q 3 (ix x2)) - r_105, q))
def f9_idle_l52_B (N : Nat) (bk52 : Int32 → Int32 → Int32 → Int32 → SS → Option (Int32 × SS)) (x2 : Int32) (x3 : Int32) (x4 : Int32) (x5 : Int32) (q : SS) : Option (Int32 × SS) :=
  if x4 = 0 then (f9_idle_b98 N x2 x3 q) else (ck x2 6 (if ((jshl (1 : Int32) (ar q 3 (ix x2))) - (1 : Int32)) ≤ x3 then (f9_idle_b98 N x2 x3 q) else (ck x5 6 (bn (x3 ||| (jshl (1 : Int32) (ar q 10 (ix x5)))) fun x3_82 => bd2 (f9_nextJoined N ((fi q 4) - (1 : Int32)) q) fun r_90 q_90 => bk52 x2 x3_82 r_90 x5 q_90))))
def f9_idle_l52 (N : Nat) : Nat → Int32 → Int32 → Int32 → Int32 → SS → Option (Int32 × SS)
  | 0 => fun _ _ _ _ _ => none
  | n + 1 => f9_idle_l52_B N (f9_idle_l52 N n)
def f9_idle_l35_B (N : Nat) (bk35 : Int32 → Int32 → Int32 → Int32 → SS → Option (Int32 × SS)) (x2 : Int32) (x3 : Int32) (x4 : Int32) (x5 : Int32) (q : SS) : Option (Int32 × SS) :=
  ck x5 6 (if (ar q 9 (ix x5)) = x2 then (f9_idle_l52 N N x2 x3 x4 x5 q) else (bn (x5 + (1 : Int32)) fun x5_46 => bk35 x2 x3 x4 x5_46 q))
def f9_idle_l35 (N : Nat) : Nat → Int32 → Int32 → Int32 → Int32 → SS → Option (Int32 × SS)
  | 0 => fun _ _ _ _ _ => none
  | n + 1 => f9_idle_l35_B N (f9_idle_l35 N n)
def f9_idle (N : Nat) (x1 : Int32) (x2 : Int32) (q : SS) : Option (Int32 × SS) :=
  bd (f9_isSet q x1) fun r_2 => if r_2 = 0 then (some ((-102 : Int32), q)) else (bd (f9_isIn q x1 x2) fun r_14 => if r_14 = 0 then (some ((-101 : Int32), q)) else (bd2 (f9_firstJoined N x1 q) fun r_27 q_27 => f9_idle_l35 N N x2 ((0 : Int32)) r_27 ((0 : Int32)) q_27))
def f9_letters_l108_B (N : Nat) (bk108 : Int64 → Int32 → Int32 → SS → Option (Int32 × SS)) (x1 : Int64) (x3 : Int32) (x7 : Int32) (q : SS) : Option (Int32 × SS) :=
  if x3 ≤ x7 then (some (fi q 5, q)) else (ck (fi q 5) 40 (bn (sa q 11 (ix (fi q 5)) (Int64.toInt32 ((jlushr x1 ((8 : Int32) * x7)) &&& (255 : Int64)))) fun q_134 => bn (sf q_134 5 ((fi q_134 5) + (1 : Int32))) fun q_142 => bn (x7 + (1 : Int32)) fun x7_145 => bk108 x1 x3 x7_145 q_142))
def f9_letters_l108 (N : Nat) : Nat → Int64 → Int32 → Int32 → SS → Option (Int32 × SS)
  | 0 => fun _ _ _ _ => none
  | n + 1 => f9_letters_l108_B N (f9_letters_l108 N n)
def f9_letters_b75 (N : Nat) (bk11 : Int64 → Int32 → Int32 → Int64 → Int32 → SS → Option (Int32 × SS)) (x1 : Int64) (x4 : Int32) (x5 : Int64) (x7 : Int32) (s0 : Int32) (s1 : Int32) (q : SS) : Option (Int32 × SS) :=
  bn (s1 + s0) fun x3_76 => bn (x7 + (1 : Int32)) fun x7_77 => bk11 x1 x3_76 x4 x5 x7_77 q
def f9_letters_b62 (N : Nat) (bk11 : Int64 → Int32 → Int32 → Int64 → Int32 → SS → Option (Int32 × SS)) (x1 : Int64) (x3 : Int32) (x5 : Int64) (x7 : Int32) (x8 : Int32) (s0 : Int32) (q : SS) : Option (Int32 × SS) :=
  if x8 ≤ 0 then (f9_letters_b75 N bk11 x1 s0 x5 x7 ((0 : Int32)) x3 q) else (f9_letters_b75 N bk11 x1 s0 x5 x7 ((1 : Int32)) x3 q)
def f9_letters_b61 (N : Nat) (bk11 : Int64 → Int32 → Int32 → Int64 → Int32 → SS → Option (Int32 × SS)) (x1 : Int64) (x3 : Int32) (x5 : Int64) (x7 : Int32) (x8 : Int32) (q : SS) : Option (Int32 × SS) :=
  f9_letters_b62 N bk11 x1 x3 x5 x7 x8 ((0 : Int32)) q
def f9_letters_b57 (N : Nat) (bk11 : Int64 → Int32 → Int32 → Int64 → Int32 → SS → Option (Int32 × SS)) (x1 : Int64) (x3 : Int32) (x5 : Int64) (x7 : Int32) (x8 : Int32) (q : SS) : Option (Int32 × SS) :=
  f9_letters_b62 N bk11 x1 x3 x5 x7 x8 ((1 : Int32)) q
def f9_letters_l11_B (N : Nat) (bk11 : Int64 → Int32 → Int32 → Int64 → Int32 → SS → Option (Int32 × SS)) (x1 : Int64) (x3 : Int32) (x4 : Int32) (x5 : Int64) (x7 : Int32) (q : SS) : Option (Int32 × SS) :=
  if (8 : Int32) ≤ x7 then (if x4 = 0 then (some ((-102 : Int32), q)) else (if ((fi q 5) + x3) ≤ (40 : Int32) then (f9_letters_l108 N N x1 x3 ((0 : Int32)) q) else (some ((-104 : Int32), q)))) else (bn (Int64.toInt32 (x5 &&& (255 : Int64))) fun x8_25 => bn (jlushr x5 (8 : Int32)) fun x5_32 => if x4 = 0 then (f9_letters_b61 N bk11 x1 x3 x5_32 x7 x8_25 q) else (if (126 : Int32) < x8_25 then (f9_letters_b61 N bk11 x1 x3 x5_32 x7 x8_25 q) else (if x8_25 = 0 then (f9_letters_b57 N bk11 x1 x3 x5_32 x7 x8_25 q) else (if x3 = x7 then (f9_letters_b57 N bk11 x1 x3 x5_32 x7 x8_25 q) else (f9_letters_b61 N bk11 x1 x3 x5_32 x7 x8_25 q)))))
def f9_letters_l11 (N : Nat) : Nat → Int64 → Int32 → Int32 → Int64 → Int32 → SS → Option (Int32 × SS)
  | 0 => fun _ _ _ _ _ _ => none
  | n + 1 => f9_letters_l11_B N (f9_letters_l11 N n)
def f9_letters (N : Nat) (x1 : Int64) (q : SS) : Option (Int32 × SS) :=
  f9_letters_l11 N N x1 ((0 : Int32)) ((1 : Int32)) x1 ((0 : Int32)) q
def f9_blank (q : SS) : Option (Int32 × SS) :=
  bn (fi q 5) fun x1_4 => bn (sf q 5 (0 : Int32)) fun q_7 => some (x1_4, q_7)
def f9_endPlan (q : SS) : Option SS :=
  if (fi q 6) = 0 then (bn (sf q 9 (1 : Int32)) fun q_9 => some q_9) else (ck ((fi q 6) - (1 : Int32)) 41 (ck ((fi q 6) - (1 : Int32)) 41 (bn (sa q 12 (ix ((fi q 6) - (1 : Int32))) ((ar q 12 (ix ((fi q 6) - (1 : Int32)))) + (1 : Int32))) fun q_29 => some q_29)))
def f9_go_b245 (N : Nat) (q : SS) : Option (Int32 × SS) :=
  some ((1 : Int32), q)
def f9_go_b187 (N : Nat) (x1 : Int32) (x2 : Int32) (q : SS) : Option (Int32 × SS) :=
  if (fi q 9) = 0 then (if x2 = 0 then (ck ((fi q 6) - (1 : Int32)) 41 (if (ar q 12 (ix ((fi q 6) - (1 : Int32)))) = (1 : Int32) then (ck ((fi q 6) - (1 : Int32)) 41 (bn (sa q 12 (ix ((fi q 6) - (1 : Int32))) (2 : Int32)) fun q_226 => if x1 = (108 : Int32) then (f9_go_b245 N q_226) else (if x1 = (112 : Int32) then (f9_go_b245 N q_226) else (if x1 = (115 : Int32) then (f9_go_b245 N q_226) else (some ((0 : Int32), q_226)))))) else (bn (sf q 6 ((fi q 6) - (1 : Int32))) fun q_258 => bd (f9_endPlan q_258) fun q_262 => if x1 = (41 : Int32) then (some ((1 : Int32), q_262)) else (some ((0 : Int32), q_262))))) else (some ((0 : Int32), q))) else (some ((0 : Int32), q))
def f9_go_b122 (N : Nat) (x1 : Int32) (x2 : Int32) (q : SS) : Option (Int32 × SS) :=
  if x2 = 0 then (f9_go_b187 N x1 x2 q) else (if x1 = (40 : Int32) then (bn (sf q 8 ((fi q 8) + (1 : Int32))) fun q_139 => ck (fi q_139 6) 41 (bn (sa q_139 12 (ix (fi q_139 6)) (0 : Int32)) fun q_151 => bn (sf q_151 6 ((fi q_151 6) + (1 : Int32))) fun q_159 => bd (f9_bitsOf N (fi q_159 7)) fun r_166 => if (fi q_159 0) < (r_166 + (fi q_159 8)) then (some ((0 : Int32), q_159)) else (some ((1 : Int32), q_159)))) else (f9_go_b187 N x1 x2 q))
def f9_go_b48 (N : Nat) (x1 : Int32) (s0 : Int32) (q : SS) : Option (Int32 × SS) :=
  if s0 = 0 then (f9_go_b122 N x1 s0 q) else (bd (f9_in (Int32.toInt64 x1) (48 : Int64) (53 : Int64)) fun r_61 => if r_61 = 0 then (f9_go_b122 N x1 s0 q) else (bn (x1 - (48 : Int32)) fun x3_71 => bd (f9_isTable q x3_71) fun r_74 => if r_74 = 0 then (some ((0 : Int32), q)) else (if ((jshr (fi q 7) x3_71) &&& (1 : Int32)) = (1 : Int32) then (some ((0 : Int32), q)) else (bn (sf q 7 ((fi q 7) ||| (jshl (1 : Int32) x3_71))) fun q_103 => bn (sf q_103 8 ((fi q_103 8) - (1 : Int32))) fun q_113 => bd (f9_endPlan q_113) fun q_117 => some ((1 : Int32), q_117)))))
def f9_go_b47 (N : Nat) (x1 : Int32) (q : SS) : Option (Int32 × SS) :=
  f9_go_b48 N x1 ((0 : Int32)) q
def f9_go_b43 (N : Nat) (x1 : Int32) (q : SS) : Option (Int32 × SS) :=
  f9_go_b48 N x1 ((1 : Int32)) q
def f9_go (N : Nat) (x1 : Int32) (q : SS) : Option (Int32 × SS) :=
  if (fi q 9) = 0 then (if (fi q 6) = 0 then (f9_go_b43 N x1 q) else (ck ((fi q 6) - (1 : Int32)) 41 (if (ar q 12 (ix ((fi q 6) - (1 : Int32)))) = 0 then (f9_go_b43 N x1 q) else (ck ((fi q 6) - (1 : Int32)) 41 (if (ar q 12 (ix ((fi q 6) - (1 : Int32)))) = (2 : Int32) then (f9_go_b43 N x1 q) else (f9_go_b47 N x1 q)))))) else (f9_go_b47 N x1 q)
def f9_goodOf_l22_B (N : Nat) (bk22 : Int32 → SS → Option (Int32 × SS)) (x1 : Int32) (q : SS) : Option (Int32 × SS) :=
  if (fi q 0) ≤ 0 then (some (x1, q)) else (if (fi q 5) ≤ x1 then (some (x1, q)) else (ck x1 40 (bd2 (f9_go N (ar q 11 (ix x1)) q) fun r_44 q_44 => if r_44 = 0 then (some (x1, q_44)) else (bn (x1 + (1 : Int32)) fun x1_50 => bk22 x1_50 q_44))))
def f9_goodOf_l22 (N : Nat) : Nat → Int32 → SS → Option (Int32 × SS)
  | 0 => fun _ _ => none
  | n + 1 => f9_goodOf_l22_B N (f9_goodOf_l22 N n)
def f9_goodOf (N : Nat) (q : SS) : Option (Int32 × SS) :=
  bn (sf q 6 (0 : Int32)) fun q_2 => bn (sf q_2 7 (0 : Int32)) fun q_7 => bn (sf q_7 8 (1 : Int32)) fun q_12 => bn (sf q_12 9 (0 : Int32)) fun q_17 => f9_goodOf_l22 N N ((0 : Int32)) q_17
def f9_good (N : Nat) (q : SS) : Option (Int32 × SS) :=
  bd2 (f9_goodOf N q) fun r_1 q_1 => some (r_1, q_1)
def f9_sorting_l17_B (N : Nat) (q : SS) (bk17 : Int32 → Int32 → Int32 → Option Int32) (x1 : Int32) (x2 : Int32) (x3 : Int32) : Option Int32 :=
  if x3 ≤ (1 : Int32) then (some (((2 : Int32) * x1) * x2)) else (bn (x2 + (1 : Int32)) fun x2_22 => bd (f9_up x3 ((fi q 2) - (1 : Int32))) fun r_32 => bk17 x1 x2_22 r_32)
def f9_sorting_l17 (N : Nat) (q : SS) : Nat → Int32 → Int32 → Int32 → Option Int32
  | 0 => fun _ _ _ => none
  | n + 1 => f9_sorting_l17_B N q (f9_sorting_l17 N q n)
def f9_sorting (N : Nat) (q : SS) (x1 : Int32) : Option Int32 :=
  if x1 = 0 then (some (0 : Int32)) else (bd (f9_up x1 (fi q 2)) fun r_13 => f9_sorting_l17 N q N x1 ((1 : Int32)) r_13)
def f9_lettersIn_b32 (N : Nat) (q : SS) (bk4 : Int32 → Int32 → Int32 → Option Int32) (x1 : Int32) (x3 : Int32) (s0 : Int32) (s1 : Int32) : Option Int32 :=
  bn (s1 ||| s0) fun x2_33 => bn (x3 + (1 : Int32)) fun x3_34 => bk4 x1 x2_33 x3_34
def f9_lettersIn_l4_B (N : Nat) (q : SS) (bk4 : Int32 → Int32 → Int32 → Option Int32) (x1 : Int32) (x2 : Int32) (x3 : Int32) : Option Int32 :=
  if (fi q 0) ≤ x3 then (some x2) else (if ((jshr x1 x3) &&& (1 : Int32)) = (1 : Int32) then (ck x3 6 (f9_lettersIn_b32 N q bk4 x1 x3 (ar q 1 (ix x3)) x2)) else (f9_lettersIn_b32 N q bk4 x1 x3 ((0 : Int32)) x2))
def f9_lettersIn_l4 (N : Nat) (q : SS) : Nat → Int32 → Int32 → Int32 → Option Int32
  | 0 => fun _ _ _ => none
  | n + 1 => f9_lettersIn_l4_B N q (f9_lettersIn_l4 N q n)
def f9_lettersIn (N : Nat) (q : SS) (x1 : Int32) : Option Int32 :=
  f9_lettersIn_l4 N q N x1 ((0 : Int32)) ((0 : Int32))
def f9_sharedBy_b37 (N : Nat) (q : SS) (x4 : Int32) : Option Int32 :=
  if (8 : Int32) ≤ x4 then (some (-1 : Int32)) else (some x4)
def f9_sharedBy_l15_B (N : Nat) (q : SS) (bk15 : Int32 → Int32 → Option Int32) (x3 : Int32) (x4 : Int32) : Option Int32 :=
  if (8 : Int32) ≤ x4 then (f9_sharedBy_b37 N q x4) else (if ((jshr x3 x4) &&& (1 : Int32)) = 0 then (bn (x4 + (1 : Int32)) fun x4_31 => bk15 x3 x4_31) else (f9_sharedBy_b37 N q x4))
def f9_sharedBy_l15 (N : Nat) (q : SS) : Nat → Int32 → Int32 → Option Int32
  | 0 => fun _ _ => none
  | n + 1 => f9_sharedBy_l15_B N q (f9_sharedBy_l15 N q n)
def f9_sharedBy (N : Nat) (q : SS) (x1 : Int32) (x2 : Int32) : Option Int32 :=
  bd (f9_lettersIn N q x1) fun r_2 => bd (f9_lettersIn N q x2) fun r_7 => bn (r_2 &&& r_7) fun x3_11 => f9_sharedBy_l15 N q N x3_11 ((0 : Int32))
def f9_layPages_l2_B (N : Nat) (bk2 : Int32 → Int32 → SS → Option SS) (x1 : Int32) (x2 : Int32) (q : SS) : Option SS :=
  if (jshl (1 : Int32) (fi q 0)) ≤ x2 then (some q) else (bd2 (f9_pagesOf N x2 x1 q) fun r_20 q_20 => ck x2 64 (bn (sa q_20 13 (ix x2) r_20) fun q_23 => bn (x2 + (1 : Int32)) fun x2_24 => bk2 x1 x2_24 q_23))
def f9_layPages_l2 (N : Nat) : Nat → Int32 → Int32 → SS → Option SS
  | 0 => fun _ _ _ => none
  | n + 1 => f9_layPages_l2_B N (f9_layPages_l2 N n)
def f9_layPages (N : Nat) (x1 : Int32) (q : SS) : Option SS :=
  f9_layPages_l2 N N x1 ((1 : Int32)) q
def f9_stepCost_b149 (N : Nat) (q : SS) (s0 : Int32) (s1 : Int32) : Option Int32 :=
  some (s1 + s0)
def f9_stepCost_b130 (N : Nat) (q : SS) (x5 : Int32) (x7 : Int32) (x8 : Int32) (s0 : Int32) : Option Int32 :=
  if x5 = (x8 + (1 : Int32)) then (f9_stepCost_b149 N q ((0 : Int32)) s0) else (bd (f9_sorting N q x7) fun r_146 => f9_stepCost_b149 N q r_146 s0)
def f9_stepCost_b90 (N : Nat) (q : SS) (x6 : Int32) (x7 : Int32) (s0 : Int32) : Option Int32 :=
  if s0 ≤ ((fi q 2) - (2 : Int32)) then (some (0 : Int32)) else (some ((2 : Int32) * (x6 + x7)))
def f9_stepCost (N : Nat) (q : SS) (x1 : Int32) (x2 : Int32) (x3 : Int32) (x4 : Int32) (x5 : Int32) : Option Int32 :=
  ck x2 64 (bn (ar q 13 (ix x2)) fun x6_6 => ck x3 64 (bn (ar q 13 (ix x3)) fun x7_14 => bd (f9_sharedBy N q x2 x3) fun r_19 => if x1 = (108 : Int32) then (if x6_6 ≤ ((fi q 2) - (2 : Int32)) then (some (0 : Int32)) else (bd (f9_up x6_6 ((fi q 2) - (2 : Int32))) fun r_51 => some (x7_14 * (r_51 - (1 : Int32))))) else (if r_19 = (-1 : Int32) then (some (-1 : Int32)) else (if x1 = (112 : Int32) then (if x7_14 ≤ x6_6 then (f9_stepCost_b90 N q x6_6 x7_14 x7_14) else (f9_stepCost_b90 N q x6_6 x7_14 x6_6)) else (if x4 = (r_19 + (1 : Int32)) then (f9_stepCost_b130 N q x5 x7_14 r_19 ((0 : Int32))) else (bd (f9_sorting N q x6_6) fun r_127 => f9_stepCost_b130 N q x5 x7_14 r_19 r_127))))))
def f9_stepOrder (N : Nat) (q : SS) (x1 : Int32) (x2 : Int32) (x3 : Int32) (x4 : Int32) : Option Int32 :=
  if x1 = (108 : Int32) then (some x4) else (if x1 = (112 : Int32) then (some (0 : Int32)) else (bd (f9_sharedBy N q x2 x3) fun r_24 => some (r_24 + (1 : Int32))))
def f9_workOff_v11_b301 (N : Nat) (bk19 : Int32 → Int32 → Int32 → Int32 → Int32 → SS → Option SS) (x2 : Int32) (x3 : Int32) (x4 : Int32) (x5 : Int32) (x6 : Int32) (q : SS) : Option SS :=
  bn (x6 + (1 : Int32)) fun x6_301 => bk19 x2 x3 x4 x5 x6_301 q
def f9_workOff_v11_b190 (N : Nat) (bk19 : Int32 → Int32 → Int32 → Int32 → Int32 → SS → Option SS) (x2 : Int32) (x3 : Int32) (x4 : Int32) (x5 : Int32) (x6 : Int32) (x8 : Int32) (s0 : Int32) (q : SS) : Option SS :=
  cz s0 (bn (sf q 10 s0) fun q_190 => ck x5 41 (ck (x4 - (1 : Int32)) 41 (ck x4 41 (ck (x4 - (1 : Int32)) 41 (bd (f9_stepOrder N q_190 (ar q_190 17 (ix x5)) (ar q_190 14 (ix (x4 - (1 : Int32)))) (ar q_190 14 (ix x4)) (ar q_190 16 (ix (x4 - (1 : Int32))))) fun r_234 => ck (x4 - (1 : Int32)) 41 (bn (sa q_190 16 (ix (x4 - (1 : Int32))) r_234) fun q_237 => ck (x4 - (1 : Int32)) 41 (ck x4 41 (ck (x4 - (1 : Int32)) 41 (bn (sa q_237 15 (ix (x4 - (1 : Int32))) ((ar q_237 15 (ix (x4 - (1 : Int32)))) + ((ar q_237 15 (ix x4)) + x8))) fun q_259 => ck (x4 - (1 : Int32)) 41 (ck x4 41 (ck (x4 - (1 : Int32)) 41 (bn (sa q_259 14 (ix (x4 - (1 : Int32))) ((ar q_259 14 (ix (x4 - (1 : Int32)))) ||| (ar q_259 14 (ix x4)))) fun q_278 => f9_workOff_v11_b301 N bk19 x2 x3 x4 x5 x6 q_278))))))))))))
def f9_workOff_v11_b189 (N : Nat) (bk19 : Int32 → Int32 → Int32 → Int32 → Int32 → SS → Option SS) (x2 : Int32) (x3 : Int32) (x4 : Int32) (x5 : Int32) (x6 : Int32) (x8 : Int32) (q : SS) : Option SS :=
  f9_workOff_v11_b190 N bk19 x2 x3 x4 x5 x6 x8 ((0 : Int32)) q
def f9_workOff_v11_l19_B (N : Nat) (bk19 : Int32 → Int32 → Int32 → Int32 → Int32 → SS → Option SS) (x2 : Int32) (x3 : Int32) (x4 : Int32) (x5 : Int32) (x6 : Int32) (q : SS) : Option SS :=
  if (x2 + x3) ≤ x6 then (some q) else (ck x6 40 (bn (ar q 11 (ix x6)) fun x7_31 => bd (f9_in (Int32.toInt64 x7_31) (48 : Int64) (53 : Int64)) fun r_42 => if r_42 = 0 then (if x7_31 = (41 : Int32) then (bn (x5 + (-1 : Int32)) fun x5_110 => bn (x4 + (-1 : Int32)) fun x4_113 => bn (sf q 11 ((fi q 11) + (1 : Int32))) fun q_123 => ck x5_110 41 (ck (x4_113 - (1 : Int32)) 41 (ck x4_113 41 (ck (x4_113 - (1 : Int32)) 41 (ck x4_113 41 (bd (f9_stepCost N q_123 (ar q_123 17 (ix x5_110)) (ar q_123 14 (ix (x4_113 - (1 : Int32)))) (ar q_123 14 (ix x4_113)) (ar q_123 16 (ix (x4_113 - (1 : Int32)))) (ar q_123 16 (ix x4_113))) fun r_166 => if (fi q_123 10) = 0 then (f9_workOff_v11_b189 N bk19 x2 x3 x4_113 x5_110 x6 r_166 q_123) else (if r_166 = (-1 : Int32) then (f9_workOff_v11_b189 N bk19 x2 x3 x4_113 x5_110 x6 r_166 q_123) else (f9_workOff_v11_b190 N bk19 x2 x3 x4_113 x5_110 x6 r_166 ((1 : Int32)) q_123)))))))) else (if x7_31 = (40 : Int32) then (f9_workOff_v11_b301 N bk19 x2 x3 x4 x5 x6 q) else (ck x5 41 (bn (sa q 17 (ix x5) x7_31) fun q_297 => bn (x5 + (1 : Int32)) fun x5_298 => f9_workOff_v11_b301 N bk19 x2 x3 x4 x5_298 x6 q_297)))) else (bn (x7_31 - (48 : Int32)) fun x8_53 => ck x4 41 (bn (sa q 14 (ix x4) (jshl (1 : Int32) x8_53)) fun q_65 => ck (jshl (1 : Int32) x8_53) 64 (ck x4 41 (bn (sa q_65 15 (ix x4) (ar q_65 13 (ix (jshl (1 : Int32) x8_53)))) fun q_81 => bd (f9_sortedBy N q_81 x8_53) fun r_91 => ck x4 41 (bn (sa q_81 16 (ix x4) (r_91 + (1 : Int32))) fun q_96 => bn (x4 + (1 : Int32)) fun x4_97 => f9_workOff_v11_b301 N bk19 x2 x3 x4_97 x5 x6 q_96)))))))
def f9_workOff_v11_l19 (N : Nat) : Nat → Int32 → Int32 → Int32 → Int32 → Int32 → SS → Option SS
  | 0 => fun _ _ _ _ _ _ => none
  | n + 1 => f9_workOff_v11_l19_B N (f9_workOff_v11_l19 N n)
def f9_workOff_v11 (N : Nat) (x2 : Int32) (x3 : Int32) (q : SS) : Option SS :=
  bn (sf q 10 (1 : Int32)) fun q_8 => bn (sf q_8 11 (0 : Int32)) fun q_13 => f9_workOff_v11_l19 N N x2 x3 ((0 : Int32)) ((0 : Int32)) x2 q_13
def f9_workOff_v21_b301 (N : Nat) (bk19 : Int32 → Int32 → Int32 → Int32 → Int32 → SS → Option SS) (x2 : Int32) (x3 : Int32) (x4 : Int32) (x5 : Int32) (x6 : Int32) (q : SS) : Option SS :=
  bn (x6 + (1 : Int32)) fun x6_301 => bk19 x2 x3 x4 x5 x6_301 q
def f9_workOff_v21_b190 (N : Nat) (bk19 : Int32 → Int32 → Int32 → Int32 → Int32 → SS → Option SS) (x2 : Int32) (x3 : Int32) (x4 : Int32) (x5 : Int32) (x6 : Int32) (x8 : Int32) (s0 : Int32) (q : SS) : Option SS :=
  cz s0 (bn (sf q 10 s0) fun q_190 => ck x5 41 (ck (x4 - (1 : Int32)) 41 (ck x4 41 (ck (x4 - (1 : Int32)) 41 (bd (f9_stepOrder N q_190 (ar q_190 17 (ix x5)) (ar q_190 14 (ix (x4 - (1 : Int32)))) (ar q_190 14 (ix x4)) (ar q_190 16 (ix (x4 - (1 : Int32))))) fun r_234 => ck (x4 - (1 : Int32)) 41 (bn (sa q_190 16 (ix (x4 - (1 : Int32))) r_234) fun q_237 => ck (x4 - (1 : Int32)) 41 (ck x4 41 (ck (x4 - (1 : Int32)) 41 (bn (sa q_237 15 (ix (x4 - (1 : Int32))) ((ar q_237 15 (ix (x4 - (1 : Int32)))) + ((ar q_237 15 (ix x4)) + x8))) fun q_259 => ck (x4 - (1 : Int32)) 41 (ck x4 41 (ck (x4 - (1 : Int32)) 41 (bn (sa q_259 14 (ix (x4 - (1 : Int32))) ((ar q_259 14 (ix (x4 - (1 : Int32)))) ||| (ar q_259 14 (ix x4)))) fun q_278 => f9_workOff_v21_b301 N bk19 x2 x3 x4 x5 x6 q_278))))))))))))
def f9_workOff_v21_b189 (N : Nat) (bk19 : Int32 → Int32 → Int32 → Int32 → Int32 → SS → Option SS) (x2 : Int32) (x3 : Int32) (x4 : Int32) (x5 : Int32) (x6 : Int32) (x8 : Int32) (q : SS) : Option SS :=
  f9_workOff_v21_b190 N bk19 x2 x3 x4 x5 x6 x8 ((0 : Int32)) q
def f9_workOff_v21_l19_B (N : Nat) (bk19 : Int32 → Int32 → Int32 → Int32 → Int32 → SS → Option SS) (x2 : Int32) (x3 : Int32) (x4 : Int32) (x5 : Int32) (x6 : Int32) (q : SS) : Option SS :=
  if (x2 + x3) ≤ x6 then (some q) else (ck x6 21 (bn (ar q 21 (ix x6)) fun x7_31 => bd (f9_in (Int32.toInt64 x7_31) (48 : Int64) (53 : Int64)) fun r_42 => if r_42 = 0 then (if x7_31 = (41 : Int32) then (bn (x5 + (-1 : Int32)) fun x5_110 => bn (x4 + (-1 : Int32)) fun x4_113 => bn (sf q 11 ((fi q 11) + (1 : Int32))) fun q_123 => ck x5_110 41 (ck (x4_113 - (1 : Int32)) 41 (ck x4_113 41 (ck (x4_113 - (1 : Int32)) 41 (ck x4_113 41 (bd (f9_stepCost N q_123 (ar q_123 17 (ix x5_110)) (ar q_123 14 (ix (x4_113 - (1 : Int32)))) (ar q_123 14 (ix x4_113)) (ar q_123 16 (ix (x4_113 - (1 : Int32)))) (ar q_123 16 (ix x4_113))) fun r_166 => if (fi q_123 10) = 0 then (f9_workOff_v21_b189 N bk19 x2 x3 x4_113 x5_110 x6 r_166 q_123) else (if r_166 = (-1 : Int32) then (f9_workOff_v21_b189 N bk19 x2 x3 x4_113 x5_110 x6 r_166 q_123) else (f9_workOff_v21_b190 N bk19 x2 x3 x4_113 x5_110 x6 r_166 ((1 : Int32)) q_123)))))))) else (if x7_31 = (40 : Int32) then (f9_workOff_v21_b301 N bk19 x2 x3 x4 x5 x6 q) else (ck x5 41 (bn (sa q 17 (ix x5) x7_31) fun q_297 => bn (x5 + (1 : Int32)) fun x5_298 => f9_workOff_v21_b301 N bk19 x2 x3 x4 x5_298 x6 q_297)))) else (bn (x7_31 - (48 : Int32)) fun x8_53 => ck x4 41 (bn (sa q 14 (ix x4) (jshl (1 : Int32) x8_53)) fun q_65 => ck (jshl (1 : Int32) x8_53) 64 (ck x4 41 (bn (sa q_65 15 (ix x4) (ar q_65 13 (ix (jshl (1 : Int32) x8_53)))) fun q_81 => bd (f9_sortedBy N q_81 x8_53) fun r_91 => ck x4 41 (bn (sa q_81 16 (ix x4) (r_91 + (1 : Int32))) fun q_96 => bn (x4 + (1 : Int32)) fun x4_97 => f9_workOff_v21_b301 N bk19 x2 x3 x4_97 x5 x6 q_96)))))))
def f9_workOff_v21_l19 (N : Nat) : Nat → Int32 → Int32 → Int32 → Int32 → Int32 → SS → Option SS
  | 0 => fun _ _ _ _ _ _ => none
  | n + 1 => f9_workOff_v21_l19_B N (f9_workOff_v21_l19 N n)
def f9_workOff_v21 (N : Nat) (x2 : Int32) (x3 : Int32) (q : SS) : Option SS :=
  bn (sf q 10 (1 : Int32)) fun q_8 => bn (sf q_8 11 (0 : Int32)) fun q_13 => f9_workOff_v21_l19 N N x2 x3 ((0 : Int32)) ((0 : Int32)) x2 q_13
def f9_plan_b73 (N : Nat) (x2 : Int32) (q : SS) : Option (Int32 × SS) :=
  if x2 = 0 then (some (ar q 14 (ix (0 : Int32)), q)) else (some (fi q 11, q))
def f9_plan (N : Nat) (x1 : Int32) (x2 : Int32) (q : SS) : Option (Int32 × SS) :=
  bd (f9_in (Int32.toInt64 x1) (0 : Int64) (1 : Int64)) fun r_4 => if r_4 = 0 then (some ((-102 : Int32), q)) else (bd (f9_in (Int32.toInt64 x2) (0 : Int64) (3 : Int64)) fun r_16 => if r_16 = 0 then (some ((-102 : Int32), q)) else (bd2 (f9_goodOf N q) fun r_26 q_26 => if r_26 < (fi q_26 5) then (some ((-103 : Int32), q_26)) else (if (fi q_26 9) = 0 then (some ((-103 : Int32), q_26)) else (bd (f9_layPages N x1 q_26) fun q_48 => bd (f9_workOff_v11 N (0 : Int32) (fi q_48 5) q_48) fun q_61 => if x2 = 0 then (f9_plan_b73 N x2 q_61) else (if x2 = (3 : Int32) then (f9_plan_b73 N x2 q_61) else (if (fi q_61 10) = 0 then (some ((-2 : Int32), q_61)) else (if x2 = (1 : Int32) then (some (ar q_61 15 (ix (0 : Int32)), q_61)) else (some ((ar q_61 16 (ix (0 : Int32))) - (1 : Int32), q_61)))))))))
def f9_signsOf (N : Nat) (x0 : Int32) : Option Int32 :=
  bd (f9_bitsOf N x0) fun r_2 => some (((4 : Int32) * r_2) - (3 : Int32))
def f9_offer_l96_B (N : Nat) (bk96 : Int32 → Int32 → SS → Option SS) (x4 : Int32) (x6 : Int32) (q : SS) : Option SS :=
  if (fi q 13) ≤ x6 then (some q) else (ck x6 21 (ck (((21 : Int32) * x4) + x6) 12096 (bn (sa q 19 (ix (((21 : Int32) * x4) + x6)) (ar q 20 (ix x6))) fun q_124 => bn (x6 + (1 : Int32)) fun x6_125 => bk96 x4 x6_125 q_124)))
def f9_offer_l96 (N : Nat) : Nat → Int32 → Int32 → SS → Option SS
  | 0 => fun _ _ _ => none
  | n + 1 => f9_offer_l96_B N (f9_offer_l96 N n)
def f9_offer_b80 (N : Nat) (x3 : Int32) (x4 : Int32) (x5 : Int32) (q : SS) : Option SS :=
  if 0 ≤ x5 then (some q) else (ck x4 576 (bn (sa q 18 (ix x4) x3) fun q_92 => f9_offer_l96 N N x4 ((0 : Int32)) q_92))
def f9_offer_l37_B (N : Nat) (bk37 : Int32 → Int32 → Int32 → Int32 → SS → Option SS) (x3 : Int32) (x4 : Int32) (x5 : Int32) (x6 : Int32) (q : SS) : Option SS :=
  if (fi q 13) ≤ x6 then (f9_offer_b80 N x3 x4 x5 q) else (if x5 = 0 then (ck x6 21 (ck (((21 : Int32) * x4) + x6) 12096 (bn ((ar q 20 (ix x6)) - (ar q 19 (ix (((21 : Int32) * x4) + x6)))) fun x5_72 => bn (x6 + (1 : Int32)) fun x6_74 => bk37 x3 x4 x5_72 x6_74 q))) else (f9_offer_b80 N x3 x4 x5 q))
def f9_offer_l37 (N : Nat) : Nat → Int32 → Int32 → Int32 → Int32 → SS → Option SS
  | 0 => fun _ _ _ _ _ => none
  | n + 1 => f9_offer_l37_B N (f9_offer_l37 N n)
def f9_offer_b32 (N : Nat) (x3 : Int32) (x4 : Int32) (s0 : Int32) (q : SS) : Option SS :=
  f9_offer_l37 N N x3 x4 s0 ((0 : Int32)) q
def f9_offer (N : Nat) (x1 : Int32) (x2 : Int32) (x3 : Int32) (q : SS) : Option SS :=
  bn (((9 : Int32) * x1) + x2) fun x4_6 => ck x4_6 576 (if (ar q 18 (ix x4_6)) = (-1 : Int32) then (f9_offer_b32 N x3 x4_6 ((-1 : Int32)) q) else (ck x4_6 576 (f9_offer_b32 N x3 x4_6 (x3 - (ar q 18 (ix x4_6))) q)))
def f9_putSign (x1 : Int32) (q : SS) : Option SS :=
  ck (fi q 13) 21 (bn (sa q 20 (ix (fi q 13)) x1) fun q_9 => bn (sf q_9 13 ((fi q_9 13) + (1 : Int32))) fun q_17 => some q_17)
def f9_putText_l2_B (N : Nat) (bk2 : Int32 → Int32 → Int32 → SS → Option SS) (x1 : Int32) (x2 : Int32) (x3 : Int32) (q : SS) : Option SS :=
  if x2 ≤ x3 then (some q) else (ck (((21 : Int32) * x1) + x3) 12096 (bd (f9_putSign (ar q 19 (ix (((21 : Int32) * x1) + x3))) q) fun q_19 => bn (x3 + (1 : Int32)) fun x3_22 => bk2 x1 x2 x3_22 q_19))
def f9_putText_l2 (N : Nat) : Nat → Int32 → Int32 → Int32 → SS → Option SS
  | 0 => fun _ _ _ _ => none
  | n + 1 => f9_putText_l2_B N (f9_putText_l2 N n)
def f9_putText (N : Nat) (x1 : Int32) (x2 : Int32) (q : SS) : Option SS :=
  f9_putText_l2 N N x1 x2 ((0 : Int32)) q
def f9_joinSides_b193 (N : Nat) (bk2 : Int32 → Int32 → Int32 → SS → Option SS) (bk11 : Int32 → Int32 → Int32 → Int32 → SS → Option SS) (x1 : Int32) (x2 : Int32) (x3 : Int32) (x4 : Int32) (q : SS) : Option SS :=
  bn (x4 + (1 : Int32)) fun x4_193 => bk11 x1 x2 x3 x4_193 q
def f9_joinSides_b187 (N : Nat) (bk2 : Int32 → Int32 → Int32 → SS → Option SS) (bk11 : Int32 → Int32 → Int32 → Int32 → SS → Option SS) (bk38 : Int32 → Int32 → Int32 → Int32 → Int32 → Int32 → Int32 → SS → Option SS) (x1 : Int32) (x2 : Int32) (x3 : Int32) (x4 : Int32) (x5 : Int32) (x6 : Int32) (x7 : Int32) (q : SS) : Option SS :=
  bn (x7 + (1 : Int32)) fun x7_187 => bk38 x1 x2 x3 x4 x5 x6 x7_187 q
def f9_joinSides_b89 (N : Nat) (bk2 : Int32 → Int32 → Int32 → SS → Option SS) (bk11 : Int32 → Int32 → Int32 → Int32 → SS → Option SS) (bk38 : Int32 → Int32 → Int32 → Int32 → Int32 → Int32 → Int32 → SS → Option SS) (x1 : Int32) (x2 : Int32) (x3 : Int32) (x4 : Int32) (x5 : Int32) (x6 : Int32) (x7 : Int32) (s0 : Int32) (q : SS) : Option SS :=
  bd (f9_stepCost N q s0 x1 x2 x3 x4) fun r_99 => if r_99 = (-1 : Int32) then (f9_joinSides_b187 N bk2 bk11 bk38 x1 x2 x3 x4 x5 x6 x7 q) else (bn (sf q 13 (0 : Int32)) fun q_112 => bd (f9_putSign (40 : Int32) q_112) fun q_118 => bd (f9_signsOf N x1) fun r_125 => bd (f9_putText N x5 r_125 q_118) fun q_128 => bd (f9_putSign s0 q_128) fun q_134 => bd (f9_signsOf N x2) fun r_141 => bd (f9_putText N x6 r_141 q_134) fun q_144 => bd (f9_putSign (41 : Int32) q_144) fun q_150 => bd (f9_stepOrder N q_150 s0 x1 x2 x3) fun r_163 => ck x5 576 (ck x6 576 (bd (f9_offer N (x1 ||| x2) r_163 (((ar q_150 18 (ix x5)) + (ar q_150 18 (ix x6))) + r_99) q_150) fun q_184 => f9_joinSides_b187 N bk2 bk11 bk38 x1 x2 x3 x4 x5 x6 x7 q_184)))
def f9_joinSides_l38_B (N : Nat) (bk2 : Int32 → Int32 → Int32 → SS → Option SS) (bk11 : Int32 → Int32 → Int32 → Int32 → SS → Option SS) (bk38 : Int32 → Int32 → Int32 → Int32 → Int32 → Int32 → Int32 → SS → Option SS) (x1 : Int32) (x2 : Int32) (x3 : Int32) (x4 : Int32) (x5 : Int32) (x6 : Int32) (x7 : Int32) (q : SS) : Option SS :=
  if (3 : Int32) ≤ x7 then (f9_joinSides_b193 N bk2 bk11 x1 x2 x3 x4 q) else (ck x5 576 (if (ar q 18 (ix x5)) = (-1 : Int32) then (f9_joinSides_b193 N bk2 bk11 x1 x2 x3 x4 q) else (ck x6 576 (if (ar q 18 (ix x6)) = (-1 : Int32) then (f9_joinSides_b193 N bk2 bk11 x1 x2 x3 x4 q) else (if x7 = 0 then (f9_joinSides_b89 N bk2 bk11 bk38 x1 x2 x3 x4 x5 x6 x7 ((108 : Int32)) q) else (if x7 = (1 : Int32) then (f9_joinSides_b89 N bk2 bk11 bk38 x1 x2 x3 x4 x5 x6 x7 ((112 : Int32)) q) else (f9_joinSides_b89 N bk2 bk11 bk38 x1 x2 x3 x4 x5 x6 x7 ((115 : Int32)) q)))))))
def f9_joinSides_l38 (N : Nat) (bk2 : Int32 → Int32 → Int32 → SS → Option SS) (bk11 : Int32 → Int32 → Int32 → Int32 → SS → Option SS) : Nat → Int32 → Int32 → Int32 → Int32 → Int32 → Int32 → Int32 → SS → Option SS
  | 0 => fun _ _ _ _ _ _ _ _ => none
  | n + 1 => f9_joinSides_l38_B N bk2 bk11 (f9_joinSides_l38 N bk2 bk11 n)
def f9_joinSides_l11_B (N : Nat) (bk2 : Int32 → Int32 → Int32 → SS → Option SS) (bk11 : Int32 → Int32 → Int32 → Int32 → SS → Option SS) (x1 : Int32) (x2 : Int32) (x3 : Int32) (x4 : Int32) (q : SS) : Option SS :=
  if (9 : Int32) ≤ x4 then (bn (x3 + (1 : Int32)) fun x3_199 => bk2 x1 x2 x3_199 q) else (bn (((9 : Int32) * x1) + x3) fun x5_24 => bn (((9 : Int32) * x2) + x4) fun x6_33 => f9_joinSides_l38 N bk2 bk11 N x1 x2 x3 x4 x5_24 x6_33 ((0 : Int32)) q)
def f9_joinSides_l11 (N : Nat) (bk2 : Int32 → Int32 → Int32 → SS → Option SS) : Nat → Int32 → Int32 → Int32 → Int32 → SS → Option SS
  | 0 => fun _ _ _ _ _ => none
  | n + 1 => f9_joinSides_l11_B N bk2 (f9_joinSides_l11 N bk2 n)
def f9_joinSides_l2_B (N : Nat) (bk2 : Int32 → Int32 → Int32 → SS → Option SS) (x1 : Int32) (x2 : Int32) (x3 : Int32) (q : SS) : Option SS :=
  if (9 : Int32) ≤ x3 then (some q) else (f9_joinSides_l11 N bk2 N x1 x2 x3 ((0 : Int32)) q)
def f9_joinSides_l2 (N : Nat) : Nat → Int32 → Int32 → Int32 → SS → Option SS
  | 0 => fun _ _ _ _ => none
  | n + 1 => f9_joinSides_l2_B N (f9_joinSides_l2 N n)
def f9_joinSides (N : Nat) (x1 : Int32) (x2 : Int32) (q : SS) : Option SS :=
  f9_joinSides_l2 N N x1 x2 ((0 : Int32)) q
def f9_findBest_b187 (N : Nat) (bk33 : Int32 → Int32 → Int32 → SS → Option SS) (x1 : Int32) (x2 : Int32) (x4 : Int32) (q : SS) : Option SS :=
  bn (x4 + (1 : Int32)) fun x4_187 => bk33 x1 x2 x4_187 q
def f9_findBest_b181 (N : Nat) (bk33 : Int32 → Int32 → Int32 → SS → Option SS) (bk125 : Int32 → Int32 → Int32 → Int32 → SS → Option SS) (x1 : Int32) (x2 : Int32) (x4 : Int32) (x5 : Int32) (q : SS) : Option SS :=
  bn (x5 + (1 : Int32)) fun x5_181 => bk125 x1 x2 x4 x5_181 q
def f9_findBest_b163 (N : Nat) (bk33 : Int32 → Int32 → Int32 → SS → Option SS) (bk125 : Int32 → Int32 → Int32 → Int32 → SS → Option SS) (x1 : Int32) (x2 : Int32) (x4 : Int32) (x5 : Int32) (s0 : Int32) (q : SS) : Option SS :=
  if s0 = 0 then (f9_findBest_b181 N bk33 bk125 x1 x2 x4 x5 q) else (bd (f9_joinSides N x5 (x4 - x5) q) fun q_178 => f9_findBest_b181 N bk33 bk125 x1 x2 x4 x5 q_178)
def f9_findBest_b162 (N : Nat) (bk33 : Int32 → Int32 → Int32 → SS → Option SS) (bk125 : Int32 → Int32 → Int32 → Int32 → SS → Option SS) (x1 : Int32) (x2 : Int32) (x4 : Int32) (x5 : Int32) (q : SS) : Option SS :=
  f9_findBest_b163 N bk33 bk125 x1 x2 x4 x5 ((0 : Int32)) q
def f9_findBest_b158 (N : Nat) (bk33 : Int32 → Int32 → Int32 → SS → Option SS) (bk125 : Int32 → Int32 → Int32 → Int32 → SS → Option SS) (x1 : Int32) (x2 : Int32) (x4 : Int32) (x5 : Int32) (q : SS) : Option SS :=
  f9_findBest_b163 N bk33 bk125 x1 x2 x4 x5 ((1 : Int32)) q
def f9_findBest_l125_B (N : Nat) (bk33 : Int32 → Int32 → Int32 → SS → Option SS) (bk125 : Int32 → Int32 → Int32 → Int32 → SS → Option SS) (x1 : Int32) (x2 : Int32) (x4 : Int32) (x5 : Int32) (q : SS) : Option SS :=
  if x4 ≤ x5 then (f9_findBest_b187 N bk33 x1 x2 x4 q) else (if (x5 &&& x4) = x5 then (if x2 = 0 then (f9_findBest_b158 N bk33 bk125 x1 x2 x4 x5 q) else (bd (f9_bitsOf N (x4 - x5)) fun r_151 => if r_151 = (1 : Int32) then (f9_findBest_b158 N bk33 bk125 x1 x2 x4 x5 q) else (f9_findBest_b162 N bk33 bk125 x1 x2 x4 x5 q))) else (f9_findBest_b162 N bk33 bk125 x1 x2 x4 x5 q))
def f9_findBest_l125 (N : Nat) (bk33 : Int32 → Int32 → Int32 → SS → Option SS) : Nat → Int32 → Int32 → Int32 → Int32 → SS → Option SS
  | 0 => fun _ _ _ _ _ => none
  | n + 1 => f9_findBest_l125_B N bk33 (f9_findBest_l125 N bk33 n)
def f9_findBest_b113 (N : Nat) (bk33 : Int32 → Int32 → Int32 → SS → Option SS) (x1 : Int32) (x2 : Int32) (x4 : Int32) (q : SS) : Option SS :=
  if (x4 &&& x1) = x4 then (f9_findBest_l125 N bk33 N x1 x2 x4 ((1 : Int32)) q) else (f9_findBest_b187 N bk33 x1 x2 x4 q)
def f9_findBest_l60_B (N : Nat) (bk33 : Int32 → Int32 → Int32 → SS → Option SS) (bk60 : Int32 → Int32 → Int32 → Int32 → SS → Option SS) (x1 : Int32) (x2 : Int32) (x4 : Int32) (x5 : Int32) (q : SS) : Option SS :=
  if (jshl (1 : Int32) x5) = x4 then (bn (sf q 13 (0 : Int32)) fun q_77 => bd (f9_putSign ((48 : Int32) + x5) q_77) fun q_86 => bd (f9_sortedBy N q_86 x5) fun r_95 => ck x4 64 (bd (f9_offer N x4 (r_95 + (1 : Int32)) (ar q_86 13 (ix x4)) q_86) fun q_107 => f9_findBest_b187 N bk33 x1 x2 x4 q_107)) else (bn (x5 + (1 : Int32)) fun x5_69 => bk60 x1 x2 x4 x5_69 q)
def f9_findBest_l60 (N : Nat) (bk33 : Int32 → Int32 → Int32 → SS → Option SS) : Nat → Int32 → Int32 → Int32 → Int32 → SS → Option SS
  | 0 => fun _ _ _ _ _ => none
  | n + 1 => f9_findBest_l60_B N bk33 (f9_findBest_l60 N bk33 n)
def f9_findBest_l33_B (N : Nat) (bk33 : Int32 → Int32 → Int32 → SS → Option SS) (x1 : Int32) (x2 : Int32) (x4 : Int32) (q : SS) : Option SS :=
  if x1 < x4 then (some q) else (if (x4 &&& x1) = x4 then (bd (f9_bitsOf N x4) fun r_50 => if r_50 = (1 : Int32) then (f9_findBest_l60 N bk33 N x1 x2 x4 ((0 : Int32)) q) else (f9_findBest_b113 N bk33 x1 x2 x4 q)) else (f9_findBest_b113 N bk33 x1 x2 x4 q))
def f9_findBest_l33 (N : Nat) : Nat → Int32 → Int32 → Int32 → SS → Option SS
  | 0 => fun _ _ _ _ => none
  | n + 1 => f9_findBest_l33_B N (f9_findBest_l33 N n)
def f9_findBest_l8_B (N : Nat) (bk8 : Int32 → Int32 → Int32 → SS → Option SS) (x1 : Int32) (x2 : Int32) (x4 : Int32) (q : SS) : Option SS :=
  if (576 : Int32) ≤ x4 then (f9_findBest_l33 N N x1 x2 ((1 : Int32)) q) else (ck x4 576 (bn (sa q 18 (ix x4) (-1 : Int32)) fun q_23 => bn (x4 + (1 : Int32)) fun x4_24 => bk8 x1 x2 x4_24 q_23))
def f9_findBest_l8 (N : Nat) : Nat → Int32 → Int32 → Int32 → SS → Option SS
  | 0 => fun _ _ _ _ => none
  | n + 1 => f9_findBest_l8_B N (f9_findBest_l8 N n)
def f9_findBest (N : Nat) (x1 : Int32) (x2 : Int32) (x3 : Int32) (q : SS) : Option SS :=
  bd (f9_layPages N x3 q) fun q_2 => f9_findBest_l8 N N x1 x2 ((0 : Int32)) q_2
def f9_bestOrder_b178 (N : Nat) (bk10 : Int32 → Int32 → Int32 → Int32 → SS → Option (Int32 × SS)) (x1 : Int32) (x2 : Int32) (x3 : Int32) (x4 : Int32) (q : SS) : Option (Int32 × SS) :=
  bn (x4 + (1 : Int32)) fun x4_178 => bk10 x1 x2 x3 x4_178 q
def f9_bestOrder_b175 (N : Nat) (bk10 : Int32 → Int32 → Int32 → Int32 → SS → Option (Int32 × SS)) (x1 : Int32) (x2 : Int32) (x3 : Int32) (x4 : Int32) (s0 : Int32) (q : SS) : Option (Int32 × SS) :=
  bn (sf q 14 s0) fun q_175 => f9_bestOrder_b178 N bk10 x1 x2 x3 x4 q_175
def f9_bestOrder_b159 (N : Nat) (bk10 : Int32 → Int32 → Int32 → Int32 → SS → Option (Int32 × SS)) (x1 : Int32) (x2 : Int32) (x4 : Int32) (x6 : Int32) (x7 : Int32) (s0 : Int32) (q : SS) : Option (Int32 × SS) :=
  if 0 ≤ x7 then (f9_bestOrder_b175 N bk10 x1 x2 s0 x4 (fi q 14) q) else (f9_bestOrder_b175 N bk10 x1 x2 s0 x4 x6 q)
def f9_bestOrder_b148 (N : Nat) (bk10 : Int32 → Int32 → Int32 → Int32 → SS → Option (Int32 × SS)) (x1 : Int32) (x2 : Int32) (x3 : Int32) (x4 : Int32) (x6 : Int32) (x7 : Int32) (q : SS) : Option (Int32 × SS) :=
  if 0 ≤ x7 then (f9_bestOrder_b159 N bk10 x1 x2 x4 x6 x7 x3 q) else (f9_bestOrder_b159 N bk10 x1 x2 x4 x6 x7 x4 q)
def f9_bestOrder_l95_B (N : Nat) (bk10 : Int32 → Int32 → Int32 → Int32 → SS → Option (Int32 × SS)) (bk95 : Int32 → Int32 → Int32 → Int32 → Int32 → Int32 → Int32 → Int32 → SS → Option (Int32 × SS)) (x1 : Int32) (x2 : Int32) (x3 : Int32) (x4 : Int32) (x5 : Int32) (x6 : Int32) (x7 : Int32) (x8 : Int32) (q : SS) : Option (Int32 × SS) :=
  bd (f9_signsOf N x1) fun r_98 => if r_98 ≤ x8 then (f9_bestOrder_b148 N bk10 x1 x2 x3 x4 x6 x7 q) else (if x7 = 0 then (ck (((21 : Int32) * x5) + x8) 12096 (ck (((21 : Int32) * (((9 : Int32) * x1) + x3)) + x8) 12096 (bn ((ar q 19 (ix (((21 : Int32) * x5) + x8))) - (ar q 19 (ix (((21 : Int32) * (((9 : Int32) * x1) + x3)) + x8)))) fun x7_140 => bn (x8 + (1 : Int32)) fun x8_142 => bk95 x1 x2 x3 x4 x5 x6 x7_140 x8_142 q))) else (f9_bestOrder_b148 N bk10 x1 x2 x3 x4 x6 x7 q))
def f9_bestOrder_l95 (N : Nat) (bk10 : Int32 → Int32 → Int32 → Int32 → SS → Option (Int32 × SS)) : Nat → Int32 → Int32 → Int32 → Int32 → Int32 → Int32 → Int32 → Int32 → SS → Option (Int32 × SS)
  | 0 => fun _ _ _ _ _ _ _ _ _ => none
  | n + 1 => f9_bestOrder_l95_B N bk10 (f9_bestOrder_l95 N bk10 n)
def f9_bestOrder_b90 (N : Nat) (bk10 : Int32 → Int32 → Int32 → Int32 → SS → Option (Int32 × SS)) (x1 : Int32) (x2 : Int32) (x3 : Int32) (x4 : Int32) (x5 : Int32) (x6 : Int32) (s0 : Int32) (q : SS) : Option (Int32 × SS) :=
  f9_bestOrder_l95 N bk10 N x1 x2 x3 x4 x5 x6 s0 ((0 : Int32)) q
def f9_bestOrder_b71 (N : Nat) (bk10 : Int32 → Int32 → Int32 → Int32 → SS → Option (Int32 × SS)) (x1 : Int32) (x2 : Int32) (x3 : Int32) (x4 : Int32) (x5 : Int32) (s0 : Int32) (s1 : Int32) (q : SS) : Option (Int32 × SS) :=
  bn (s1 + s0) fun x6_72 => if x3 = (-1 : Int32) then (f9_bestOrder_b90 N bk10 x1 x2 x3 x4 x5 x6_72 ((-1 : Int32)) q) else (f9_bestOrder_b90 N bk10 x1 x2 x3 x4 x5 x6_72 (x6_72 - (fi q 14)) q)
def f9_bestOrder_b57 (N : Nat) (bk10 : Int32 → Int32 → Int32 → Int32 → SS → Option (Int32 × SS)) (x1 : Int32) (x2 : Int32) (x3 : Int32) (x4 : Int32) (x5 : Int32) (s0 : Int32) (q : SS) : Option (Int32 × SS) :=
  f9_bestOrder_b71 N bk10 x1 x2 x3 x4 x5 ((0 : Int32)) s0 q
def f9_bestOrder_l10_B (N : Nat) (bk10 : Int32 → Int32 → Int32 → Int32 → SS → Option (Int32 × SS)) (x1 : Int32) (x2 : Int32) (x3 : Int32) (x4 : Int32) (q : SS) : Option (Int32 × SS) :=
  if (9 : Int32) ≤ x4 then (some (x3, q)) else (bn (((9 : Int32) * x1) + x4) fun x5_24 => ck x5_24 576 (if (ar q 18 (ix x5_24)) = (-1 : Int32) then (f9_bestOrder_b178 N bk10 x1 x2 x3 x4 q) else (ck x5_24 576 (if x2 = (-1 : Int32) then (f9_bestOrder_b57 N bk10 x1 x2 x3 x4 x5_24 (ar q 18 (ix x5_24)) q) else (if x4 = (x2 + (1 : Int32)) then (f9_bestOrder_b57 N bk10 x1 x2 x3 x4 x5_24 (ar q 18 (ix x5_24)) q) else (ck x1 64 (bd (f9_sorting N q (ar q 13 (ix x1))) fun r_68 => f9_bestOrder_b71 N bk10 x1 x2 x3 x4 x5_24 r_68 (ar q 18 (ix x5_24)) q)))))))
def f9_bestOrder_l10 (N : Nat) : Nat → Int32 → Int32 → Int32 → Int32 → SS → Option (Int32 × SS)
  | 0 => fun _ _ _ _ _ => none
  | n + 1 => f9_bestOrder_l10_B N (f9_bestOrder_l10 N n)
def f9_bestOrder (N : Nat) (x1 : Int32) (x2 : Int32) (q : SS) : Option (Int32 × SS) :=
  bn (sf q 14 (0 : Int32)) fun q_4 => f9_bestOrder_l10 N N x1 x2 ((-1 : Int32)) ((0 : Int32)) q_4
def f9_isAsked (q : SS) (x1 : Int32) (x2 : Int32) (x3 : Int32) (x4 : Int32) : Option Int32 :=
  bd (f9_isSet q x1) fun r_2 => if r_2 = 0 then (some (0 : Int32)) else (bd (f9_in (Int32.toInt64 x2) (0 : Int64) (1 : Int64)) fun r_12 => if r_12 = 0 then (some (0 : Int32)) else (bd (f9_in (Int32.toInt64 x3) (0 : Int64) (1 : Int64)) fun r_22 => if r_22 = 0 then (some (0 : Int32)) else (bd (f9_in (Int32.toInt64 x4) (-1 : Int64) (7 : Int64)) fun r_37 => if r_37 = 0 then (some (0 : Int32)) else (some (1 : Int32)))))
def f9_best (N : Nat) (x1 : Int32) (x2 : Int32) (x3 : Int32) (x4 : Int32) (q : SS) : Option (Int32 × SS) :=
  bd (f9_isAsked q x1 x2 x3 x4) fun r_6 => if r_6 = 0 then (some ((-102 : Int32), q)) else (if (fi q 12) = (60 : Int32) then (some ((-103 : Int32), q)) else (bn (sf q 12 ((fi q 12) + (1 : Int32))) fun q_34 => bd (f9_findBest N x1 x2 x3 q_34) fun q_41 => bd2 (f9_bestOrder N x1 x4 q_41) fun r_48 q_48 => some (fi q_48 14, q_48)))
def f9_sign (N : Nat) (x1 : Int32) (x2 : Int32) (x3 : Int32) (x4 : Int32) (x5 : Int32) (q : SS) : Option (Int32 × SS) :=
  bd (f9_isAsked q x1 x2 x3 x4) fun r_6 => if r_6 = 0 then (some ((-102 : Int32), q)) else (if (fi q 12) = (60 : Int32) then (some ((-103 : Int32), q)) else (bn (sf q 12 ((fi q 12) + (1 : Int32))) fun q_34 => bd (f9_findBest N x1 x2 x3 q_34) fun q_41 => bd2 (f9_bestOrder N x1 x4 q_41) fun r_48 q_48 => bd (f9_signsOf N x1) fun r_58 => bd (f9_in (Int32.toInt64 x5) (0 : Int64) (Int32.toInt64 (r_58 - (1 : Int32)))) fun r_64 => if r_64 = 0 then (some ((-1 : Int32), q_48)) else (ck (((21 : Int32) * (((9 : Int32) * x1) + r_48)) + x5) 12096 (some (ar q_48 19 (ix (((21 : Int32) * (((9 : Int32) * x1) + r_48)) + x5)), q_48)))))
def f9_regret_l60_B (N : Nat) (bk60 : Int32 → Int32 → Int32 → Int32 → SS → Option (Int32 × SS)) (x1 : Int32) (x2 : Int32) (x3 : Int32) (x4 : Int32) (q : SS) : Option (Int32 × SS) :=
  bd (f9_signsOf N x1) fun r_63 => if r_63 ≤ x4 then (bd (f9_findBest N x1 x2 (0 : Int32) q) fun q_103 => bd2 (f9_bestOrder N x1 (-1 : Int32) q_103) fun r_109 q_109 => bd (f9_signsOf N x1) fun r_120 => bd (f9_workOff_v21 N (0 : Int32) r_120 q_109) fun q_123 => some ((ar q_123 15 (ix (0 : Int32))) - (fi q_123 14), q_123)) else (ck (((21 : Int32) * (((9 : Int32) * x1) + x3)) + x4) 12096 (ck x4 21 (bn (sa q 21 (ix x4) (ar q 19 (ix (((21 : Int32) * (((9 : Int32) * x1) + x3)) + x4)))) fun q_92 => bn (x4 + (1 : Int32)) fun x4_93 => bk60 x1 x2 x3 x4_93 q_92)))
def f9_regret_l60 (N : Nat) : Nat → Int32 → Int32 → Int32 → Int32 → SS → Option (Int32 × SS)
  | 0 => fun _ _ _ _ _ => none
  | n + 1 => f9_regret_l60_B N (f9_regret_l60 N n)
def f9_regret (N : Nat) (x1 : Int32) (x2 : Int32) (q : SS) : Option (Int32 × SS) :=
  bd (f9_isSet q x1) fun r_2 => if r_2 = 0 then (some ((-102 : Int32), q)) else (bd (f9_in (Int32.toInt64 x2) (0 : Int64) (1 : Int64)) fun r_12 => if r_12 = 0 then (some ((-102 : Int32), q)) else (if (fi q 12) = (60 : Int32) then (some ((-103 : Int32), q)) else (bn (sf q 12 ((fi q 12) + (1 : Int32))) fun q_40 => bd (f9_findBest N x1 x2 (1 : Int32) q_40) fun q_47 => bd2 (f9_bestOrder N x1 (-1 : Int32) q_47) fun r_53 q_53 => f9_regret_l60 N N x1 x2 r_53 ((0 : Int32)) q_53)))
def f9_holder_b64 (N : Nat) (q : SS) (bk22 : Int32 → Int32 → Int32 → Int32 → Option Int32) (x1 : Int32) (x2 : Int32) (x3 : Int32) (x4 : Int32) : Option Int32 :=
  bn (x4 + (1 : Int32)) fun x4_64 => bk22 x1 x2 x3 x4_64
def f9_holder_l22_B (N : Nat) (q : SS) (bk22 : Int32 → Int32 → Int32 → Int32 → Option Int32) (x1 : Int32) (x2 : Int32) (x3 : Int32) (x4 : Int32) : Option Int32 :=
  if (fi q 0) ≤ x4 then (some (-1 : Int32)) else (if x4 = x2 then (f9_holder_b64 N q bk22 x1 x2 x3 x4) else (if ((jshr x1 x4) &&& (1 : Int32)) = (1 : Int32) then (ck x4 6 (if (x3 &&& ((ar q 1 (ix x4)) ^^^ (-1 : Int32))) = 0 then (some x4) else (f9_holder_b64 N q bk22 x1 x2 x3 x4))) else (f9_holder_b64 N q bk22 x1 x2 x3 x4)))
def f9_holder_l22 (N : Nat) (q : SS) : Nat → Int32 → Int32 → Int32 → Int32 → Option Int32
  | 0 => fun _ _ _ _ => none
  | n + 1 => f9_holder_l22_B N q (f9_holder_l22 N q n)
def f9_holder (N : Nat) (q : SS) (x1 : Int32) (x2 : Int32) : Option Int32 :=
  bd (f9_lettersIn N q (x1 &&& ((jshl (1 : Int32) x2) ^^^ (-1 : Int32)))) fun r_8 => ck x2 6 (bn (r_8 &&& (ar q 1 (ix x2))) fun x3_18 => f9_holder_l22 N q N x1 x2 x3_18 ((0 : Int32)))
def f9_takeAway_b154 (N : Nat) (bk30 : Int32 → Int32 → SS → Option SS) (x2 : Int32) (x3 : Int32) (q : SS) : Option SS :=
  bk30 x2 x3 q
def f9_takeAway_b105 (N : Nat) (bk30 : Int32 → Int32 → SS → Option SS) (x2 : Int32) (x4 : Int32) (s0 : Int32) (q : SS) : Option SS :=
  if s0 = 0 then (f9_takeAway_b154 N bk30 x2 s0 q) else (bd (f9_holder N q x2 x4) fun r_120 => ck x4 6 (bn (sa q 23 (ix x4) r_120) fun q_123 => ck (fi q_123 15) 6 (bn (sa q_123 22 (ix (fi q_123 15)) x4) fun q_134 => bn (sf q_134 15 ((fi q_134 15) + (1 : Int32))) fun q_142 => bn (x2 &&& ((jshl (1 : Int32) x4) ^^^ (-1 : Int32))) fun x2_153 => f9_takeAway_b154 N bk30 x2_153 s0 q_142)))
def f9_takeAway_b86 (N : Nat) (bk30 : Int32 → Int32 → SS → Option SS) (bk45 : Int32 → Int32 → Int32 → SS → Option SS) (x2 : Int32) (x5 : Int32) (s0 : Int32) (q : SS) : Option SS :=
  bn (x5 + (-1 : Int32)) fun x5_88 => bk45 x2 s0 x5_88 q
def f9_takeAway_b84 (N : Nat) (bk30 : Int32 → Int32 → SS → Option SS) (bk45 : Int32 → Int32 → Int32 → SS → Option SS) (x2 : Int32) (x4 : Int32) (x5 : Int32) (q : SS) : Option SS :=
  f9_takeAway_b86 N bk30 bk45 x2 x5 x4 q
def f9_takeAway_b79 (N : Nat) (bk30 : Int32 → Int32 → SS → Option SS) (bk45 : Int32 → Int32 → Int32 → SS → Option SS) (x2 : Int32) (x5 : Int32) (q : SS) : Option SS :=
  f9_takeAway_b86 N bk30 bk45 x2 x5 x5 q
def f9_takeAway_l45_B (N : Nat) (bk30 : Int32 → Int32 → SS → Option SS) (bk45 : Int32 → Int32 → Int32 → SS → Option SS) (x2 : Int32) (x4 : Int32) (x5 : Int32) (q : SS) : Option SS :=
  if x5 < 0 then (if x4 = (-1 : Int32) then (f9_takeAway_b105 N bk30 x2 x4 ((0 : Int32)) q) else (f9_takeAway_b105 N bk30 x2 x4 ((1 : Int32)) q)) else (if ((jshr x2 x5) &&& (1 : Int32)) = (1 : Int32) then (if x2 = (jshl (1 : Int32) x5) then (f9_takeAway_b79 N bk30 bk45 x2 x5 q) else (bd (f9_holder N q x2 x5) fun r_72 => if r_72 = (-1 : Int32) then (f9_takeAway_b84 N bk30 bk45 x2 x4 x5 q) else (f9_takeAway_b79 N bk30 bk45 x2 x5 q))) else (f9_takeAway_b84 N bk30 bk45 x2 x4 x5 q))
def f9_takeAway_l45 (N : Nat) (bk30 : Int32 → Int32 → SS → Option SS) : Nat → Int32 → Int32 → Int32 → SS → Option SS
  | 0 => fun _ _ _ _ => none
  | n + 1 => f9_takeAway_l45_B N bk30 (f9_takeAway_l45 N bk30 n)
def f9_takeAway_l30_B (N : Nat) (bk30 : Int32 → Int32 → SS → Option SS) (x2 : Int32) (x3 : Int32) (q : SS) : Option SS :=
  if x3 = 0 then (some q) else (bn ((fi q 0) - (1 : Int32)) fun x5_43 => f9_takeAway_l45 N bk30 N x2 ((-1 : Int32)) x5_43 q)
def f9_takeAway_l30 (N : Nat) : Nat → Int32 → Int32 → SS → Option SS
  | 0 => fun _ _ _ => none
  | n + 1 => f9_takeAway_l30_B N (f9_takeAway_l30 N n)
def f9_takeAway_l9_B (N : Nat) (bk9 : Int32 → Int32 → SS → Option SS) (x2 : Int32) (x3 : Int32) (q : SS) : Option SS :=
  if (6 : Int32) ≤ x3 then (f9_takeAway_l30 N N x2 ((1 : Int32)) q) else (ck x3 6 (bn (sa q 23 (ix x3) (-1 : Int32)) fun q_21 => bn (x3 + (1 : Int32)) fun x3_22 => bk9 x2 x3_22 q_21))
def f9_takeAway_l9 (N : Nat) : Nat → Int32 → Int32 → SS → Option SS
  | 0 => fun _ _ _ => none
  | n + 1 => f9_takeAway_l9_B N (f9_takeAway_l9 N n)
def f9_takeAway (N : Nat) (x1 : Int32) (q : SS) : Option SS :=
  bn (sf q 15 (0 : Int32)) fun q_4 => f9_takeAway_l9 N N x1 ((0 : Int32)) q_4
def f9_doesHang (N : Nat) (x1 : Int32) (q : SS) : Option (Int32 × SS) :=
  bd (f9_takeAway N x1 q) fun q_2 => bd (f9_bitsOf N x1) fun r_10 => if (fi q_2 15) = r_10 then (some ((1 : Int32), q_2)) else (some ((0 : Int32), q_2))
def f9_hangs (N : Nat) (x1 : Int32) (q : SS) : Option (Int32 × SS) :=
  bd (f9_isSet q x1) fun r_2 => if r_2 = 0 then (some ((-102 : Int32), q)) else (bd2 (f9_doesHang N x1 q) fun r_13 q_13 => if r_13 = 0 then (some ((0 : Int32), q_13)) else (some ((1 : Int32), q_13)))
def f9_goes (N : Nat) (x1 : Int32) (x2 : Int32) (q : SS) : Option (Int32 × SS) :=
  bd (f9_isSet q x1) fun r_2 => if r_2 = 0 then (some ((-102 : Int32), q)) else (bd (f9_takeAway N x1 q) fun q_13 => bd (f9_in (Int32.toInt64 x2) (0 : Int64) (Int32.toInt64 ((fi q_13 15) - (1 : Int32)))) fun r_26 => if r_26 = 0 then (some ((-1 : Int32), q_13)) else (ck x2 6 (some (ar q_13 22 (ix x2), q_13))))
def f9_on (N : Nat) (x1 : Int32) (x2 : Int32) (q : SS) : Option (Int32 × SS) :=
  bd (f9_isSet q x1) fun r_2 => if r_2 = 0 then (some ((-102 : Int32), q)) else (bd (f9_isIn q x1 x2) fun r_14 => if r_14 = 0 then (some ((-101 : Int32), q)) else (bd (f9_takeAway N x1 q) fun q_25 => ck x2 6 (some (ar q_25 23 (ix x2), q_25))))
def f9_cut_b95 (N : Nat) (bk2 : Int32 → Int32 → Int32 → SS → Option SS) (x1 : Int32) (x2 : Int32) (x3 : Int32) (s0 : Int32) (s1 : Int32) (s2 : Int32) (q : SS) : Option SS :=
  ck s2 6 (bn (sa q 24 (ix s2) (s1 &&& s0)) fun q_96 => bn (x3 + (1 : Int32)) fun x3_97 => bk2 x1 x2 x3_97 q_96)
def f9_cut_b66 (N : Nat) (bk2 : Int32 → Int32 → Int32 → SS → Option SS) (bk18 : Int32 → Int32 → Int32 → Int32 → Int32 → SS → Option SS) (x1 : Int32) (x2 : Int32) (x3 : Int32) (x5 : Int32) (s0 : Int32) (q : SS) : Option SS :=
  bn (x5 + (1 : Int32)) fun x5_68 => bk18 x1 x2 x3 s0 x5_68 q
def f9_cut_b61 (N : Nat) (bk2 : Int32 → Int32 → Int32 → SS → Option SS) (bk18 : Int32 → Int32 → Int32 → Int32 → Int32 → SS → Option SS) (x1 : Int32) (x2 : Int32) (x3 : Int32) (x5 : Int32) (q : SS) : Option SS :=
  f9_cut_b66 N bk2 bk18 x1 x2 x3 x5 ((1 : Int32)) q
def f9_cut_b65 (N : Nat) (bk2 : Int32 → Int32 → Int32 → SS → Option SS) (bk18 : Int32 → Int32 → Int32 → Int32 → Int32 → SS → Option SS) (x1 : Int32) (x2 : Int32) (x3 : Int32) (x5 : Int32) (q : SS) : Option SS :=
  f9_cut_b66 N bk2 bk18 x1 x2 x3 x5 ((0 : Int32)) q
def f9_cut_l18_B (N : Nat) (bk2 : Int32 → Int32 → Int32 → SS → Option SS) (bk18 : Int32 → Int32 → Int32 → Int32 → Int32 → SS → Option SS) (x1 : Int32) (x2 : Int32) (x3 : Int32) (x4 : Int32) (x5 : Int32) (q : SS) : Option SS :=
  ck x2 6 (if (ar q 3 (ix x2)) ≤ x5 then (ck x1 6 (if x4 = 0 then (f9_cut_b95 N bk2 x1 x2 x3 ((jshl (1 : Int32) x3) ^^^ (-1 : Int32)) (ar q 24 (ix x1)) x1 q) else (f9_cut_b95 N bk2 x1 x2 x3 ((-1 : Int32)) (ar q 24 (ix x1)) x1 q))) else (if x4 = 0 then (ck x2 6 (if ((jshr (ar q 24 (ix x2)) x5) &&& (1 : Int32)) = (1 : Int32) then (bd (f9_fit N q x1 x3 x2 x5) fun r_55 => if r_55 = 0 then (f9_cut_b65 N bk2 bk18 x1 x2 x3 x5 q) else (f9_cut_b61 N bk2 bk18 x1 x2 x3 x5 q)) else (f9_cut_b65 N bk2 bk18 x1 x2 x3 x5 q))) else (f9_cut_b61 N bk2 bk18 x1 x2 x3 x5 q)))
def f9_cut_l18 (N : Nat) (bk2 : Int32 → Int32 → Int32 → SS → Option SS) : Nat → Int32 → Int32 → Int32 → Int32 → Int32 → SS → Option SS
  | 0 => fun _ _ _ _ _ _ => none
  | n + 1 => f9_cut_l18_B N bk2 (f9_cut_l18 N bk2 n)
def f9_cut_l2_B (N : Nat) (bk2 : Int32 → Int32 → Int32 → SS → Option SS) (x1 : Int32) (x2 : Int32) (x3 : Int32) (q : SS) : Option SS :=
  ck x1 6 (if (ar q 3 (ix x1)) ≤ x3 then (some q) else (f9_cut_l18 N bk2 N x1 x2 x3 ((0 : Int32)) ((0 : Int32)) q))
def f9_cut_l2 (N : Nat) : Nat → Int32 → Int32 → Int32 → SS → Option SS
  | 0 => fun _ _ _ _ => none
  | n + 1 => f9_cut_l2_B N (f9_cut_l2 N n)
def f9_cut (N : Nat) (x1 : Int32) (x2 : Int32) (q : SS) : Option SS :=
  f9_cut_l2 N N x1 x2 ((0 : Int32)) q
def f9_cutAll_l78_B (N : Nat) (bk78 : Int32 → SS → Option SS) (x1 : Int32) (q : SS) : Option SS :=
  if x1 < 0 then (some q) else (ck x1 6 (ck x1 6 (ck (ar q 22 (ix x1)) 6 (bd (f9_cut N (ar q 22 (ix x1)) (ar q 23 (ix (ar q 22 (ix x1)))) q) fun q_100 => bn (x1 + (-1 : Int32)) fun x1_103 => bk78 x1_103 q_100))))
def f9_cutAll_l78 (N : Nat) : Nat → Int32 → SS → Option SS
  | 0 => fun _ _ => none
  | n + 1 => f9_cutAll_l78_B N (f9_cutAll_l78 N n)
def f9_cutAll_l34_B (N : Nat) (bk34 : Int32 → SS → Option SS) (x1 : Int32) (q : SS) : Option SS :=
  if ((fi q 15) - (1 : Int32)) ≤ x1 then (bn ((fi q 15) - (2 : Int32)) fun x1_77 => f9_cutAll_l78 N N x1_77 q) else (ck x1 6 (ck (ar q 22 (ix x1)) 6 (ck x1 6 (bd (f9_cut N (ar q 23 (ix (ar q 22 (ix x1)))) (ar q 22 (ix x1)) q) fun q_62 => bn (x1 + (1 : Int32)) fun x1_65 => bk34 x1_65 q_62))))
def f9_cutAll_l34 (N : Nat) : Nat → Int32 → SS → Option SS
  | 0 => fun _ _ => none
  | n + 1 => f9_cutAll_l34_B N (f9_cutAll_l34 N n)
def f9_cutAll_l2_B (N : Nat) (bk2 : Int32 → SS → Option SS) (x1 : Int32) (q : SS) : Option SS :=
  if (fi q 0) ≤ x1 then (f9_cutAll_l34 N N ((0 : Int32)) q) else (ck x1 6 (ck x1 6 (bn (sa q 24 (ix x1) ((jshl (1 : Int32) (ar q 3 (ix x1))) - (1 : Int32))) fun q_25 => bn (x1 + (1 : Int32)) fun x1_26 => bk2 x1_26 q_25)))
def f9_cutAll_l2 (N : Nat) : Nat → Int32 → SS → Option SS
  | 0 => fun _ _ => none
  | n + 1 => f9_cutAll_l2_B N (f9_cutAll_l2 N n)
def f9_cutAll (N : Nat) (q : SS) : Option SS :=
  f9_cutAll_l2 N N ((0 : Int32)) q
def f9_left (N : Nat) (x1 : Int32) (x2 : Int32) (q : SS) : Option (Int32 × SS) :=
  bd (f9_isSet q x1) fun r_2 => if r_2 = 0 then (some ((-102 : Int32), q)) else (bd (f9_isIn q x1 x2) fun r_14 => if r_14 = 0 then (some ((-101 : Int32), q)) else (bd2 (f9_doesHang N x1 q) fun r_25 q_25 => if r_25 = 0 then (some ((-103 : Int32), q_25)) else (bd (f9_cutAll N q_25) fun q_35 => ck x2 6 (some (ar q_35 24 (ix x2), q_35)))))
def f9_steps_b68 (N : Nat) (bk30 : Int32 → Int32 → Int32 → SS → Option (Int32 × SS)) (x1 : Int32) (x3 : Int32) (s0 : Int32) (s1 : Int32) (q : SS) : Option (Int32 × SS) :=
  bn (s1 + s0) fun x2_69 => bn (x3 + (1 : Int32)) fun x3_70 => bk30 x1 x2_69 x3_70 q
def f9_steps_l30_B (N : Nat) (bk30 : Int32 → Int32 → Int32 → SS → Option (Int32 × SS)) (x1 : Int32) (x2 : Int32) (x3 : Int32) (q : SS) : Option (Int32 × SS) :=
  if (fi q 0) ≤ x3 then (some (x2, q)) else (if ((jshr x1 x3) &&& (1 : Int32)) = (1 : Int32) then (ck x3 6 (ck x3 6 (bd (f9_bitsOf N (ar q 24 (ix x3))) fun r_60 => f9_steps_b68 N bk30 x1 x3 ((ar q 3 (ix x3)) - r_60) x2 q))) else (f9_steps_b68 N bk30 x1 x3 ((0 : Int32)) x2 q))
def f9_steps_l30 (N : Nat) : Nat → Int32 → Int32 → Int32 → SS → Option (Int32 × SS)
  | 0 => fun _ _ _ _ => none
  | n + 1 => f9_steps_l30_B N (f9_steps_l30 N n)
def f9_steps (N : Nat) (x1 : Int32) (q : SS) : Option (Int32 × SS) :=
  bd (f9_isSet q x1) fun r_2 => if r_2 = 0 then (some ((-102 : Int32), q)) else (bd2 (f9_doesHang N x1 q) fun r_13 q_13 => if r_13 = 0 then (some ((-103 : Int32), q_13)) else (bd (f9_cutAll N q_13) fun q_23 => f9_steps_l30 N N x1 ((0 : Int32)) ((0 : Int32)) q_23))
def f9_coverOf_b85 (N : Nat) (q : SS) (bk4 : Int32 → Int32 → Int32 → Option Int32) (x1 : Int32) (x3 : Int32) (s0 : Int32) : Option Int32 :=
  bn (x3 + (1 : Int32)) fun x3_86 => bk4 x1 s0 x3_86
def f9_coverOf_b84 (N : Nat) (q : SS) (bk4 : Int32 → Int32 → Int32 → Option Int32) (x1 : Int32) (x2 : Int32) (x3 : Int32) : Option Int32 :=
  f9_coverOf_b85 N q bk4 x1 x3 x2
def f9_coverOf_b68 (N : Nat) (q : SS) (bk4 : Int32 → Int32 → Int32 → Option Int32) (x1 : Int32) (x2 : Int32) (x3 : Int32) (x4 : Int32) (s0 : Int32) : Option Int32 :=
  if x4 = 0 then (f9_coverOf_b84 N q bk4 x1 x2 x3) else (if s0 = 0 then (f9_coverOf_b84 N q bk4 x1 x2 x3) else (f9_coverOf_b85 N q bk4 x1 x3 x3))
def f9_coverOf_b63 (N : Nat) (q : SS) (bk4 : Int32 → Int32 → Int32 → Option Int32) (x1 : Int32) (x2 : Int32) (x3 : Int32) (x4 : Int32) : Option Int32 :=
  f9_coverOf_b68 N q bk4 x1 x2 x3 x4 ((1 : Int32))
def f9_coverOf_b67 (N : Nat) (q : SS) (bk4 : Int32 → Int32 → Int32 → Option Int32) (x1 : Int32) (x2 : Int32) (x3 : Int32) (x4 : Int32) : Option Int32 :=
  f9_coverOf_b68 N q bk4 x1 x2 x3 x4 ((0 : Int32))
def f9_coverOf_b34 (N : Nat) (q : SS) (bk4 : Int32 → Int32 → Int32 → Option Int32) (x1 : Int32) (x2 : Int32) (x3 : Int32) (s0 : Int32) : Option Int32 :=
  bd (f9_bitsOf N x3) fun r_37 => bd (f9_bitsOf N x2) fun r_41 => if r_37 < r_41 then (f9_coverOf_b63 N q bk4 x1 x2 x3 s0) else (bd (f9_bitsOf N x3) fun r_48 => bd (f9_bitsOf N x2) fun r_52 => if r_48 = r_52 then (if x2 ≤ x3 then (f9_coverOf_b67 N q bk4 x1 x2 x3 s0) else (f9_coverOf_b63 N q bk4 x1 x2 x3 s0)) else (f9_coverOf_b67 N q bk4 x1 x2 x3 s0))
def f9_coverOf_b33 (N : Nat) (q : SS) (bk4 : Int32 → Int32 → Int32 → Option Int32) (x1 : Int32) (x2 : Int32) (x3 : Int32) : Option Int32 :=
  f9_coverOf_b34 N q bk4 x1 x2 x3 ((0 : Int32))
def f9_coverOf_l4_B (N : Nat) (q : SS) (bk4 : Int32 → Int32 → Int32 → Option Int32) (x1 : Int32) (x2 : Int32) (x3 : Int32) : Option Int32 :=
  if x1 ≤ x3 then (some x2) else (if (x3 &&& x1) = x3 then (bd (f9_lettersIn N q x3) fun r_18 => bd (f9_lettersIn N q x1) fun r_23 => if r_18 = r_23 then (f9_coverOf_b34 N q bk4 x1 x2 x3 ((1 : Int32))) else (f9_coverOf_b33 N q bk4 x1 x2 x3)) else (f9_coverOf_b33 N q bk4 x1 x2 x3))
def f9_coverOf_l4 (N : Nat) (q : SS) : Nat → Int32 → Int32 → Int32 → Option Int32
  | 0 => fun _ _ _ => none
  | n + 1 => f9_coverOf_l4_B N q (f9_coverOf_l4 N q n)
def f9_coverOf (N : Nat) (q : SS) (x1 : Int32) : Option Int32 :=
  f9_coverOf_l4 N q N x1 x1 ((1 : Int32))
def f9_cover (N : Nat) (q : SS) (x1 : Int32) : Option Int32 :=
  bd (f9_isSet q x1) fun r_2 => if r_2 = 0 then (some (-102 : Int32)) else (bd (f9_coverOf N q x1) fun r_10 => some r_10)
def f9_countOf_l43_B (N : Nat) (q : SS) (bk43 : Int32 → Int32 → Option Int32) (x2 : Int32) (x3 : Int32) : Option Int32 :=
  if (fi q 0) ≤ x3 then (some x2) else (ck x3 6 (bn (x2 + (ar q 3 (ix x3))) fun x2_59 => bn (x3 + (1 : Int32)) fun x3_60 => bk43 x2_59 x3_60))
def f9_countOf_l43 (N : Nat) (q : SS) : Nat → Int32 → Int32 → Option Int32
  | 0 => fun _ _ => none
  | n + 1 => f9_countOf_l43_B N q (f9_countOf_l43 N q n)
def f9_countOf (N : Nat) (q : SS) (x1 : Int32) : Option Int32 :=
  if x1 = (0 : Int32) then (some (fi q 0)) else (if x1 = (1 : Int32) then (f9_countOf_l43 N q N ((0 : Int32)) ((0 : Int32))) else (if x1 = (2 : Int32) then (some (fi q 5)) else (if x1 = (3 : Int32) then (bd (f9_lettersIn N q ((jshl (1 : Int32) (fi q 0)) - (1 : Int32))) fun r_82 => bd (f9_bitsOf N r_82) fun r_85 => some r_85) else (if x1 = (4 : Int32) then (some (fi q 12)) else (some (-102 : Int32))))))
def f9_count (N : Nat) (q : SS) (x1 : Int32) : Option Int32 :=
  bd (f9_countOf N q x1) fun r_2 => some r_2
def f9_digest_l258_B (N : Nat) (bk258 : Int64 → Int32 → SS → Option (Int64 × SS)) (x1 : Int64) (x3 : Int32) (q : SS) : Option (Int64 × SS) :=
  if (5 : Int32) ≤ x3 then (some (x1, q)) else (bd (f9_countOf N q x3) fun r_270 => bn (((31 : Int64) * x1) + (Int32.toInt64 r_270)) fun x1_275 => bn (x3 + (1 : Int32)) fun x3_276 => bk258 x1_275 x3_276 q)
def f9_digest_l258 (N : Nat) : Nat → Int64 → Int32 → SS → Option (Int64 × SS)
  | 0 => fun _ _ _ => none
  | n + 1 => f9_digest_l258_B N (f9_digest_l258 N n)
def f9_digest_l228_B (N : Nat) (bk228 : Int64 → Int32 → SS → Option (Int64 × SS)) (x1 : Int64) (x3 : Int32) (q : SS) : Option (Int64 × SS) :=
  if (fi q 5) ≤ x3 then (f9_digest_l258 N N x1 ((0 : Int32)) q) else (ck x3 40 (bn (((31 : Int64) * x1) + (Int32.toInt64 (ar q 11 (ix x3)))) fun x1_249 => bn (x3 + (1 : Int32)) fun x3_250 => bk228 x1_249 x3_250 q))
def f9_digest_l228 (N : Nat) : Nat → Int64 → Int32 → SS → Option (Int64 × SS)
  | 0 => fun _ _ _ => none
  | n + 1 => f9_digest_l228_B N (f9_digest_l228 N n)
def f9_digest_b226 (N : Nat) (x1 : Int64) (q : SS) : Option (Int64 × SS) :=
  f9_digest_l228 N N x1 ((0 : Int32)) q
def f9_digest_b210 (N : Nat) (x3 : Int32) (s0 : Int32) (s1 : Int64) (q : SS) : Option (Int64 × SS) :=
  bn (s1 + (Int32.toInt64 s0)) fun x1_212 => bd (f9_coverOf N q x3) fun r_220 => bn (((31 : Int64) * x1_212) + (Int32.toInt64 r_220)) fun x1_225 => f9_digest_b226 N x1_225 q
def f9_digest_b107 (N : Nat) (bk6 : Int64 → Int32 → SS → Option (Int64 × SS)) (bk47 : Int64 → Int32 → Int32 → SS → Option (Int64 × SS)) (bk61 : Int64 → Int32 → Int32 → Int32 → SS → Option (Int64 × SS)) (x3 : Int32) (x4 : Int32) (x5 : Int32) (s0 : Int64) (q : SS) : Option (Int64 × SS) :=
  bn (x5 + (1 : Int32)) fun x5_108 => bk61 s0 x3 x4 x5_108 q
def f9_digest_l61_B (N : Nat) (bk6 : Int64 → Int32 → SS → Option (Int64 × SS)) (bk47 : Int64 → Int32 → Int32 → SS → Option (Int64 × SS)) (bk61 : Int64 → Int32 → Int32 → Int32 → SS → Option (Int64 × SS)) (x1 : Int64) (x3 : Int32) (x4 : Int32) (x5 : Int32) (q : SS) : Option (Int64 × SS) :=
  if (8 : Int32) ≤ x5 then (bn (x4 + (1 : Int32)) fun x4_114 => bk47 x1 x3 x4_114 q) else (bd (f9_has q x3 x5) fun r_72 => if r_72 = 0 then (f9_digest_b107 N bk6 bk47 bk61 x3 x4 x5 x1 q) else (ck ((((64 : Int32) * x3) + ((8 : Int32) * x4)) + x5) 384 (f9_digest_b107 N bk6 bk47 bk61 x3 x4 x5 (((31 : Int64) * x1) + (Int32.toInt64 (ar q 4 (ix ((((64 : Int32) * x3) + ((8 : Int32) * x4)) + x5))))) q)))
def f9_digest_l61 (N : Nat) (bk6 : Int64 → Int32 → SS → Option (Int64 × SS)) (bk47 : Int64 → Int32 → Int32 → SS → Option (Int64 × SS)) : Nat → Int64 → Int32 → Int32 → Int32 → SS → Option (Int64 × SS)
  | 0 => fun _ _ _ _ _ => none
  | n + 1 => f9_digest_l61_B N bk6 bk47 (f9_digest_l61 N bk6 bk47 n)
def f9_digest_l47_B (N : Nat) (bk6 : Int64 → Int32 → SS → Option (Int64 × SS)) (bk47 : Int64 → Int32 → Int32 → SS → Option (Int64 × SS)) (x1 : Int64) (x3 : Int32) (x4 : Int32) (q : SS) : Option (Int64 × SS) :=
  ck x3 6 (if (ar q 3 (ix x3)) ≤ x4 then (bn (x3 + (1 : Int32)) fun x3_120 => bk6 x1 x3_120 q) else (f9_digest_l61 N bk6 bk47 N x1 x3 x4 ((0 : Int32)) q))
def f9_digest_l47 (N : Nat) (bk6 : Int64 → Int32 → SS → Option (Int64 × SS)) : Nat → Int64 → Int32 → Int32 → SS → Option (Int64 × SS)
  | 0 => fun _ _ _ _ => none
  | n + 1 => f9_digest_l47_B N bk6 (f9_digest_l47 N bk6 n)
def f9_digest_l17_B (N : Nat) (bk6 : Int64 → Int32 → SS → Option (Int64 × SS)) (bk17 : Int64 → Int32 → Int32 → SS → Option (Int64 × SS)) (x1 : Int64) (x3 : Int32) (x4 : Int32) (q : SS) : Option (Int64 × SS) :=
  if (5 : Int32) ≤ x4 then (f9_digest_l47 N bk6 N x1 x3 ((0 : Int32)) q) else (bd (f9_aboutOf N q x3 x4) fun r_32 => bn (((31 : Int64) * x1) + (Int32.toInt64 r_32)) fun x1_37 => bn (x4 + (1 : Int32)) fun x4_38 => bk17 x1_37 x3 x4_38 q)
def f9_digest_l17 (N : Nat) (bk6 : Int64 → Int32 → SS → Option (Int64 × SS)) : Nat → Int64 → Int32 → Int32 → SS → Option (Int64 × SS)
  | 0 => fun _ _ _ _ => none
  | n + 1 => f9_digest_l17_B N bk6 (f9_digest_l17 N bk6 n)
def f9_digest_l6_B (N : Nat) (bk6 : Int64 → Int32 → SS → Option (Int64 × SS)) (x1 : Int64) (x3 : Int32) (q : SS) : Option (Int64 × SS) :=
  if (fi q 0) ≤ x3 then (bn (((31 : Int64) * x1) + (Int32.toInt64 (fi q 1))) fun x1_137 => bn (((31 : Int64) * x1_137) + (Int32.toInt64 (fi q 2))) fun x1_149 => if (fi q 0) ≤ 0 then (f9_digest_b226 N x1_149 q) else (bn ((jshl (1 : Int32) (fi q 0)) - (1 : Int32)) fun x3_165 => bd2 (f9_trueSize N x3_165 q) fun r_173 q_173 => bn (((31 : Int64) * x1_149) + (Int32.toInt64 r_173)) fun x1_178 => bd (f9_foretoldSize N q_173 x3_165) fun r_186 => bn (((31 : Int64) * x1_178) + (Int32.toInt64 r_186)) fun x1_191 => bd2 (f9_doesHang N x3_165 q_173) fun r_199 q_199 => if r_199 = 0 then (f9_digest_b210 N x3_165 ((0 : Int32)) ((31 : Int64) * x1_191) q_199) else (f9_digest_b210 N x3_165 ((1 : Int32)) ((31 : Int64) * x1_191) q_199))) else (f9_digest_l17 N bk6 N x1 x3 ((0 : Int32)) q)
def f9_digest_l6 (N : Nat) : Nat → Int64 → Int32 → SS → Option (Int64 × SS)
  | 0 => fun _ _ _ => none
  | n + 1 => f9_digest_l6_B N (f9_digest_l6 N n)
def f9_digest (N : Nat) (q : SS) : Option (Int64 × SS) :=
  f9_digest_l6 N N ((269 : Int64)) ((0 : Int32)) q
